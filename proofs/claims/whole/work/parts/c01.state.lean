/-! j: what the rest of the memory holds: the RULE, names, tape, images, the latest fault, the next tree's edges, the latest text -/
/-- a fresh object: no network has been read yet -/
def G00 : gG := (0, 0, fun _ => 0, fun _ => 0, fun _ => 0)
def S00 : gS := (fun _ _ => 0, fun _ => 0, fun _ _ => 0, 0, 0, 0)
def X00 : cX := (fun _ => 0, fun _ => 0, fun _ => 0, fun _ => 0, fun _ => 0, fun _ => 0, fun _ => 0, 0, 0, 0, 0)
def XX (G : gG) (S : gS) (X : cX) : Prop := XR G S X ∨ (G = G00 ∧ S = S00 ∧ X = X00)
theorem XX_R {G : gG} {S : gS} {X : cX} (hv : hV G S) (h : XX G S X) : XR G S X := by
  rcases h with h | ⟨rfl, rfl, rfl⟩
  · exact h
  · have h1 := (hv.2.2.1.2.1 0).2.2.1
    have h2 : gnd S00 0 2 = 0 := rfl
    have h3 : gE G00 = 0 := rfl
    omega
abbrev qNm : Type := Int × (Int → Int) × (Int → Int → Int)
abbrev qIm : Type := Option (gG × gS × gR × qNm)
abbrev qK : Type := gR × qNm × (Int × (Int → Int)) × qIm × qIm × (Int × Int) × (Int × Int) × (Int × (Int → Int))
def kR (K : qK) : gR := K.1
def kN (K : qK) : qNm := K.2.1
def kT (K : qK) : Int × (Int → Int) := K.2.2.1
def kI0 (K : qK) : qIm := K.2.2.2.1
def kI1 (K : qK) : qIm := K.2.2.2.2.1
def kF (K : qK) : Int × Int := K.2.2.2.2.2.1
def kO (K : qK) : Int × Int := K.2.2.2.2.2.2.1
def kX (K : qK) : Int × (Int → Int) := K.2.2.2.2.2.2.2
def hGx (G : gG) : Prop := ∀ e, 0 ≤ e → e < gE G → 1 ≤ gwt G e ∧ gwt G e ≤ 99
theorem hGx_w {G : gG} (h : hGx G) : hGw G := fun e e0 e1 => by have := h e e0 e1; omega
def nOK (N : qNm) : Prop := 0 ≤ N.1 ∧ N.1 ≤ 12 ∧ ∀ n, 0 ≤ n → n < N.1 → (1 ≤ N.2.1 n ∧ N.2.1 n ≤ 7) ∧ ∀ i, 0 ≤ i → i < N.2.1 n → 97 ≤ N.2.2 n i ∧ N.2.2 n i ≤ 122
def imOK (I : qIm) : Prop := ∀ G S R N, I = some (G, S, R, N) → ((hGok G ∧ hGx G ∧ hV G S ∧ hZ G S) ∨ (G = G00 ∧ S = S00)) ∧ rok R ∧ nOK N ∧ N.1 = gN G
def kOK (K : qK) : Prop := rok (kR K) ∧ nOK (kN K) ∧ (0 ≤ (kT K).1 ∧ (kT K).1 ≤ 940 ∧ ∀ i, 0 ≤ i → i < (kT K).1 → 0 ≤ (kT K).2 i ∧ (kT K).2 i ≤ 255) ∧ imOK (kI0 K) ∧ imOK (kI1 K) ∧ (0 ≤ (kF K).1 ∧ (kF K).1 ≤ 4) ∧ (0 ≤ (kF K).2 ∧ (kF K).2 ≤ 1000) ∧ (-1 ≤ (kO K).1 ∧ (kO K).1 ≤ 30) ∧ (-1 ≤ (kO K).2 ∧ (kO K).2 ≤ 30) ∧ (0 ≤ (kX K).1 ∧ (kX K).1 ≤ 48)
def uOKx (G : gG) (U : List gU) : Prop := ∀ e, e ∈ U → ∀ i, 0 ≤ i → i < gE G → 1 ≤ e.1 i ∧ e.1 i ≤ 99
def pOK (G : gG) (S : gS) (U : List gU) (K : qK) : Prop := hGok G ∧ hGx G ∧ hV G S ∧ hZ G S ∧ uOK G U ∧ uOKx G U ∧ kOK K ∧ (kN K).1 = gN G
/-- a byte of the class -/
def sby (b : Int) : Int := if b < 128 then b else b - 256
def cNm (b : Nat) (N : qNm) (ν : ax_M) : Prop := ∀ n, 0 ≤ n → n < N.1 → ν.1 (b + 2) n.toNat = zI (N.2.1 n) ∧ ∀ i, 0 ≤ i → i < N.2.1 n → ν.1 (b + 1) (n * 7 + i).toNat = zI (N.2.2 n i)
/-- a net of the class: base b -/
def cNt (b : Nat) (G : gG) (ν : ax_M) : Prop := ν.1 b 0 = zI (gN G) ∧ ν.1 b 1 = zI (gE G) ∧ rP ν (b + 3) (2 * gE G) (gsd G)
def cIm (b : Nat) (I : qIm) (ν : ax_M) : Prop := match I with
  | none => ν.1 b 3 = zI 0
  | some (G, S, R, N) => ν.1 b 3 = zI 1 ∧ cNt (b + 1) G ν ∧ cNm (b + 1) N ν ∧ kP (b + 6) R ν ∧ ∃ X, cP (b + 14) (gwt G) S X ν ∧ XX G S X
def jC (K : qK) (ν : ax_M) : Prop := kP 13 (kR K) ν ∧ cNm 3 (kN K) ν ∧ ν.1 0 1 = zI (kT K).1 ∧ rP ν 1 (kT K).1 (fun i => sby ((kT K).2 i)) ∧ cIm 152 (kI0 K) ν ∧ cIm 177 (kI1 K) ν ∧ ν.1 2 8 = zI (kF K).1 ∧ ((kF K).1 ≠ 0 → ν.1 2 7 = zI (kF K).2) ∧ ν.1 0 15 = zI (kO K).1 ∧ ν.1 0 16 = zI (kO K).2 ∧ ν.1 205 1 = zI (kX K).1 ∧ rP ν 206 (kX K).1 (kX K).2
/-- cells that jC reads -/
def jCs (a : Nat) : Prop := a = 1 ∨ a = 2 ∨ a = 4 ∨ a = 5 ∨ (14 ≤ a ∧ a ≤ 18) ∨ (152 ≤ a ∧ a ≤ 201) ∨ a = 205 ∨ a = 206
theorem rP_e {ν ν' : ax_M} {a : Nat} {n : Int} {f : Int → Int} (h : ν'.1 a = ν.1 a) (hr : rP ν a n f) : rP ν' a n f := by
  intro i i0 i1
  rw [h]
  exact hr i i0 i1
theorem kP_e {b : Nat} {R : gR} {ν ν' : ax_M} (h0 : ν'.1 b 0 = ν.1 b 0) (h : ∀ a, b < a → a ≤ b + 5 → ν'.1 a = ν.1 a) (hk : kP b R ν) : kP b R ν' := by
  obtain ⟨a0, a1, a2, a3, a4, a5⟩ := hk
  refine ⟨h0.trans a0, rP_e (h _ (by omega) (by omega)) a1, rP_e (h _ (by omega) (by omega)) a2, rP_e (h _ (by omega) (by omega)) a3, ?_, ?_⟩
  · rw [h (b + 4) (by omega) (by omega)]
    exact a4
  · rw [h (b + 5) (by omega) (by omega)]
    exact a5
theorem cP_e {o : Nat} {W : Int → Int} {S : gS} {X : cX} {ν ν' : ax_M} (h : ∀ a, a ∈ cOL o → ν'.1 a = ν.1 a) (hp : cP o W S X ν) : cP o W S X ν' := by
  have e0 := h o (by simp [cOL])
  have e1 := h (o + 1) (by simp [cOL])
  have e2 := h (o + 2) (by simp [cOL])
  have e3 := h (o + 3) (by simp [cOL])
  have e4 := h (o + 4) (by simp [cOL])
  have e5 := h (o + 5) (by simp [cOL])
  have e6 := h (o + 6) (by simp [cOL])
  have e7 := h (o + 7) (by simp [cOL])
  have e9 := h (o + 9) (by simp [cOL])
  have e10 := h (o + 10) (by simp [cOL])
  unfold cP wP rP at *
  simp only [e0, e1, e2, e3, e4, e5, e6, e7, e9, e10]
  exact hp
theorem cIm_e {b : Nat} {I : qIm} {ν ν' : ax_M} (h : ∀ a, b ≤ a → a ≤ b + 24 → ν'.1 a = ν.1 a) (hi : cIm b I ν) : cIm b I ν' := by
  have e0 := h b (by omega) (by omega)
  cases I with
  | none =>
    show ν'.1 b 3 = zI 0
    rw [e0]
    exact hi
  | some x =>
    obtain ⟨G, S, R, N⟩ := x
    obtain ⟨a1, a2, a3, a4, X, a5, a6⟩ := hi
    refine ⟨by rw [e0]; exact a1, ?_, ?_, kP_e (by rw [h (b + 6) (by omega) (by omega)]) (fun a h1 h2 => h a (by omega) (by omega)) a4, X, cP_e (fun a ha => h a (by simp [cOL] at ha; omega) (by simp [cOL] at ha; omega)) a5, a6⟩
    · unfold cNt rP at *
      rw [h (b + 1) (by omega) (by omega), h (b + 1 + 3) (by omega) (by omega)]
      exact a2
    · unfold cNm at *
      rw [h (b + 1 + 2) (by omega) (by omega), h (b + 1 + 1) (by omega) (by omega)]
      exact a3
theorem jC_e {K : qK} {ν ν' : ax_M} (h : ∀ a, jCs a → ν'.1 a = ν.1 a) (h13 : ν'.1 13 0 = ν.1 13 0) (h1 : ν'.1 0 1 = ν.1 0 1) (h15 : ν'.1 0 15 = ν.1 0 15) (h16 : ν'.1 0 16 = ν.1 0 16) (hj : jC K ν) : jC K ν' := by
  obtain ⟨a1, a2, a3, a4, a5, a6, a7, a8, a9, a10, a11, a12⟩ := hj
  have e2 := h 2 (by unfold jCs; omega)
  have e205 := h 205 (by unfold jCs; omega)
  refine ⟨kP_e h13 (fun a q1 q2 => h a (by unfold jCs; omega)) a1, ?_, h1.trans a3, rP_e (h 1 (by unfold jCs; omega)) a4, cIm_e (fun a q1 q2 => h a (by unfold jCs; omega)) a5, cIm_e (fun a q1 q2 => h a (by unfold jCs; omega)) a6, by rw [e2]; exact a7, by rw [e2]; exact a8, h15.trans a9, h16.trans a10, by rw [e205]; exact a11, rP_e (h 206 (by unfold jCs; omega)) a12⟩
  unfold cNm at *
  rw [h (3 + 2) (by unfold jCs; omega), h (3 + 1) (by unfold jCs; omega)]
  exact a2
theorem jC_fr {K : qK} {l : List Nat} {ν ν' : ax_M} (hf : fr l ν ν') (h : ∀ a, a ∈ l → ¬ jCs a) (h13 : ν'.1 13 0 = ν.1 13 0) (h1 : ν'.1 0 1 = ν.1 0 1) (h15 : ν'.1 0 15 = ν.1 0 15) (h16 : ν'.1 0 16 = ν.1 0 16) (hj : jC K ν) : jC K ν' := jC_e (fun a ha => hf.2 a (fun q => h a q ha)) h13 h1 h15 h16 hj
/-- the class's side -/
def iC (G : gG) (S : gS) (U : List gU) (K : qK) (ν : ax_M) : Prop := (∃ X, cI 29 G S X ν ∧ XX G S X) ∧ uC G U ν ∧ jC K ν
theorem iC_R {G : gG} {S : gS} {U : List gU} {K : qK} {ν : ax_M} (hv : hV G S) (h : iC G S U K ν) : (∃ X, cI 29 G S X ν ∧ XR G S X) ∧ uC G U ν ∧ jC K ν := by
  obtain ⟨⟨X, x1, x2⟩, u, j⟩ := h
  exact ⟨⟨X, x1, XX_R hv x2⟩, u, j⟩
theorem iC_e {G : gG} {S : gS} {U : List gU} {K : qK} {ν ν' : ax_M} (h : ∀ a, a < 207 → ν'.1 a = ν.1 a) (hi : iC G S U K ν) : iC G S U K ν' := by
  obtain ⟨⟨X, a1, a2⟩, ⟨top, b1, b2, b3, b4, b5⟩, c⟩ := hi
  have hc := cI_cP (Or.inl rfl) a1
  have ht : tI G ν' := by
    unfold tI rP at *
    rw [h 3 (by omega), h 6 (by omega)]
    exact hc.2
  have hp : cP 29 (gwt G) S X ν' := cP_e (fun a ha => h a (by simp [cOL] at ha; omega)) hc.1
  refine ⟨⟨X, ?_, a2⟩, ⟨top, b1, b2, by rw [h 0 (by omega)]; exact b3, by rw [h 0 (by omega)]; exact b4, ?_⟩, jC_e (fun a ha => h a (by unfold jCs at ha; omega)) (by rw [h 13 (by omega)]) (by rw [h 0 (by omega)]) (by rw [h 0 (by omega)]) (by rw [h 0 (by omega)]) c⟩
  · have := cP_cI (Or.inl rfl) hp ht
    rwa [GW_id] at this
  · intro j e he
    obtain ⟨X', p1, p2⟩ := b5 j e he
    exact ⟨X', cP_e (fun a ha => h a (by have := cOL_pc ha; omega)) p1, p2⟩
/-! the reference's side -/
def oPg (R : gR) (g : Int → Int32) : Prop := g 62 = zI (rLn R) ∧ ∀ i, 0 ≤ i → i < rLn R → g (63 + 11 * i) = zI (rLa R i) ∧ g (63 + 11 * i + 1) = zI (if rWd R i < 8 then rWd R i else rWd R i + 7) ∧ ∀ c, 0 ≤ c → c < 4 → g (63 + 11 * i + 3 + 2 * c) = zI (if c < rCn R i then rCw R i c - 4 else 0) ∧ g (63 + 11 * i + 3 + 2 * c + 1) = zI (if c < rCn R i then rCv R i c else 0)
theorem oP_g {R : gR} {ν : ax_M} : oP R ν ↔ oPg R (fun i => ν.1 209 i.toNat) := Iff.rfl
def nIg (G : gG) (g : Int → Int32) : Prop := g 0 = zI (gN G) ∧ g 1 = zI (gE G) ∧ (∀ e, 0 ≤ e → e < 30 → g (2 + e) = zI (gfr G e)) ∧ (∀ e, 0 ≤ e → e < 30 → g (32 + e) = zI (gsc G e))
theorem nI_g {G : gG} {ν : ax_M} : nnI G ν ↔ nIg G (fun i => ν.1 209 i.toNat) := Iff.rfl
def qen (s : Int → Int) : Nat → Int
  | 0 => 0
  | i + 1 => 27 * qen s i + s i - 96
def rNm (a : Nat) (d : Int) (N : qNm) (ν : ax_M) : Prop := ∀ n, 0 ≤ n → n < N.1 → ν.2 a (d + n).toNat = Int64.ofInt (qen (N.2.2 n) (N.2.1 n).toNat)
def rIm (k : Int) (I : qIm) (ν : ax_M) : Prop := match I with
  | none => ν.1 218 k.toNat = zI 0
  | some (G, S, R, N) => ν.1 218 k.toNat = zI 1 ∧ nIg G (fun i => ν.1 211 (2466 * k + i).toNat) ∧ oPg R (fun i => ν.1 211 (2466 * k + i).toNat) ∧ sP (fun i => ν.1 211 (2466 * k + i).toNat) (gwt G) S ∧ rNm 217 (12 * k) N ν
def jM (K : qK) (ν : ax_M) : Prop := oP (kR K) ν ∧ rNm 215 0 (kN K) ν ∧ ν.1 207 2 = zI (kT K).1 ∧ rP ν 208 (kT K).1 (kT K).2 ∧ rIm 0 (kI0 K) ν ∧ rIm 1 (kI1 K) ν ∧ ν.1 207 9 = zI (kF K).1 ∧ ν.1 207 10 = zI (if (kF K).1 = 0 then -1 else (kF K).2) ∧ ν.1 207 30 = zI (kO K).1 ∧ ν.1 207 31 = zI (kO K).2 ∧ ν.1 207 34 = zI (kX K).1 ∧ rP ν 224 (kX K).1 (kX K).2
def jMs (a : Nat) : Prop := a = 208 ∨ a = 211 ∨ a = 218 ∨ a = 224
theorem rIm_e {k : Int} {I : qIm} {ν ν' : ax_M} (h1 : ν'.1 211 = ν.1 211) (h2 : ν'.1 218 = ν.1 218) (h3 : ν'.2 217 = ν.2 217) (hi : rIm k I ν) : rIm k I ν' := by
  cases I with
  | none =>
    show ν'.1 218 k.toNat = zI 0
    rw [h2]
    exact hi
  | some x =>
    obtain ⟨G, S, R, N⟩ := x
    obtain ⟨a1, a2, a3, a4, a5⟩ := hi
    refine ⟨by rw [h2]; exact a1, by rw [h1]; exact a2, by rw [h1]; exact a3, by rw [h1]; exact a4, ?_⟩
    unfold rNm at *
    rw [h3]
    exact a5
theorem jM_e {K : qK} {ν ν' : ax_M} (h2 : ν'.2 215 = ν.2 215) (h3 : ν'.2 217 = ν.2 217) (h : ∀ a, jMs a → ν'.1 a = ν.1 a) (h7 : ∀ k, (k = 2 ∨ k = 9 ∨ k = 10 ∨ k = 30 ∨ k = 31 ∨ k = 34) → ν'.1 207 k = ν.1 207 k) (hb : bgR ν ν') (hK : rok (kR K)) (hj : jM K ν) : jM K ν' := by
  obtain ⟨a1, a2, a3, a4, a5, a6, a7, a8, a9, a10, a11, a12⟩ := hj
  refine ⟨oP_bg hK hb a1, ?_, (h7 2 (by omega)).trans a3, rP_e (h 208 (by unfold jMs; omega)) a4, rIm_e (h 211 (by unfold jMs; omega)) (h 218 (by unfold jMs; omega)) h3 a5, rIm_e (h 211 (by unfold jMs; omega)) (h 218 (by unfold jMs; omega)) h3 a6, (h7 9 (by omega)).trans a7, (h7 10 (by omega)).trans a8, (h7 30 (by omega)).trans a9, (h7 31 (by omega)).trans a10, (h7 34 (by omega)).trans a11, rP_e (h 224 (by unfold jMs; omega)) a12⟩
  unfold rNm at *
  rw [h2]
  exact a2
theorem jM_fr {K : qK} {l : List Nat} {ν ν' : ax_M} (hf : fr l ν ν') (h : ∀ a, a ∈ l → ¬ jMs a) (h7 : ∀ k, (k = 2 ∨ k = 9 ∨ k = 10 ∨ k = 30 ∨ k = 31 ∨ k = 34) → ν'.1 207 k = ν.1 207 k) (hb : bgR ν ν') (hK : rok (kR K)) (hj : jM K ν) : jM K ν' := jM_e (by rw [hf.1]) (by rw [hf.1]) (fun a ha => hf.2 a (fun q => h a q ha)) h7 hb hK hj
def iM (G : gG) (S : gS) (U : List gU) (K : qK) (ν : ax_M) : Prop := mI G S ν ∧ uM U ν ∧ jM K ν
theorem iM_e {G : gG} {S : gS} {U : List gU} {K : qK} {ν ν' : ax_M} (hK : rok (kR K)) (h : ∀ a, 207 ≤ a → ν'.1 a = ν.1 a) (h2 : ν'.2 = ν.2) (hi : iM G S U K ν) : iM G S U K ν' := by
  obtain ⟨a1, ⟨u1, u2⟩, a3⟩ := hi
  refine ⟨?_, ⟨by rw [h 207 (by omega)]; exact u1, by rw [h 212 (by omega)]; exact u2⟩, jM_e (by rw [h2]) (by rw [h2]) (fun a ha => h a (by unfold jMs at ha; omega)) (fun k _ => by rw [h 207 (by omega)]) (fun k _ _ => by rw [h 209 (by omega)]) hK a3⟩
  have hs := mI_sP a1
  have : mI (gGW G (gwt G)) S ν' := sP_mI (by unfold nnI; rw [h 209 (by omega)]; exact hs.2) (by rw [h 209 (by omega)]; exact hs.1)
  rwa [GW_id] at this
/-- what a call of the class leaves, and one of the reference -/
def frC (ν ν' : ax_M) : Prop := ν'.2 = ν.2 ∧ ∀ a, 207 ≤ a → ν'.1 a = ν.1 a
def frM (ν ν' : ax_M) : Prop := ∀ a, a < 207 → ν'.1 a = ν.1 a
theorem frC_of {l : List Nat} {ν ν' : ax_M} (h : fr l ν ν') (hl : ∀ a, a ∈ l → a < 207) : frC ν ν' := ⟨h.1, fun a ha => h.2 a (fun q => by have := hl a q; omega)⟩
theorem frM_of {l : List Nat} {ν ν' : ax_M} (h : fr l ν ν') (hl : ∀ a, a ∈ l → 207 ≤ a) : frM ν ν' := fun a ha => h.2 a (fun q => by have := hl a q; omega)
/-- a call: class and reference answer alike, and what holds goes on to hold -/
def qCl (G : gG) (S : gS) (U : List gU) (K : qK) (fC fM : Nat) (aC aM : List Value) : Prop := ∃ (r : Int32) (G' : gG) (S' : gS) (U' : List gU) (K' : qK), pOK G' S' U' K' ∧ (∀ ν, iC G S U K ν → ∃ ν', aJ fC aC [] ν = some (some (.int r), ν') ∧ iC G' S' U' K' ν' ∧ frC ν ν') ∧ (∀ ν, iM G S U K ν → ∃ ν', aJ fM aM [] ν = some (some (.int r), ν') ∧ iM G' S' U' K' ν' ∧ frM ν ν')
