/-! o: rule: the draft on both sides -/
def rad (R : gR) (w l : Int) : gR := (rLn R + 1, pu (rWd R) (rLn R) w, pu (rLa R) (rLn R) l, pu (rCn R) (rLn R) 0, rCw R, rCv R)
def rca (R : gR) (w v : Int) : gR := (rLn R, rWd R, rLa R, pu (rCn R) (rLn R - 1) (rCn R (rLn R - 1) + 1), fun i c => if i = rLn R - 1 ∧ c = rCn R (rLn R - 1) then w else rCw R i c, fun i c => if i = rLn R - 1 ∧ c = rCn R (rLn R - 1) then v else rCv R i c)
theorem rad_ok {R : gR} {w l : Int} (h : rok R) (hn : rLn R < 10) (hw : 0 ≤ w ∧ w ≤ 13) (hl : l = 0 ∨ l = 1) : rok (rad R w l) := by
  obtain ⟨⟨h1, h2⟩, h3⟩ := h
  refine ⟨⟨by show 0 ≤ rLn R + 1; omega, by show rLn R + 1 ≤ 10; omega⟩, fun i i0 i1 => ?_⟩
  have i1' : i < rLn R + 1 := i1
  show (0 ≤ pu (rWd R) (rLn R) w i ∧ pu (rWd R) (rLn R) w i ≤ 13) ∧ (pu (rLa R) (rLn R) l i = 0 ∨ pu (rLa R) (rLn R) l i = 1) ∧ (0 ≤ pu (rCn R) (rLn R) 0 i ∧ pu (rCn R) (rLn R) 0 i ≤ 4) ∧ ∀ c, 0 ≤ c → c < pu (rCn R) (rLn R) 0 i → _
  by_cases q : i = rLn R
  · rw [q, pu_at, pu_at, pu_at]
    exact ⟨hw, hl, by omega, fun c c0 c1 => by omega⟩
  · rw [pu_ne q, pu_ne q, pu_ne q]
    exact h3 i i0 (by omega)
theorem rca_ok {R : gR} {w v : Int} (h : rok R) (hn : 1 ≤ rLn R) (hc : rCn R (rLn R - 1) < 4) (hw : 15 ≤ w ∧ w ≤ 18) (hv : 0 ≤ v ∧ v ≤ 99) : rok (rca R w v) := by
  obtain ⟨h1, h3⟩ := h
  refine ⟨h1, fun i i0 i1 => ?_⟩
  obtain ⟨a, b, c, d⟩ := h3 i i0 i1
  refine ⟨a, b, ?_, fun c' c0 c1 => ?_⟩
  · show 0 ≤ pu (rCn R) (rLn R - 1) (rCn R (rLn R - 1) + 1) i ∧ pu (rCn R) (rLn R - 1) (rCn R (rLn R - 1) + 1) i ≤ 4
    by_cases q : i = rLn R - 1
    · rw [q, pu_at]
      rw [q] at c
      omega
    · rw [pu_ne q]
      exact c
  · have c1' : c' < pu (rCn R) (rLn R - 1) (rCn R (rLn R - 1) + 1) i := c1
    show (15 ≤ (if i = rLn R - 1 ∧ c' = rCn R (rLn R - 1) then w else rCw R i c') ∧ (if i = rLn R - 1 ∧ c' = rCn R (rLn R - 1) then w else rCw R i c') ≤ 18) ∧ (0 ≤ (if i = rLn R - 1 ∧ c' = rCn R (rLn R - 1) then v else rCv R i c') ∧ (if i = rLn R - 1 ∧ c' = rCn R (rLn R - 1) then v else rCv R i c') ≤ 99)
    by_cases q : i = rLn R - 1 ∧ c' = rCn R (rLn R - 1)
    · rw [if_pos q, if_pos q]
      exact ⟨hw, hv⟩
    · rw [if_neg q, if_neg q]
      refine d c' c0 ?_
      by_cases q' : i = rLn R - 1
      · rw [q', pu_at] at c1'
        rw [q']
        have : c' ≠ rCn R (rLn R - 1) := fun z => q ⟨q', z⟩
        omega
      · rw [pu_ne q'] at c1'
        exact c1'
def wC (N : qNm) (R : gR) (ν : ax_M) : Prop := cNm 3 N ν ∧ ν.1 3 0 = zI N.1 ∧ kP 21 R ν
def wM (N : qNm) (R : gR) (ν : ax_M) : Prop := ν.1 209 0 = zI N.1 ∧ rNm 215 0 N ν ∧ (∀ i, 0 ≤ i → i < rLn R → ν.1 210 (63 + 11 * i).toNat = zI (rLa R i) ∧ ν.1 210 (63 + 11 * i + 1).toNat = zI (if rWd R i < 8 then rWd R i else rWd R i + 7) ∧ ∀ c, 0 ≤ c → c < 4 → ν.1 210 (63 + 11 * i + 3 + 2 * c).toNat = zI (if c < rCn R i then rCw R i c - 4 else 0) ∧ ν.1 210 (63 + 11 * i + 3 + 2 * c + 1).toNat = zI (if c < rCn R i then rCv R i c else 0)) ∧ ∀ j : Nat, 63 + 11 * rLn R ≤ j → j < 173 → ν.1 210 j = zI 0
theorem wC_fr {N : qNm} {R : gR} {l : List Nat} {ν ν' : ax_M} (h : fr l ν ν') (hl : ∀ a, a ∈ l → a < 3) (hw : wC N R ν) : wC N R ν' := by
  obtain ⟨a, b, c⟩ := hw
  have hn : ∀ a, 3 ≤ a → a ∉ l := fun a h1 q => by have := hl a q; omega
  exact ⟨cNm_e (h.2 _ (hn _ (by omega))) (h.2 _ (hn _ (by omega))) a, (fr_at h (hn 3 (by omega)) 0).trans b, kP_fr h (fr_at h (hn 21 (by omega)) 0) (fun a ha => by have := hl a ha; omega) c⟩
theorem wC_2 {N : qNm} {R : gR} {ν ν' : ax_M} (h : fr [2] ν ν') (hw : wC N R ν) : wC N R ν' := wC_fr h (fun a ha => by
  have h2 : a = 2 := by simpa using ha
  omega) hw
theorem wM_e {N : qNm} {R : gR} {ν ν' : ax_M} (h : ∀ a, a ≠ 207 → ν'.1 a = ν.1 a) (hL : ∀ a, a ≠ 207 → ν'.2 a = ν.2 a) (hw : wM N R ν) : wM N R ν' := by
  obtain ⟨a, b, c, d⟩ := hw
  unfold wM rNm
  rw [h 209 (by decide), h 210 (by decide), hL 215 (by decide)]
  exact ⟨a, b, c, d⟩
theorem fr_off {l : List Nat} {ν ν' : ax_M} (h : fr l ν ν') {a k : Nat} (ha : a ∉ l) : ν'.1 a k = ν.1 a k := fr_at h ha k
/-- the class adds a line -/
theorem q_adl {N : qNm} {R : gR} {w l : Int} {ν : ax_M} (hR : rok R) (hn : rLn R < 10) (hl : l = 0 ∨ l = 1) (hw : wC N R ν) : ∃ ν', aJ 1082 [.ref 21, .int (zI w), .int (zI l)] [] ν = some (none, ν') ∧ wC N (rad R w l) ν' ∧ fr [21, 22, 23, 24] ν ν' := by
  obtain ⟨a, b, c⟩ := hw
  obtain ⟨k0, k1, k2, k3, k4, k5⟩ := c
  have n0 := hR.1.1
  generalize hN : rLn R = n at *
  have f1 : fr [22] ν (ax_up ν.1 22 n.toNat (zI w), ν.2) := fru (by simp)
  have f2 : fr [23] (ax_up ν.1 22 n.toNat (zI w), ν.2) (ax_up (ax_up ν.1 22 n.toNat (zI w)) 23 n.toNat (zI l), ν.2) := fru (ν := (ax_up ν.1 22 n.toNat (zI w), ν.2)) (by simp)
  have f3 : fr [24] (ax_up (ax_up ν.1 22 n.toNat (zI w)) 23 n.toNat (zI l), ν.2) (ax_up (ax_up (ax_up ν.1 22 n.toNat (zI w)) 23 n.toNat (zI l)) 24 n.toNat (zI 0), ν.2) := fru (ν := (ax_up (ax_up ν.1 22 n.toNat (zI w)) 23 n.toNat (zI l), ν.2)) (by simp)
  have f4 : fr [21] (ax_up (ax_up (ax_up ν.1 22 n.toNat (zI w)) 23 n.toNat (zI l)) 24 n.toNat (zI 0), ν.2) (ax_uD (ax_up (ax_up (ax_up ν.1 22 n.toNat (zI w)) 23 n.toNat (zI l)) 24 n.toNat (zI 0), ν.2) 21 0 (zI (n + 1))) := fr_uD (by simp)
  have fa : fr [21, 22, 23, 24] ν (ax_uD (ax_up (ax_up (ax_up ν.1 22 n.toNat (zI w)) 23 n.toNat (zI l)) 24 n.toNat (zI 0), ν.2) 21 0 (zI (n + 1))) := frt (frm f1 (by simp)) (frt (frm f2 (by simp)) (frt (frm f3 (by simp)) (frm f4 (by simp))))
  have e22 : ∀ j, (ax_uD (ax_up (ax_up (ax_up ν.1 22 n.toNat (zI w)) 23 n.toNat (zI l)) 24 n.toNat (zI 0), ν.2) 21 0 (zI (n + 1))).1 22 j = ax_up ν.1 22 n.toNat (zI w) 22 j := fun j => (fr_at f4 (by decide) j).trans ((fr_at f3 (by decide) j).trans (fr_at f2 (by decide) j))
  have e23 : ∀ j, (ax_uD (ax_up (ax_up (ax_up ν.1 22 n.toNat (zI w)) 23 n.toNat (zI l)) 24 n.toNat (zI 0), ν.2) 21 0 (zI (n + 1))).1 23 j = ax_up (ax_up ν.1 22 n.toNat (zI w)) 23 n.toNat (zI l) 23 j := fun j => (fr_at f4 (by decide) j).trans (fr_at f3 (by decide) j)
  have e24 : ∀ j, (ax_uD (ax_up (ax_up (ax_up ν.1 22 n.toNat (zI w)) 23 n.toNat (zI l)) 24 n.toNat (zI 0), ν.2) 21 0 (zI (n + 1))).1 24 j = ax_up (ax_up (ax_up ν.1 22 n.toNat (zI w)) 23 n.toNat (zI l)) 24 n.toNat (zI 0) 24 j := fun j => fr_at f4 (by decide) j
  have e23' : ∀ j, ax_up ν.1 22 n.toNat (zI w) 23 j = ν.1 23 j := fun j => up_ne (by decide)
  have e24' : ∀ j, ax_up (ax_up ν.1 22 n.toNat (zI w)) 23 n.toNat (zI l) 24 j = ν.1 24 j := fun j => (up_ne (show 24 ≠ 23 by decide)).trans (up_ne (by decide))
  have e21 : ax_up (ax_up (ax_up ν.1 22 n.toNat (zI w)) 23 n.toNat (zI l)) 24 n.toNat (zI 0) 21 0 = zI n := (up_ne (show 21 ≠ 24 by decide)).trans ((up_ne (show 21 ≠ 23 by decide)).trans ((up_ne (show 21 ≠ 22 by decide)).trans k0))
  have e21' : ax_up (ax_up ν.1 22 n.toNat (zI w)) 23 n.toNat (zI l) 21 0 = zI n := (up_ne (show 21 ≠ 23 by decide)).trans ((up_ne (show 21 ≠ 22 by decide)).trans k0)
  have e21'' : ax_up ν.1 22 n.toNat (zI w) 21 0 = zI n := (up_ne (show 21 ≠ 22 by decide)).trans k0
  have hu : (ax_uD (ax_up (ax_up (ax_up ν.1 22 n.toNat (zI w)) 23 n.toNat (zI l)) 24 n.toNat (zI 0), ν.2) 21 0 (zI (n + 1))).1 21 0 = zI (n + 1) := uD_at
  refine ⟨ax_uD (ax_up (ax_up (ax_up ν.1 22 n.toNat (zI w)) 23 n.toNat (zI l)) 24 n.toNat (zI 0), ν.2) 21 0 (zI (n + 1)), ?_, ?_, fa⟩
  · have hfin : aJ 1084 [.ref 21] [.int (zI l), .int (zI n), .ref 23] (ax_up ν.1 22 n.toNat (zI w), ν.2) = some (none, ax_uD (ax_up (ax_up (ax_up ν.1 22 n.toNat (zI w)) 23 n.toNat (zI l)) 24 n.toNat (zI 0), ν.2) 21 0 (zI (n + 1))) := by
      rw [jl_1084, c_put (len := 10) (by decide) (by decide) n0 hn, z_b0, show ((ax_up (ax_up ν.1 22 n.toNat (zI w)) 23 n.toNat (zI l), ν.2) : ax_M).1 21 0 = zI n from e21', c_put (len := 10) (by decide) (by decide) n0 hn, z_b0, show ((ax_up (ax_up (ax_up ν.1 22 n.toNat (zI w)) 23 n.toNat (zI l)) 24 n.toNat 0, ν.2) : ax_M).1 21 0 = zI n from e21, zI_a1]
      rfl
    rw [jl_1082, k0, c_put (len := 10) (by decide) (by decide) n0 hn, z_b0, show ((ax_up ν.1 22 n.toNat (zI w), ν.2) : ax_M).1 21 0 = zI n from e21'']
    rcases hl with rfl | rfl
    · rw [if_pos (by decide), jl_1083]
      exact hfin
    · rw [if_neg (by decide)]
      exact hfin
  · refine ⟨cNm_e (fa.2 _ (by decide)) (fa.2 _ (by decide)) a, (fr_at fa (by decide) 0).trans b, ?_⟩
    generalize ax_uD (ax_up (ax_up (ax_up ν.1 22 n.toNat (zI w)) 23 n.toNat (zI l)) 24 n.toNat (zI 0), ν.2) 21 0 (zI (n + 1)) = ν' at *
    refine ⟨by show _ = zI (rLn R + 1); rw [hN]; exact hu, fun i i0 i1 => ?_, fun i i0 i1 => ?_, fun i i0 i1 => ?_, fun i c i0 i1 c0 c1 => ?_, fun i c i0 i1 c0 c1 => ?_⟩
    · have i1' : i < rLn R + 1 := i1
      rw [hN] at i1'
      show ν'.1 22 i.toNat = zI (pu (rWd R) (rLn R) w i)
      rw [hN, e22]
      by_cases q : i = n
      · rw [q, pu_at]
        exact up_at
      · rw [pu_ne q]
        exact (up_nk (by omega)).trans (k1 i i0 (by omega))
    · have i1' : i < rLn R + 1 := i1
      rw [hN] at i1'
      show ν'.1 23 i.toNat = zI (pu (rLa R) (rLn R) l i)
      rw [hN, e23]
      by_cases q : i = n
      · rw [q, pu_at]
        exact up_at
      · rw [pu_ne q]
        exact (up_nk (by omega)).trans ((e23' _).trans (k2 i i0 (by omega)))
    · have i1' : i < rLn R + 1 := i1
      rw [hN] at i1'
      show ν'.1 24 i.toNat = zI (pu (rCn R) (rLn R) 0 i)
      rw [hN, e24]
      by_cases q : i = n
      · rw [q, pu_at]
        exact up_at
      · rw [pu_ne q]
        exact (up_nk (by omega)).trans ((e24' _).trans (k3 i i0 (by omega)))
    · have i1' : i < rLn R + 1 := i1
      have c1' : c < pu (rCn R) (rLn R) 0 i := c1
      rw [hN] at i1' c1'
      show ν'.1 25 _ = zI (rCw R i c)
      by_cases q : i = n
      · rw [q, pu_at] at c1'
        omega
      · rw [pu_ne q] at c1'
        exact (fr_at fa (by decide) _).trans (k4 i c i0 (by omega) c0 c1')
    · have i1' : i < rLn R + 1 := i1
      have c1' : c < pu (rCn R) (rLn R) 0 i := c1
      rw [hN] at i1' c1'
      show ν'.1 26 _ = zI (rCv R i c)
      by_cases q : i = n
      · rw [q, pu_at] at c1'
        omega
      · rw [pu_ne q] at c1'
        exact (fr_at fa (by decide) _).trans (k5 i c i0 (by omega) c0 c1')
/-- the class adds a condition -/
theorem q_adc {N : qNm} {R : gR} {w v : Int} {ν : ax_M} (hR : rok R) (hn : 1 ≤ rLn R) (hc : rCn R (rLn R - 1) < 4) (hw : wC N R ν) : ∃ ν', aJ 1085 [.ref 21, .int (zI w), .int (zI v)] [] ν = some (none, ν') ∧ wC N (rca R w v) ν' ∧ fr [24, 25, 26] ν ν' := by
  obtain ⟨a, b, c⟩ := hw
  obtain ⟨k0, k1, k2, k3, k4, k5⟩ := c
  have n1 := hR.1.2
  have hc0 := (hR.2 (rLn R - 1) (by omega) (by omega)).2.2.1.1
  have hcell := k3 (rLn R - 1) (by omega) (by omega)
  generalize hN : rLn R - 1 = n at *
  generalize hC : rCn R n = d at *
  have f1 : fr [25] ν (ax_up ν.1 25 (n * 4 + d).toNat (zI w), ν.2) := fru (by simp)
  have f2 : fr [26] (ax_up ν.1 25 (n * 4 + d).toNat (zI w), ν.2) (ax_up (ax_up ν.1 25 (n * 4 + d).toNat (zI w)) 26 (n * 4 + d).toNat (zI v), ν.2) := fru (ν := (ax_up ν.1 25 (n * 4 + d).toNat (zI w), ν.2)) (by simp)
  have f3 : fr [24] (ax_up (ax_up ν.1 25 (n * 4 + d).toNat (zI w)) 26 (n * 4 + d).toNat (zI v), ν.2) (ax_up (ax_up (ax_up ν.1 25 (n * 4 + d).toNat (zI w)) 26 (n * 4 + d).toNat (zI v)) 24 n.toNat (zI (d + 1)), ν.2) := fru (ν := (ax_up (ax_up ν.1 25 (n * 4 + d).toNat (zI w)) 26 (n * 4 + d).toNat (zI v), ν.2)) (by simp)
  have fa : fr [24, 25, 26] ν (ax_up (ax_up (ax_up ν.1 25 (n * 4 + d).toNat (zI w)) 26 (n * 4 + d).toNat (zI v)) 24 n.toNat (zI (d + 1)), ν.2) := frt (frm f1 (by simp)) (frt (frm f2 (by simp)) (frm f3 (by simp)))
  have e25 : ∀ j, ax_up (ax_up (ax_up ν.1 25 (n * 4 + d).toNat (zI w)) 26 (n * 4 + d).toNat (zI v)) 24 n.toNat (zI (d + 1)) 25 j = ax_up ν.1 25 (n * 4 + d).toNat (zI w) 25 j := fun j => (fr_at f3 (show 25 ∉ [24] by decide) j).trans (fr_at f2 (show 25 ∉ [26] by decide) j)
  have e26 : ∀ j, ax_up (ax_up (ax_up ν.1 25 (n * 4 + d).toNat (zI w)) 26 (n * 4 + d).toNat (zI v)) 24 n.toNat (zI (d + 1)) 26 j = ax_up (ax_up ν.1 25 (n * 4 + d).toNat (zI w)) 26 (n * 4 + d).toNat (zI v) 26 j := fun j => fr_at f3 (show 26 ∉ [24] by decide) j
  have e26' : ∀ j, ax_up ν.1 25 (n * 4 + d).toNat (zI w) 26 j = ν.1 26 j := fun j => up_ne (by decide)
  have e24' : ∀ j, ax_up (ax_up ν.1 25 (n * 4 + d).toNat (zI w)) 26 (n * 4 + d).toNat (zI v) 24 j = ν.1 24 j := fun j => (up_ne (show 24 ≠ 26 by decide)).trans (up_ne (by decide))
  refine ⟨(ax_up (ax_up (ax_up ν.1 25 (n * 4 + d).toNat (zI w)) 26 (n * 4 + d).toNat (zI v)) 24 n.toNat (zI (d + 1)), ν.2), ?_, ?_, fa⟩
  · have e1 : ν.1 21 0 - 1 = zI n := by
      rw [k0, show (1 : Int32) = zI 1 from rfl, zI_sub, hN]
    rw [jl_1085, e1, c_at (len := 10) (by decide) (by decide) (by omega) (by omega), z_b1, hcell, show (4 : Int32) = zI 4 from rfl, zI_mul, zI_add, zI_a1, c_put (len := 40) (by decide) (by decide) (by omega) (by omega), z_b0, c_put (len := 40) (by decide) (by decide) (by omega) (by omega), z_b0, c_put (len := 10) (by decide) (by decide) (by omega) (by omega), z_b0]
  · refine ⟨cNm_e (fa.2 _ (by decide)) (fa.2 _ (by decide)) a, (fr_at fa (by decide) 0).trans b, (fr_at fa (by decide) 0).trans k0, fun i i0 i1 => (fr_at fa (by decide) _).trans (k1 i i0 i1), fun i i0 i1 => (fr_at fa (by decide) _).trans (k2 i i0 i1), fun i i0 i1 => ?_, fun i c i0 i1 c0 c1 => ?_, fun i c i0 i1 c0 c1 => ?_⟩
    · have i1' : i < rLn R := i1
      show ax_up (ax_up (ax_up ν.1 25 (n * 4 + d).toNat (zI w)) 26 (n * 4 + d).toNat (zI v)) 24 n.toNat (zI (d + 1)) 24 i.toNat = zI (pu (rCn R) (rLn R - 1) (rCn R (rLn R - 1) + 1) i)
      rw [hN, hC]
      by_cases q : i = n
      · rw [q, pu_at]
        exact up_at
      · rw [pu_ne q]
        exact (up_nk (by omega)).trans ((e24' _).trans (k3 i i0 i1'))
    · have i1' : i < rLn R := i1
      have c1' : c < pu (rCn R) (rLn R - 1) (rCn R (rLn R - 1) + 1) i := c1
      show ax_up (ax_up (ax_up ν.1 25 (n * 4 + d).toNat (zI w)) 26 (n * 4 + d).toNat (zI v)) 24 n.toNat (zI (d + 1)) 25 (i * 4 + c).toNat = zI (if i = rLn R - 1 ∧ c = rCn R (rLn R - 1) then w else rCw R i c)
      rw [hN, hC] at c1' ⊢
      rw [e25]
      have h4 := (hR.2 i i0 i1').2.2.1.2
      by_cases q : i = n ∧ c = d
      · rw [if_pos q, q.1, q.2]
        exact up_at
      · rw [if_neg q]
        have hc4 : c < rCn R i := by
          by_cases q' : i = n
          · rw [q', pu_at] at c1'
            rw [q', hC]
            have : c ≠ d := fun z => q ⟨q', z⟩
            omega
          · rwa [pu_ne q'] at c1'
        refine (up_nk ?_).trans (k4 i c i0 i1' c0 hc4)
        intro z
        have z2 : i * 4 + c = n * 4 + d := by omega
        exact q (by omega)
    · have i1' : i < rLn R := i1
      have c1' : c < pu (rCn R) (rLn R - 1) (rCn R (rLn R - 1) + 1) i := c1
      show ax_up (ax_up (ax_up ν.1 25 (n * 4 + d).toNat (zI w)) 26 (n * 4 + d).toNat (zI v)) 24 n.toNat (zI (d + 1)) 26 (i * 4 + c).toNat = zI (if i = rLn R - 1 ∧ c = rCn R (rLn R - 1) then v else rCv R i c)
      rw [hN, hC] at c1' ⊢
      rw [e26]
      have h4 := (hR.2 i i0 i1').2.2.1.2
      by_cases q : i = n ∧ c = d
      · rw [if_pos q, q.1, q.2]
        exact up_at
      · rw [if_neg q]
        have hc4 : c < rCn R i := by
          by_cases q' : i = n
          · rw [q', pu_at] at c1'
            rw [q', hC]
            have : c ≠ d := fun z => q ⟨q', z⟩
            omega
          · rwa [pu_ne q'] at c1'
        refine (up_nk ?_).trans ((e26' _).trans (k5 i c i0 i1' c0 hc4))
        intro z
        have z2 : i * 4 + c = n * 4 + d := by omega
        exact q (by omega)
/-- two cells of the reference's row -/
theorem w2_w {f : Nat → Nat → Int32} {p q : Nat} {x y : Int32} (h : p ≠ q) : ax_up (ax_up f 210 p x) 210 q y 210 p = x ∧ ax_up (ax_up f 210 p x) 210 q y 210 q = y ∧ (∀ j, j ≠ p → j ≠ q → ax_up (ax_up f 210 p x) 210 q y 210 j = f 210 j) ∧ ∀ a, a ≠ 210 → ax_up (ax_up f 210 p x) 210 q y a = f a := by
  refine ⟨?_, ?_, fun j h1 h2 => ?_, fun a ha => funext fun j => ?_⟩
  · unfold ax_up
    rw [if_neg (by omega), if_pos (by omega)]
  · unfold ax_up
    rw [if_pos (by omega)]
  · unfold ax_up
    rw [if_neg (by omega), if_neg (by omega)]
  · unfold ax_up
    rw [if_neg (by omega), if_neg (by omega)]
theorem wM_l {N : qNm} {R : gR} {w l : Int} {F : Nat → Nat → Int32} {ν : ax_M} (hR : rok R) (hn : rLn R < 10) (hw : wM N R ν) (e1 : F 210 (63 + 11 * rLn R).toNat = zI l) (e2 : F 210 (63 + 11 * rLn R + 1).toNat = zI (if w < 8 then w else w + 7)) (e3 : ∀ j, j ≠ (63 + 11 * rLn R).toNat → j ≠ (63 + 11 * rLn R + 1).toNat → F 210 j = ν.1 210 j) (e4 : ∀ a, a ≠ 210 → F a = ν.1 a) : wM N (rad R w l) (F, ν.2) := by
  obtain ⟨a, b, c, d⟩ := hw
  have n0 := hR.1.1
  refine ⟨(congrFun (e4 209 (by decide)) 0).trans a, b, fun i i0 i1 => ?_, fun j h1 h2 => ?_⟩
  · have i1' : i < rLn R + 1 := i1
    show F 210 _ = zI (pu (rLa R) (rLn R) l i) ∧ F 210 _ = zI (if pu (rWd R) (rLn R) w i < 8 then pu (rWd R) (rLn R) w i else pu (rWd R) (rLn R) w i + 7) ∧ ∀ c, 0 ≤ c → c < 4 → F 210 _ = zI (if c < pu (rCn R) (rLn R) 0 i then rCw R i c - 4 else 0) ∧ F 210 _ = zI (if c < pu (rCn R) (rLn R) 0 i then rCv R i c else 0)
    by_cases q : i = rLn R
    · rw [q, pu_at, pu_at, pu_at]
      refine ⟨e1, e2, fun c c0 c1 => ?_⟩
      rw [if_neg (by omega), if_neg (by omega)]
      exact ⟨(e3 _ (by omega) (by omega)).trans (d _ (by omega) (by omega)), (e3 _ (by omega) (by omega)).trans (d _ (by omega) (by omega))⟩
    · rw [pu_ne q, pu_ne q, pu_ne q]
      obtain ⟨x1, x2, x3⟩ := c i i0 (by omega)
      refine ⟨(e3 _ (by omega) (by omega)).trans x1, (e3 _ (by omega) (by omega)).trans x2, fun c c0 c1 => ?_⟩
      obtain ⟨y1, y2⟩ := x3 c c0 c1
      exact ⟨(e3 _ (by omega) (by omega)).trans y1, (e3 _ (by omega) (by omega)).trans y2⟩
  · have h1' : 63 + 11 * (rLn R + 1) ≤ (j : Int) := h1
    exact (e3 j (by omega) (by omega)).trans (d j (by omega) h2)
theorem wM_c {N : qNm} {R : gR} {w v : Int} {F : Nat → Nat → Int32} {ν : ax_M} (hR : rok R) (hn : 1 ≤ rLn R) (hc : rCn R (rLn R - 1) < 4) (hw : wM N R ν) (e1 : F 210 (63 + 11 * (rLn R - 1) + 3 + 2 * rCn R (rLn R - 1)).toNat = zI (w - 4)) (e2 : F 210 (63 + 11 * (rLn R - 1) + 4 + 2 * rCn R (rLn R - 1)).toNat = zI v) (e3 : ∀ j, j ≠ (63 + 11 * (rLn R - 1) + 3 + 2 * rCn R (rLn R - 1)).toNat → j ≠ (63 + 11 * (rLn R - 1) + 4 + 2 * rCn R (rLn R - 1)).toNat → F 210 j = ν.1 210 j) (e4 : ∀ a, a ≠ 210 → F a = ν.1 a) : wM N (rca R w v) (F, ν.2) := by
  obtain ⟨a, b, c, d⟩ := hw
  have n1 := hR.1.2
  have hc0 := (hR.2 (rLn R - 1) (by omega) (by omega)).2.2.1.1
  refine ⟨(congrFun (e4 209 (by decide)) 0).trans a, b, fun i i0 i1 => ?_, fun j h1 h2 => ?_⟩
  · have i1' : i < rLn R := i1
    obtain ⟨x1, x2, x3⟩ := c i i0 i1'
    refine ⟨(e3 _ (by omega) (by omega)).trans x1, (e3 _ (by omega) (by omega)).trans x2, fun c c0 c1 => ?_⟩
    obtain ⟨y1, y2⟩ := x3 c c0 c1
    show F 210 _ = zI (if c < pu (rCn R) (rLn R - 1) (rCn R (rLn R - 1) + 1) i then (if i = rLn R - 1 ∧ c = rCn R (rLn R - 1) then w else rCw R i c) - 4 else 0) ∧ F 210 _ = zI (if c < pu (rCn R) (rLn R - 1) (rCn R (rLn R - 1) + 1) i then (if i = rLn R - 1 ∧ c = rCn R (rLn R - 1) then v else rCv R i c) else 0)
    by_cases q : i = rLn R - 1
    · rw [q] at y1 y2 ⊢
      rw [pu_at]
      by_cases q2 : c = rCn R (rLn R - 1)
      · rw [q2, if_pos (show rCn R (rLn R - 1) < rCn R (rLn R - 1) + 1 by omega), if_pos (show rCn R (rLn R - 1) < rCn R (rLn R - 1) + 1 by omega), if_pos (show rLn R - 1 = rLn R - 1 ∧ rCn R (rLn R - 1) = rCn R (rLn R - 1) from ⟨rfl, rfl⟩), if_pos (show rLn R - 1 = rLn R - 1 ∧ rCn R (rLn R - 1) = rCn R (rLn R - 1) from ⟨rfl, rfl⟩)]
        refine ⟨e1, ?_⟩
        rw [show 63 + 11 * (rLn R - 1) + 3 + 2 * rCn R (rLn R - 1) + 1 = 63 + 11 * (rLn R - 1) + 4 + 2 * rCn R (rLn R - 1) by omega]
        exact e2
      · rw [if_neg (show ¬ (rLn R - 1 = rLn R - 1 ∧ c = rCn R (rLn R - 1)) from fun z => q2 z.2), if_neg (show ¬ (rLn R - 1 = rLn R - 1 ∧ c = rCn R (rLn R - 1)) from fun z => q2 z.2)]
        by_cases q3 : c < rCn R (rLn R - 1)
        · rw [if_pos q3] at y1 y2
          rw [if_pos (by omega), if_pos (by omega)]
          exact ⟨(e3 _ (by omega) (by omega)).trans y1, (e3 _ (by omega) (by omega)).trans y2⟩
        · rw [if_neg q3] at y1 y2
          rw [if_neg (by omega), if_neg (by omega)]
          exact ⟨(e3 _ (by omega) (by omega)).trans y1, (e3 _ (by omega) (by omega)).trans y2⟩
    · rw [pu_ne q, if_neg (show ¬ (i = rLn R - 1 ∧ c = rCn R (rLn R - 1)) from fun z => q z.1), if_neg (show ¬ (i = rLn R - 1 ∧ c = rCn R (rLn R - 1)) from fun z => q z.1)]
      exact ⟨(e3 _ (by omega) (by omega)).trans y1, (e3 _ (by omega) (by omega)).trans y2⟩
  · have h1' : 63 + 11 * rLn R ≤ (j : Int) := h1
    exact (e3 j (by omega) (by omega)).trans (d j (by omega) h2)
