/-! o: the texts' tokens -/
def tLw (c : Int) : Prop := 97 ≤ c ∧ c ≤ 122
def tLd (c : Int) : Prop := 48 ≤ c ∧ c ≤ 57
def kSk (T : Int → Int) (L : Int) : Nat → Int → Int
  | 0, p => p
  | n + 1, p => if p < L ∧ (T p = 32 ∨ T p = 10) then kSk T L n (p + 1) else p
def sk (T : Int → Int) (L p : Int) : Int := kSk T L (L - p).toNat p
def kRn (T : Int → Int) (L : Int) : Nat → Int → Int
  | 0, p => p
  | n + 1, p => if p < L ∧ ((97 ≤ T p ∧ T p ≤ 122) ∨ (48 ≤ T p ∧ T p ≤ 57)) then kRn T L n (p + 1) else p
def rn (T : Int → Int) (L p : Int) : Int := kRn T L (L - p).toNat p
/-- how many of the first n signs are letters -/
def nW (T : Int → Int) (s : Int) : Nat → Int
  | 0 => 0
  | n + 1 => nW T s n + (if 97 ≤ T (s + n) ∧ T (s + n) ≤ 122 then 1 else 0)
/-- 1 a word, 2 a number, 4 neither -/
def tkd (T : Int → Int) (s e : Int) : Int := if e ≤ s then 4 else if nW T s (e - s).toNat = e - s then (if e - s ≤ 7 then 1 else 4) else if nW T s (e - s).toNat = 0 then (if e - s ≤ 2 then 2 else 4) else 4
/-- (kind, start, end); 0 the end, 3 the sign -/
def tok (T : Int → Int) (L M p : Int) : Int × Int × Int := if min L M ≤ sk T L p then (0, min L M, sk T L p) else if T (sk T L p) = 59 then (3, sk T L p, sk T L p + 1) else (tkd T (sk T L p) (rn T L (sk T L p)), sk T L p, rn T L (sk T L p))
def tK (t : Int × Int × Int) : Int := t.1
def tS (t : Int × Int × Int) : Int := t.2.1
def tE (t : Int × Int × Int) : Int := t.2.2
def nv (T : Int → Int) (t : Int × Int × Int) : Int := if tE t - tS t = 1 then T (tS t) - 48 else 10 * (T (tS t) - 48) + (T (tS t + 1) - 48)
theorem sk_s {T : Int → Int} {L p : Int} (h : p < L) (hs : T p = 32 ∨ T p = 10) : sk T L p = sk T L (p + 1) := by
  unfold sk
  rw [show (L - p).toNat = (L - (p + 1)).toNat + 1 by omega]
  show (if p < L ∧ (T p = 32 ∨ T p = 10) then kSk T L (L - (p + 1)).toNat (p + 1) else p) = _
  rw [if_pos ⟨h, hs⟩]
theorem sk_n {T : Int → Int} {L p : Int} (h : ¬ (p < L ∧ (T p = 32 ∨ T p = 10))) : sk T L p = p := by
  unfold sk
  cases (L - p).toNat with
  | zero => rfl
  | succ n =>
    show (if p < L ∧ (T p = 32 ∨ T p = 10) then kSk T L n (p + 1) else p) = _
    rw [if_neg h]
theorem rn_s {T : Int → Int} {L p : Int} (h : p < L) (hs : (97 ≤ T p ∧ T p ≤ 122) ∨ (48 ≤ T p ∧ T p ≤ 57)) : rn T L p = rn T L (p + 1) := by
  unfold rn
  rw [show (L - p).toNat = (L - (p + 1)).toNat + 1 by omega]
  show (if p < L ∧ ((97 ≤ T p ∧ T p ≤ 122) ∨ (48 ≤ T p ∧ T p ≤ 57)) then kRn T L (L - (p + 1)).toNat (p + 1) else p) = _
  rw [if_pos ⟨h, hs⟩]
theorem rn_n {T : Int → Int} {L p : Int} (h : ¬ (p < L ∧ ((97 ≤ T p ∧ T p ≤ 122) ∨ (48 ≤ T p ∧ T p ≤ 57)))) : rn T L p = p := by
  unfold rn
  cases (L - p).toNat with
  | zero => rfl
  | succ n =>
    show (if p < L ∧ ((97 ≤ T p ∧ T p ≤ 122) ∨ (48 ≤ T p ∧ T p ≤ 57)) then kRn T L n (p + 1) else p) = _
    rw [if_neg h]
theorem sk_r {T : Int → Int} {L : Int} : ∀ (m : Nat) (p : Int), p + m = L → p ≤ sk T L p ∧ sk T L p ≤ L := by
  intro m
  induction m with
  | zero =>
    intro p h
    rw [sk_n (by omega)]
    omega
  | succ m ih =>
    intro p h
    by_cases c : T p = 32 ∨ T p = 10
    · have := ih (p + 1) (by omega)
      rw [sk_s (by omega) c]
      omega
    · rw [sk_n (fun q => c q.2)]
      omega
theorem rn_r {T : Int → Int} {L : Int} : ∀ (m : Nat) (p : Int), p + m = L → p ≤ rn T L p ∧ rn T L p ≤ L ∧ ∀ i, p ≤ i → i < rn T L p → (97 ≤ T i ∧ T i ≤ 122) ∨ (48 ≤ T i ∧ T i ≤ 57) := by
  intro m
  induction m with
  | zero =>
    intro p h
    rw [rn_n (by omega)]
    exact ⟨by omega, by omega, fun i _ _ => by omega⟩
  | succ m ih =>
    intro p h
    by_cases c : (97 ≤ T p ∧ T p ≤ 122) ∨ (48 ≤ T p ∧ T p ≤ 57)
    · obtain ⟨a, b, d⟩ := ih (p + 1) (by omega)
      rw [rn_s (by omega) c]
      refine ⟨by omega, b, fun i i0 i1 => ?_⟩
      by_cases e : i = p
      · rw [e]; exact c
      · exact d i (by omega) i1
    · rw [rn_n (fun q => c q.2)]
      exact ⟨by omega, by omega, fun i _ _ => by omega⟩
theorem nW_b {T : Int → Int} {s : Int} : ∀ n : Nat, 0 ≤ nW T s n ∧ nW T s n ≤ n := by
  intro n
  induction n with
  | zero => exact ⟨Int.le_refl _, Int.le_refl _⟩
  | succ n ih =>
    have e : nW T s (n + 1) = nW T s n + (if 97 ≤ T (s + n) ∧ T (s + n) ≤ 122 then 1 else 0) := rfl
    rw [e]
    split <;> omega
theorem nW_all {T : Int → Int} {s : Int} : ∀ n : Nat, nW T s n = n → ∀ i : Int, 0 ≤ i → i < n → 97 ≤ T (s + i) ∧ T (s + i) ≤ 122 := by
  intro n
  induction n with
  | zero => exact fun _ i i0 i1 => by omega
  | succ n ih =>
    intro h i i0 i1
    have e : nW T s (n + 1) = nW T s n + (if 97 ≤ T (s + n) ∧ T (s + n) ≤ 122 then 1 else 0) := rfl
    rw [e] at h
    have hb := nW_b (T := T) (s := s) n
    by_cases c : 97 ≤ T (s + n) ∧ T (s + n) ≤ 122
    · rw [if_pos c] at h
      by_cases q : i = n
      · rw [q]; exact c
      · exact ih (by omega) i i0 (by omega)
    · rw [if_neg c] at h
      omega
/-- what a token is -/
theorem tok_r {T : Int → Int} {L M p : Int} (h0 : 0 ≤ p) (h1 : p ≤ L) (hM : 0 ≤ M) : p ≤ tE (tok T L M p) ∧ tE (tok T L M p) ≤ L ∧ 0 ≤ tS (tok T L M p) ∧ tS (tok T L M p) ≤ L ∧ (0 ≤ tK (tok T L M p) ∧ tK (tok T L M p) ≤ 4) ∧ (tK (tok T L M p) ≠ 0 → p ≤ tS (tok T L M p) ∧ tS (tok T L M p) ≤ tE (tok T L M p)) ∧ (tK (tok T L M p) = 1 ∨ tK (tok T L M p) = 2 ∨ tK (tok T L M p) = 3 → tS (tok T L M p) < tE (tok T L M p)) := by
  have hs := sk_r (T := T) (L := L) (L - p).toNat p (by omega)
  have hr := rn_r (T := T) (L := L) (L - sk T L p).toNat (sk T L p) (by omega)
  unfold tok
  by_cases c : min L M ≤ sk T L p
  · rw [if_pos c]
    show p ≤ sk T L p ∧ sk T L p ≤ L ∧ 0 ≤ min L M ∧ min L M ≤ L ∧ ((0 : Int) ≤ 0 ∧ (0 : Int) ≤ 4) ∧ ((0 : Int) ≠ 0 → _) ∧ ((0 : Int) = 1 ∨ (0 : Int) = 2 ∨ (0 : Int) = 3 → _)
    exact ⟨by omega, by omega, by omega, by omega, by omega, fun q => absurd rfl q, fun q => by omega⟩
  · rw [if_neg c]
    by_cases d : T (sk T L p) = 59
    · rw [if_pos d]
      show p ≤ sk T L p + 1 ∧ sk T L p + 1 ≤ L ∧ 0 ≤ sk T L p ∧ sk T L p ≤ L ∧ ((0 : Int) ≤ 3 ∧ (3 : Int) ≤ 4) ∧ ((3 : Int) ≠ 0 → p ≤ sk T L p ∧ sk T L p ≤ sk T L p + 1) ∧ ((3 : Int) = 1 ∨ (3 : Int) = 2 ∨ (3 : Int) = 3 → sk T L p < sk T L p + 1)
      omega
    · rw [if_neg d]
      show p ≤ rn T L (sk T L p) ∧ rn T L (sk T L p) ≤ L ∧ 0 ≤ sk T L p ∧ sk T L p ≤ L ∧ (0 ≤ tkd T (sk T L p) (rn T L (sk T L p)) ∧ tkd T (sk T L p) (rn T L (sk T L p)) ≤ 4) ∧ (tkd T (sk T L p) (rn T L (sk T L p)) ≠ 0 → p ≤ sk T L p ∧ sk T L p ≤ rn T L (sk T L p)) ∧ (tkd T (sk T L p) (rn T L (sk T L p)) = 1 ∨ tkd T (sk T L p) (rn T L (sk T L p)) = 2 ∨ tkd T (sk T L p) (rn T L (sk T L p)) = 3 → sk T L p < rn T L (sk T L p))
      unfold tkd
      by_cases e : rn T L (sk T L p) ≤ sk T L p
      · rw [if_pos e]
        omega
      · rw [if_neg e]
        refine ⟨by omega, by omega, by omega, by omega, ?_, fun _ => by omega, fun _ => by omega⟩
        split
        · split <;> omega
        · split
          · split <;> omega
          · omega
/-- a token that is a word has letters only; a number has digits -/
theorem tok_w {T : Int → Int} {L M p : Int} (h0 : 0 ≤ p) (h1 : p ≤ L) (hk : tK (tok T L M p) = 1) : 1 ≤ tE (tok T L M p) - tS (tok T L M p) ∧ tE (tok T L M p) - tS (tok T L M p) ≤ 7 ∧ ∀ i : Int, 0 ≤ i → i < tE (tok T L M p) - tS (tok T L M p) → 97 ≤ T (tS (tok T L M p) + i) ∧ T (tS (tok T L M p) + i) ≤ 122 := by
  unfold tok at hk ⊢
  by_cases c : min L M ≤ sk T L p
  · rw [if_pos c] at hk
    exact absurd hk (by show ¬ (0 : Int) = 1; omega)
  · rw [if_neg c] at hk ⊢
    by_cases d : T (sk T L p) = 59
    · rw [if_pos d] at hk
      exact absurd hk (by show ¬ (3 : Int) = 1; omega)
    · rw [if_neg d] at hk ⊢
      have hk' : tkd T (sk T L p) (rn T L (sk T L p)) = 1 := hk
      show 1 ≤ rn T L (sk T L p) - sk T L p ∧ rn T L (sk T L p) - sk T L p ≤ 7 ∧ ∀ i : Int, 0 ≤ i → i < rn T L (sk T L p) - sk T L p → 97 ≤ T (sk T L p + i) ∧ T (sk T L p + i) ≤ 122
      unfold tkd at hk'
      by_cases e : rn T L (sk T L p) ≤ sk T L p
      · rw [if_pos e] at hk'
        omega
      · rw [if_neg e] at hk'
        by_cases f : nW T (sk T L p) (rn T L (sk T L p) - sk T L p).toNat = rn T L (sk T L p) - sk T L p
        · rw [if_pos f] at hk'
          by_cases g : rn T L (sk T L p) - sk T L p ≤ 7
          · refine ⟨by omega, g, fun i i0 i1 => nW_all (rn T L (sk T L p) - sk T L p).toNat (by omega) i i0 (by omega)⟩
          · rw [if_neg g] at hk'
            omega
        · rw [if_neg f] at hk'
          split at hk'
          · split at hk' <;> omega
          · omega
theorem rn_it {T : Int → Int} {L p : Int} : ∀ n : Nat, p + n ≤ rn T L p → rn T L (p + n) = rn T L p := by
  intro n
  induction n with
  | zero => exact fun _ => by rw [show p + ((0 : Nat) : Int) = p by omega]
  | succ n ih =>
    intro h
    have h' := ih (by omega)
    by_cases c : p + n < L ∧ ((97 ≤ T (p + n) ∧ T (p + n) ≤ 122) ∨ (48 ≤ T (p + n) ∧ T (p + n) ≤ 57))
    · rw [show p + ((n + 1 : Nat) : Int) = p + n + 1 by omega, ← rn_s c.1 c.2, h']
    · rw [rn_n c] at h'
      omega
