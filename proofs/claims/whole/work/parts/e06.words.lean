/-! l: the letters' words -/
theorem jw_1293 (a : Nat) (μ : ax_M) : aJ 1293 [.ref a] [] μ = if (ax_sh a).1 = 8 then some (some (.int (Int32.ofNat (ax_sh a).2.1)), μ) else none := (aJ_eq 1293 _ _ _).trans rfl
theorem jw_1294 (a : Nat) (i : Int32) (μ : ax_M) : aJ 1294 [.ref a, .int i] [] μ = if (ax_sh a).1 = 8 ∧ ¬ (i < 0 ∨ (ax_sh a).2.1 ≤ i.toNatClampNeg) then some (some (.int (Int32.ofNat ((ax_sh a).2.2.getD i.toNatClampNeg (0, 0)).1)), μ) else none := (aJ_eq 1294 _ _ _).trans rfl
/-- text a is the word s of n letters -/
def isW (a n : Nat) (s : Int → Int) : Prop := (1000 ≤ a ∧ a ≤ 1021) ∧ n ≤ 7 ∧ (ax_sh a).1 = 8 ∧ (ax_sh a).2.1 = n ∧ ∀ i : Nat, i < n → Int32.ofNat ((ax_sh a).2.2.getD i (0, 0)).1 = zI (s i) ∧ 97 ≤ s i ∧ s i ≤ 122
theorem zI_ofn (n : Nat) : Int32.ofNat n = zI n := (Int32.ofInt_eq_ofNat).symm
theorem q_wrd {a n : Nat} {s : Int → Int} {l : List Int} {ν : ax_M} (hw : isW a n s) (h : tXc l ν) (hl : l.length ≤ 40) : ∃ ν', aJ 1287 [.ref 205, .ref a] [] ν = some (none, ν') ∧ tXc (l ++ tNm s n) ν' ∧ fr [205, 206] ν ν' := by
  obtain ⟨h0, h7, h8, hn, hs⟩ := hw
  have hx : a = 1000 ∨ a = 1001 ∨ a = 1002 ∨ a = 1003 ∨ a = 1004 ∨ a = 1005 ∨ a = 1006 ∨ a = 1007 ∨ a = 1008 ∨ a = 1009 ∨ a = 1010 ∨ a = 1011 ∨ a = 1012 ∨ a = 1013 ∨ a = 1014 ∨ a = 1015 ∨ a = 1016 ∨ a = 1017 ∨ a = 1018 ∨ a = 1019 ∨ a = 1020 ∨ a = 1021 := by omega
  have key : ∀ (m i : Nat) (ν : ax_M), i + m = n → tXc (l ++ tNm s i) ν → ∃ ν', aJ 1288 [.ref 205, .ref a, .int (zI i)] [] ν = some (none, ν') ∧ tXc (l ++ tNm s n) ν' ∧ fr [205, 206] ν ν' := by
    intro m
    induction m with
    | zero =>
      intro i ν im h
      have hi : i = n := by omega
      subst hi
      refine ⟨ν, ?_, h, frz⟩
      rw [jl_1288 _ _ _ hx, jw_1293, if_pos h8, z_b1, hn, if_pos (show Int32.ofNat i ≤ zI i by rw [show Int32.ofNat i = zI i from (zI_ofn i)]; exact Int32.le_refl _), jl_1289]
    | succ m ih =>
      intro i ν im h
      have hb := hs i (by omega)
      have nl : (l ++ tNm s i).length = l.length + i := by rw [List.length_append, tNm_l]
      obtain ⟨ν1, a1, a2, a3⟩ := q_sgn (b := s i) h (by omega) (by omega) (by omega)
      obtain ⟨ν', b1, b2, b3⟩ := ih (i + 1) ν1 (by omega) (by
        show tXc (l ++ (tNm s i ++ [s i])) ν1
        rw [← List.append_assoc]
        exact a2)
      refine ⟨ν', ?_, b2, frt a3 b3⟩
      have e1294 : aJ 1294 [.ref a, .int (zI i)] [] ν = some (some (.int (zI (s i))), ν) := by
        have e0 : (0 : Int32) = zI 0 := rfl
        rw [jw_1294, zI_nat (zR_of (by omega)), Int.toNat_natCast, hn, if_pos ⟨h8, fun q => by
          rcases q with q | q
          · rw [e0, zI_lt (zR_of (by omega)) (zR_of (by omega))] at q
            omega
          · omega⟩, hb.1]
      rw [jl_1288 _ _ _ hx, jw_1293, if_pos h8, z_b1, hn, if_neg (show ¬ Int32.ofNat n ≤ zI i by
        rw [show Int32.ofNat n = zI n from (zI_ofn n), zI_le (zR_of (by omega)) (zR_of (by omega))]
        omega), e1294, z_b1, a1, z_b0, show (1 : Int32) = zI 1 from rfl, zI_add]
      exact b1
  have h0' : tXc (l ++ tNm s 0) ν := by
    show tXc (l ++ []) ν
    rw [List.append_nil]
    exact h
  obtain ⟨ν', b1, b2, b3⟩ := key n 0 ν (by omega) h0'
  refine ⟨ν', ?_, b2, b3⟩
  rw [jl_1287]
  exact b1
/-- the letters of the kinds' words -/
def wLi : Nat → List Int
  | 0 => [99, 111, 110, 110, 101, 99, 116]
  | 1 => [98, 101, 103, 105, 110]
  | 2 => [116, 101, 115, 116]
  | 3 => [97, 99, 99, 101, 112, 116]
  | 4 => [114, 101, 106, 101, 99, 116]
  | 5 => [114, 101, 112, 111, 114, 116]
  | _ => [99, 104, 97, 110, 103, 101]
def wS (k : Nat) (i : Int) : Int := (wLi k).getD i.toNat 0
def wN (k : Nat) : Nat := (wLi k).length
theorem w_ok : ∀ k : Nat, k < 7 → isW (1000 + k) (wN k) (wS k) := by
  intro k hk
  have hh : k = 0 ∨ k = 1 ∨ k = 2 ∨ k = 3 ∨ k = 4 ∨ k = 5 ∨ k = 6 := by omega
  rcases hh with rfl | rfl | rfl | rfl | rfl | rfl | rfl
  · exact ⟨by decide, by decide, by decide, by decide, by decide⟩
  · exact ⟨by decide, by decide, by decide, by decide, by decide⟩
  · exact ⟨by decide, by decide, by decide, by decide, by decide⟩
  · exact ⟨by decide, by decide, by decide, by decide, by decide⟩
  · exact ⟨by decide, by decide, by decide, by decide, by decide⟩
  · exact ⟨by decide, by decide, by decide, by decide, by decide⟩
  · exact ⟨by decide, by decide, by decide, by decide, by decide⟩
theorem w_cls {ν : ax_M} : ∀ k : Nat, k < 7 → aJ 856 [.int (zI k)] [] ν = some (some (.ref (1000 + k)), ν) := by
  intro k hk
  have hh : k = 0 ∨ k = 1 ∨ k = 2 ∨ k = 3 ∨ k = 4 ∨ k = 5 ∨ k = 6 := by omega
  rcases hh with rfl | rfl | rfl | rfl | rfl | rfl | rfl
  · rw [jl_856, if_pos (by decide), jl_857]
  · rw [jl_856, if_neg (by decide), if_pos (by decide), jl_858]
  · rw [jl_856, if_neg (by decide), if_neg (by decide), if_pos (by decide), jl_859]
  · rw [jl_856, if_neg (by decide), if_neg (by decide), if_neg (by decide), if_pos (by decide), jl_860]
  · rw [jl_856, if_neg (by decide), if_neg (by decide), if_neg (by decide), if_neg (by decide), if_pos (by decide), jl_861]
  · rw [jl_856, if_neg (by decide), if_neg (by decide), if_neg (by decide), if_neg (by decide), if_neg (by decide), if_pos (by decide), jl_862]
  · rw [jl_856, if_neg (by decide), if_neg (by decide), if_neg (by decide), if_neg (by decide), if_neg (by decide), if_neg (by decide), if_pos (by decide), jl_863]
theorem w_ref {ν : ax_M} : ∀ k : Nat, k < 7 → aJ 51 [.int (zI k)] [] ν = some (some (.long (zL (qen (wS k) (wN k)))), ν) := by
  intro k hk
  have hh : k = 0 ∨ k = 1 ∨ k = 2 ∨ k = 3 ∨ k = 4 ∨ k = 5 ∨ k = 6 := by omega
  rcases hh with rfl | rfl | rfl | rfl | rfl | rfl | rfl
  · rw [jl_51, if_pos (by decide), jl_52, jl_45, if_neg (by decide), jl_46, if_neg (by decide), jl_47, if_neg (by decide), jl_48, if_neg (by decide), jl_49, if_neg (by decide), jl_50, z_b2]
    exact congrArg (fun x => some (some (Value.long x), ν)) (by decide)
  · rw [jl_51, if_neg (by decide), if_pos (by decide), jl_53, jl_45, if_neg (by decide), jl_46, if_neg (by decide), jl_47, if_neg (by decide), jl_48, if_pos (by decide), jl_49, if_pos (by decide), jl_50, z_b2]
    exact congrArg (fun x => some (some (Value.long x), ν)) (by decide)
  · rw [jl_51, if_neg (by decide), if_neg (by decide), if_pos (by decide), jl_54, jl_45, if_neg (by decide), jl_46, if_neg (by decide), jl_47, if_pos (by decide), jl_48, if_pos (by decide), jl_49, if_pos (by decide), jl_50, z_b2]
    exact congrArg (fun x => some (some (Value.long x), ν)) (by decide)
  · rw [jl_51, if_neg (by decide), if_neg (by decide), if_neg (by decide), if_pos (by decide), jl_55, jl_45, if_neg (by decide), jl_46, if_neg (by decide), jl_47, if_neg (by decide), jl_48, if_neg (by decide), jl_49, if_pos (by decide), jl_50, z_b2]
    exact congrArg (fun x => some (some (Value.long x), ν)) (by decide)
  · rw [jl_51, if_neg (by decide), if_neg (by decide), if_neg (by decide), if_neg (by decide), if_pos (by decide), jl_56, jl_45, if_neg (by decide), jl_46, if_neg (by decide), jl_47, if_neg (by decide), jl_48, if_neg (by decide), jl_49, if_pos (by decide), jl_50, z_b2]
    exact congrArg (fun x => some (some (Value.long x), ν)) (by decide)
  · rw [jl_51, if_neg (by decide), if_neg (by decide), if_neg (by decide), if_neg (by decide), if_neg (by decide), if_pos (by decide), jl_57, jl_45, if_neg (by decide), jl_46, if_neg (by decide), jl_47, if_neg (by decide), jl_48, if_neg (by decide), jl_49, if_pos (by decide), jl_50, z_b2]
    exact congrArg (fun x => some (some (Value.long x), ν)) (by decide)
  · rw [jl_51, if_neg (by decide), if_neg (by decide), if_neg (by decide), if_neg (by decide), if_neg (by decide), if_neg (by decide), if_pos (by decide), jl_58, jl_45, if_neg (by decide), jl_46, if_neg (by decide), jl_47, if_neg (by decide), jl_48, if_neg (by decide), jl_49, if_pos (by decide), jl_50, z_b2]
    exact congrArg (fun x => some (some (Value.long x), ν)) (by decide)
