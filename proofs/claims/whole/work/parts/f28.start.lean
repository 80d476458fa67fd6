/-! p: the state at the start -/
def K00 : qK := (R00, N00, (0, fun _ => 0), none, none, (0, 0), (-1, -1), (0, fun _ => 0))
theorem K00_ok : kOK K00 := by
  refine ⟨R00_ok, dOK_0.1, ⟨Int.le_refl _, by show (0 : Int) ≤ 940; omega, fun i i0 i1 => by have : i < 0 := i1; omega⟩, (fun _ _ _ _ h => by cases h), (fun _ _ _ _ h => by cases h), ⟨Int.le_refl _, by show (0 : Int) ≤ 4; omega⟩, ⟨Int.le_refl _, by show (0 : Int) ≤ 1000; omega⟩, ⟨Int.le_refl _, by show (-1 : Int) ≤ 30; omega⟩, ⟨Int.le_refl _, by show (-1 : Int) ≤ 30; omega⟩, ⟨Int.le_refl _, by show (0 : Int) ≤ 48; omega⟩⟩
theorem pQ_00 : pQ G00 S00 [] K00 := Or.inr ⟨rfl, rfl, rfl, K00_ok, rfl⟩
theorem st_C {ν : ax_M} (hz : ∀ a k, a < 207 → ¬ (a = 0 ∧ (k = 15 ∨ k = 16)) → ν.1 a k = zI 0) (h15 : ν.1 0 15 = zI (-1)) (h16 : ν.1 0 16 = zI (-1)) : iC G00 S00 [] K00 ν := by
  have z : ∀ a k, 0 < a → a < 207 → ν.1 a k = zI 0 := fun a k h0 h1 => hz a k h1 (fun q => by omega)
  have z0 : ∀ k, k ≠ 15 → k ≠ 16 → ν.1 0 k = zI 0 := fun k h0 h1 => hz 0 k (by decide) (fun q => by omega)
  have hp : cP 29 (gwt G00) S00 X00 ν := by
    refine ⟨fun i _ _ q => absurd rfl q, fun n f _ _ _ _ => z _ _ (by decide) (by decide), fun n _ _ => z _ _ (by decide) (by decide), fun n _ _ => z _ _ (by decide) (by decide), fun i _ _ => z _ _ (by decide) (by decide), fun k f _ _ _ _ => z _ _ (by decide) (by decide), fun k _ _ => z _ _ (by decide) (by decide), fun i _ _ => z _ _ (by decide) (by decide), fun i _ _ => z _ _ (by decide) (by decide), fun i _ _ => z _ _ (by decide) (by decide), fun i _ _ => z _ _ (by decide) (by decide), fun i _ _ => z _ _ (by decide) (by decide), z _ _ (by decide) (by decide), z _ _ (by decide) (by decide), z _ _ (by decide) (by decide), z _ _ (by decide) (by decide), z _ _ (by decide) (by decide), z _ _ (by decide) (by decide), z _ _ (by decide) (by decide)⟩
  have ht : tI G00 ν := ⟨z 3 0 (by decide) (by decide), z 3 1 (by decide) (by decide), fun i i0 i1 => by have : i < 2 * 0 := i1; omega⟩
  have hI := cP_cI (Or.inl rfl) hp ht
  rw [GW_id] at hI
  refine ⟨⟨X00, hI, Or.inr ⟨rfl, rfl, rfl⟩⟩, ⟨0, Int.le_refl _, by decide, z0 10 (by decide) (by decide), z0 11 (by decide) (by decide), fun j e he => by cases j <;> cases he⟩, ⟨z _ _ (by decide) (by decide), fun i _ _ => z _ _ (by decide) (by decide), fun i _ _ => z _ _ (by decide) (by decide), fun i _ _ => z _ _ (by decide) (by decide), fun i c i0 i1 => ?_, fun i c i0 i1 => ?_⟩, fun n n0 n1 => ?_, z0 1 (by decide) (by decide), fun i i0 i1 => ?_, ?_, ?_, z _ _ (by decide) (by decide), fun q => absurd rfl q, h15, h16, z _ _ (by decide) (by decide), fun i i0 i1 => ?_⟩
  · have : i < 0 := i1
    omega
  · have : i < 0 := i1
    omega
  · have : n < 0 := n1
    omega
  · have : i < 0 := i1
    omega
  · exact z _ _ (by decide) (by decide)
  · exact z _ _ (by decide) (by decide)
  · have : i < 0 := i1
    omega
theorem st_M {ν : ax_M} (hz : ∀ a k, 207 ≤ a → ¬ (a = 207 ∧ (k = 10 ∨ k = 30 ∨ k = 31)) → ν.1 a k = zI 0) (h10 : ν.1 207 10 = zI (-1)) (h30 : ν.1 207 30 = zI (-1)) (h31 : ν.1 207 31 = zI (-1)) : iM G00 S00 [] K00 ν := by
  have z : ∀ a k, 207 < a → ν.1 a k = zI 0 := fun a k h0 => hz a k (by omega) (fun q => by omega)
  have z0 : ∀ k, k ≠ 10 → k ≠ 30 → k ≠ 31 → ν.1 207 k = zI 0 := fun k h0 h1 h2 => hz 207 k (by decide) (fun q => by omega)
  have hmI : mI G00 S00 ν := by
    have := sP_mI (G := G00) (W := gwt G00) (S := S00) (ν := ν) ⟨z _ _ (by decide), z _ _ (by decide), fun _ _ _ => z _ _ (by decide), fun _ _ _ => z _ _ (by decide)⟩ ⟨fun _ _ _ => z _ _ (by decide), fun _ _ _ => z _ _ (by decide), fun _ _ _ _ _ _ => z _ _ (by decide), z _ _ (by decide), z _ _ (by decide), z _ _ (by decide), fun _ _ _ _ _ _ => z _ _ (by decide)⟩
    rwa [GW_id] at this
  refine ⟨hmI, ⟨z0 24 (by decide) (by decide) (by decide), fun j e he => by cases j <;> cases he⟩, ⟨z _ _ (by decide), fun i i0 i1 => ?_⟩, fun n n0 n1 => ?_, z0 2 (by decide) (by decide) (by decide), fun i i0 i1 => ?_, z _ _ (by decide), z _ _ (by decide), z0 9 (by decide) (by decide) (by decide), h10, h30, h31, z0 34 (by decide) (by decide) (by decide), fun i i0 i1 => ?_⟩
  · have : i < 0 := i1
    omega
  · have : n < 0 := n1
    omega
  · have : i < 0 := i1
    omega
  · have : i < 0 := i1
    omega
