/-! r: what holds where the law starts: the texts -/
def la_tm (i : Nat) : Jvm.Term := .string "AskingFragments" ((ax_SL.getD i (0, "")).1)
theorem la_txt {s : State} {b : Nat} {A : Nat → Prop} (hgv : (Jvm.Cond.and given_1 narrow_1).before #[Value.ref b] s = true) (hA : ∀ a : Nat, a < s.heap.size → ¬ A a) (key : ∀ i, i < 22 → ∀ j, j < 22 → i < j → (Jvm.Cond.not (Jvm.Cond.eq (la_tm i) (la_tm j))) ∈ flatC (Jvm.Cond.and given_1 narrow_1)) : ∃ adK adV : Nat → Nat, vk_S 22 ax_lens ax_byts adK adV A s s.heap ∧ ∀ i : Nat, i < 22 → (la_tm i).eval #[Value.ref b] s none [] s = some (.ref (adK i)) := by
  have fl := flat_of_before _ hgv
  refine vk_Sof (tm := la_tm) (by decide +kernel) (fun i hi => fl _ ?_) (fun i hi => fl _ ?_) (fun i hi => fl _ ?_) (fun i hi => fl _ ?_) (fun i hi j hj => fl _ ?_) (fun i j hi hj hij => ?_) hA
  · revert i; decide +kernel
  · revert i; decide +kernel
  · revert i; decide +kernel
  · revert i; decide +kernel
  · revert j; revert i; decide +kernel
  · rcases Nat.lt_or_ge i j with h | h
    · exact Or.inl (fl _ (key i hi j hj h))
    · exact Or.inr (fl _ (key j hj i hi (by omega)))
