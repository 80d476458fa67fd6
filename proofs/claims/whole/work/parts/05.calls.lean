/-! ax: the machine's meaning is the real one's: a block -/
section AXT
variable {p : Program} {l : Launch} {e : Env} {s : State} {m : MethodId} {args : Array Value} {below : List Frame} {meth : Method} {c : Code}
variable {Dg : va_G} {cl : List vw_C} {A : Nat → Prop} {cA : Nat → ClassId} {ad : Nat → Nat} {sh : Nat → ax_C} {N : Nat} {X : State → Prop} {Ts : List Jvm.Cond} {wd : Nat → Nat → Option Jvm.Cond} {NM : Nat} {MT : Nat → ax_D} {BL : Nat → ax_B} {EN : Nat → Nat} {J : ax_J} {y : Nat}
theorem ax_l0_jump {ks : List Nat} {vs : List Value} (h : ks.head? ≠ some 999) : ax_l0 ks vs = some (ks.zip vs) := by
  unfold ax_l0
  split
  · exact absurd rfl h
  · rfl
theorem ax_tgo {R : Room} {nL : Nat} {z : Option Value × ax_M} {pc : Nat} {off : Int} {x : List Nat} {lv : ax_L} {st : List Value} {μ : ax_M} {H : Heap} {locs : List Loc} {ls : Array Slot}
    (hJ : ∀ lb vs st μ z, (BL lb).1 = y → J lb vs st μ = some z → ∃ lv0, ax_l0 (BL lb).2.2.1 vs = some lv0 ∧ ax_Z p l e R s m args below meth c Dg cl A cA ad sh N nL z (BL lb).2.1 lv0 st μ)
    (ht : ax_tg BL y pc off x = true) (h : ax_go J lv st μ x = some z) (hW : ax_W Dg cl A cA ad sh N μ H) (hS : va_S A s.heap H locs) (hl : lv_has ls nL (ax_ml ad lv)) :
    ∃ tgt : Nat, (pc : Int) + off = (tgt : Int) ∧ W p l e R s m args below meth c H locs 0 0 (MQ below (ax_Q Dg cl A cA ad sh N z.1 z.2) args s 0 0 A) (F0 m tgt ls (st.map (ax_rv ad))) := by
  obtain ⟨lb, ks, rfl, h1, h2, h3, h4⟩ := ax_tg_spec ht
  rw [ax_go] at h
  split at h
  · next vs hv =>
    obtain ⟨lv0, e1, hz⟩ := hJ lb vs st μ z h1 h
    rw [h3, ax_l0_jump h4] at e1
    cases e1
    exact ⟨_, h2, hz H locs ls hW hS (ax_pick_has hl hv)⟩
  · cases h
theorem ax_swT {R : Room} {nL : Nat} {z : Option Value × ax_M} {pc : Nat} {dflt lo hi : Int} {offs : Array Int} {len : Nat} {a : Int32} {x : List Nat} {lv : ax_L} {st : List Value} {μ : ax_M} {H : Heap} {locs : List Loc} {ls : Array Slot} (hx : p.tables.exec = Jvm.exec) {cc : ByteArray} (hb : c.code = cc)
    (hJ : ∀ lb vs st μ z, (BL lb).1 = y → J lb vs st μ = some z → ∃ lv0, ax_l0 (BL lb).2.2.1 vs = some lv0 ∧ ax_Z p l e R s m args below meth c Dg cl A cA ad sh N nL z (BL lb).2.1 lv0 st μ)
    (hd : decode cc pc = .ok (.tableswitch dflt lo hi offs, len)) (h1 : ax_tg BL y pc dflt x = true) (hW : ax_W Dg cl A cA ad sh N μ H) (hS : va_S A s.heap H locs) (hl : lv_has ls nL (ax_ml ad lv)) :
    ∀ (ys : List (List Nat)) (os : List Int) (pre : List Int), offs.toList = pre ++ os → ax_tt BL y pc (lo + pre.length) os ys = true → lo + (pre.length : Int) + ys.length = hi + 1 → (a.toInt < lo + pre.length → a.toInt < lo) → ax_sw J lv st μ a x ys = some z →
    W p l e R s m args below meth c H locs 0 0 (MQ below (ax_Q Dg cl A cA ad sh N z.1 z.2) args s 0 0 A) (F0 m pc ls (.int a :: st.map (ax_rv ad))) := by
  intro ys
  induction ys with
  | nil =>
    intro os pre ho ht hlen hlt h
    obtain ⟨tgt, e1, k⟩ := ax_tgo hJ h1 h hW hS hl
    refine lv_tableOut hx hb hd ?_ e1 k
    simp only [List.length_nil] at hlen
    rcases Int.lt_or_le a.toInt lo with q | q
    · exact Or.inl q
    · right
      rcases Int.lt_or_le hi a.toInt with q2 | q2
      · exact q2
      · have := hlt (by omega)
        omega
  | cons w ys ih =>
    intro os pre ho ht hlen hlt h
    cases os with
    | nil => cases w <;> simp [ax_tt] at ht
    | cons o os =>
      cases w with
      | nil => simp [ax_tt] at ht
      | cons k w =>
        simp only [ax_tt, Bool.and_eq_true, decide_eq_true_eq] at ht
        obtain ⟨⟨⟨hk, hk2⟩, htg⟩, ht2⟩ := ht
        rw [ax_sw] at h
        split at h
        · next hak =>
          obtain ⟨tgt, e1, kk⟩ := ax_tgo hJ htg h hW hS hl
          have hki : a.toInt = lo + (pre.length : Int) := by
            rw [hak, ← hk]
            exact toInt_of rfl hk2
          simp only [List.length_cons] at hlen
          refine lv_tableIn hx hb hd (by omega) (by omega) (off := o) ?_ e1 kk
          have : (a.toInt - lo).toNat = pre.length := by omega
          rw [this, ← Array.getElem?_toList, ho]
          simp
        · next hak =>
          refine ih os (pre ++ [o]) (by simp [ho]) (by simpa [Int.add_assoc] using ht2) (by simp only [List.length_append, List.length_cons, List.length_nil] at hlen ⊢; omega) ?_ h
          intro q
          apply hlt
          have hne : a.toInt ≠ lo + (pre.length : Int) := by
            intro q2
            apply hak
            apply Int32.toInt_inj.mp
            rw [q2, ← hk]
            exact (toInt_of rfl hk2).symm
          simp only [List.length_append, List.length_cons, List.length_nil] at q
          omega
theorem ax_swL {R : Room} {nL : Nat} {z : Option Value × ax_M} {pc : Nat} {dflt : Int} {ps : Array (Int × Int)} {len : Nat} {a : Int32} {x : List Nat} {lv : ax_L} {st : List Value} {μ : ax_M} {H : Heap} {locs : List Loc} {ls : Array Slot} (hx : p.tables.exec = Jvm.exec) {cc : ByteArray} (hb : c.code = cc)
    (hJ : ∀ lb vs st μ z, (BL lb).1 = y → J lb vs st μ = some z → ∃ lv0, ax_l0 (BL lb).2.2.1 vs = some lv0 ∧ ax_Z p l e R s m args below meth c Dg cl A cA ad sh N nL z (BL lb).2.1 lv0 st μ)
    (hd : decode cc pc = .ok (.lookupswitch dflt ps, len)) (hsort : (ps.toList.zip (ps.toList.drop 1)).all (fun (a, next) => a.1 < next.1) = true) (h1 : ax_tg BL y pc dflt x = true) (hW : ax_W Dg cl A cA ad sh N μ H) (hS : va_S A s.heap H locs) (hl : lv_has ls nL (ax_ml ad lv)) :
    ∀ (ys : List (List Nat)) (os : List (Int × Int)), ax_tl BL y pc os ys = true → Op.lookupswitch.offset ps.toList dflt a.toInt = Op.lookupswitch.offset os dflt a.toInt → ax_sw J lv st μ a x ys = some z →
    W p l e R s m args below meth c H locs 0 0 (MQ below (ax_Q Dg cl A cA ad sh N z.1 z.2) args s 0 0 A) (F0 m pc ls (.int a :: st.map (ax_rv ad))) := by
  intro ys
  induction ys with
  | nil =>
    intro os ht ho h
    cases os with
    | cons _ _ => simp [ax_tl] at ht
    | nil =>
      obtain ⟨tgt, e1, k⟩ := ax_tgo hJ h1 h hW hS hl
      exact lv_lookup hx hb hd hsort ho (by rw [show Op.lookupswitch.offset [] dflt a.toInt = dflt from rfl]; exact e1) k
  | cons w ys ih =>
    intro os ht ho h
    cases os with
    | nil => cases w <;> simp [ax_tl] at ht
    | cons o os =>
      cases w with
      | nil => simp [ax_tl] at ht
      | cons k w =>
        obtain ⟨oa, oo⟩ := o
        simp only [ax_tl, Bool.and_eq_true, decide_eq_true_eq] at ht
        obtain ⟨⟨⟨hk, hk2⟩, htg⟩, ht2⟩ := ht
        have hkt : (Int32.ofNat k).toInt = oa := by rw [← hk]; exact toInt_of rfl hk2
        rw [ax_sw] at h
        split at h
        · next hak =>
          obtain ⟨tgt, e1, kk⟩ := ax_tgo hJ htg h hW hS hl
          refine lv_lookup hx hb hd hsort (ho.trans ?_) e1 kk
          rw [Op.lookupswitch.offset_cons, if_pos (by rw [hak, hkt])]
        · next hak =>
          exact ih os ht2 (ho.trans (lv_osw hak hkt)) h

theorem ax_rk_ret {ret : Option FieldType} {rk : Nat} (h : ax_rk ret rk = true) : rk ≤ 3 := by
  unfold ax_rk at h
  split at h <;> first | omega | cases h
/-- a call -/
theorem ax_callZ {pc rk : Nat} {z : Option Value × ax_M} {st' : List Value} {r : ax_R} {k : List Value → ax_M → ax_R} {R : Room} {H : Heap} {locs : List Loc} {ls : Array Slot} {st0 : List Value}
    (hrk : rk ≤ 3)
    (hrun : ∀ (v : Option Value) (μ1 : ax_M), r = some (v, μ1) → ∃ a, va_Run p l e R s m args below meth c H locs 0 0 0 0 (F0 m pc ls st0) (st'.map (ax_rv ad)) (ax_Q Dg cl A cA ad sh N v μ1 a) A)
    (hk : ∀ (ws : List Value) (μ1 : ax_M) (H1 : Heap) (locs1 : List Loc), k ws μ1 = some z → ax_W Dg cl A cA ad sh N μ1 H1 → va_S A s.heap H1 locs1 → W p l e R s m args below meth c H1 locs1 0 0 (MQ below (ax_Q Dg cl A cA ad sh N z.1 z.2) args s 0 0 A) (F0 m (pc + 3) ls (ws.map (ax_rv ad))))
    (hS : va_S A s.heap H locs)
    (h : (match rk with
      | 0 => ax_b0 r (fun μ' => k st' μ')
      | 1 => ax_b1 r (fun v μ' => k (.int v :: st') μ')
      | 2 => ax_b2 r (fun v μ' => k (.long v :: st') μ')
      | 3 => ax_b3 r (fun v μ' => k (.ref v :: st') μ') (fun μ' => k (.null :: st') μ')
      | _ => none) = some z) :
    W p l e R s m args below meth c H locs 0 0 (MQ below (ax_Q Dg cl A cA ad sh N z.1 z.2) args s 0 0 A) (F0 m pc ls st0) := by
  match rk, hrk with
  | 0, _ =>
    obtain ⟨μ1, h1, h2⟩ := ax_b0_some h
    obtain ⟨a, ha⟩ := hrun _ _ h1
    exact ax_back ha hS fun H1 locs1 hW1 hS1 => hk st' μ1 H1 locs1 h2 hW1 hS1
  | 1, _ =>
    obtain ⟨v, μ1, h1, h2⟩ := ax_b1_some h
    obtain ⟨a, ha⟩ := hrun _ _ h1
    exact ax_back ha hS fun H1 locs1 hW1 hS1 => hk (.int v :: st') μ1 H1 locs1 h2 hW1 hS1
  | 2, _ =>
    obtain ⟨v, μ1, h1, h2⟩ := ax_b2_some h
    obtain ⟨a, ha⟩ := hrun _ _ h1
    exact ax_back ha hS fun H1 locs1 hW1 hS1 => hk (.long v :: st') μ1 H1 locs1 h2 hW1 hS1
  | 3, _ =>
    rcases ax_b3_some h with ⟨v, μ1, h1, h2⟩ | ⟨μ1, h1, h2⟩
    · obtain ⟨a, ha⟩ := hrun _ _ h1
      exact ax_back ha hS fun H1 locs1 hW1 hS1 => hk (.ref v :: st') μ1 H1 locs1 h2 hW1 hS1
    · obtain ⟨a, ha⟩ := hrun _ _ h1
      exact ax_back ha hS fun H1 locs1 hW1 hS1 => hk (.null :: st') μ1 H1 locs1 h2 hW1 hS1

end AXT
