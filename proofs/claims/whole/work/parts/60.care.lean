/-! what doesn't matter for those words that matter -/
def sEA (G : Gs) (e : Nat → Nat) (a : Nat → Bool) : Sc := scS G e (mo (scn G)) (ow (scn G)) (lo_ G) a
theorem sim_own {S : Sc} {q v : Nat} (hq : q < cn S) (ho : ow S q v = true) (z : Nat) : (sim S z).2.2 q v = some 0 := by
  have : (sim S 0).2.2 q v = some 0 := by rw [sim_K_0, decide_eq_true hq, ho]; rfl
  have := sim_K_up S z this
  rw [Nat.zero_add] at this
  exact this
/-- letters of H, and the wanted words, are alike -/
def PR (G : Gs) (H : Nat → Bool) (Wt : Nat → Nat → Bool) (st st' : Ys) : Prop := (∀ k, k < ls G → H k = true → st.1 k = st'.1 k ∧ st.2.1 k = st'.2.1 k) ∧ (∀ q v, Wt q v = true → st.2.2 q v = st'.2.2 q v) ∧ ∀ q v, q < cnt G → ow (scn G) q v = true → st.2.2 q v = some 0 ∧ st'.2.2 q v = some 0
theorem PR.sy {G : Gs} {H : Nat → Bool} {Wt : Nat → Nat → Bool} {st st' : Ys} (h : PR G H Wt st st') : PR G H Wt st' st :=
  ⟨fun k hk hh => ⟨(h.1 k hk hh).1.symm, (h.1 k hk hh).2.symm⟩, fun q v hw => (h.2.1 q v hw).symm, fun q v hq ho => ⟨(h.2.2 q v hq ho).2, (h.2.2 q v hq ho).1⟩⟩
/-- where lives agree -/
def LvE (G : Gs) (H : Nat → Bool) (Wt : Nat → Nat → Bool) (T1 T2 : Sc) : Prop := (∀ k, k < ls G → H k = true → ac T1 k = ac T2 k ∧ (∀ y, lvs T1 (lw G k) y = lvs T2 (lw G k) y) ∧ ∀ y, lvs T1 (lr G k) y = lvs T2 (lr G k) y) ∧ ∀ q v, Wt q v = true → ∀ y, lvs T1 q y = lvs T2 q y
/-- H's letters want what they need -/
def Clo (G : Gs) (H : Nat → Bool) (Wt : Nat → Nat → Bool) : Prop := ∀ k, k < ls G → H k = true → (lw G k < cnt G → Wt (lw G k) (lo_ G k) = true ∨ ow (scn G) (lw G k) (lo_ G k) = true) ∧ (lr G k < cnt G → ∀ w, ln_ G k = some w → Wt (lr G k) w = true ∨ ow (scn G) (lr G k) w = true)
/-- the other letters bring nothing that is wanted -/
def Off (G : Gs) (H : Nat → Bool) (Wt : Nat → Nat → Bool) (Y : Nat) (T : Sc) : Prop := ∀ k, k < ls G → H k = false → ∀ z, z ≤ Y → lvs T (lw G k) (ly G k) = true → ly G k ≤ z → can T k z = true → ∀ p, hrs T k z p = true → Wt p (lo_ G k) = false
theorem PR.off {G : Gs} {H : Nat → Bool} {Wt : Nat → Nat → Bool} {Y z k : Nat} {e : Nat → Nat} {a : Nat → Bool} {st st' : Ys} (h : PR G H Wt st st') (hD : Off G H Wt Y (sEA G e a)) (hk : k < ls G) (hh : H k = false) (hz : z ≤ Y) (hW : st.1 k = true → lvs (sEA G e a) (lw G k) (ly G k) = true ∧ ly G k ≤ z) : PR G H Wt (opn (sEA G e a) z k st) st' := by
  unfold opn
  by_cases c : opc (sEA G e a) z k st = true
  · rw [if_pos c]
    have c0 := c
    unfold opc at c
    simp only [Bool.and_eq_true] at c
    obtain ⟨⟨⟨c1, -⟩, c3⟩, -⟩ := c
    obtain ⟨w1, w2⟩ := hW c1
    refine ⟨fun j hj hhj => ?_, fun q v hw => ?_, fun q v hq ho => ?_⟩
    · dsimp only
      rw [if_neg (fun e => by rw [e, hh] at hhj; cases hhj)]
      exact h.1 j hj hhj
    · dsimp only
      have : (decide (v = wd (sEA G e a) k) && hrs (sEA G e a) k z q && (st.2.2 q v).isNone) = false := by
        cases d1 : decide (v = wd (sEA G e a) k) with
        | false => rfl
        | true =>
          cases d2 : hrs (sEA G e a) k z q with
          | false => rfl
          | true =>
            have := hD k hk hh z hz w1 w2 c3 q d2
            have ev : v = lo_ G k := of_decide_eq_true d1
            rw [ev, this] at hw
            cases hw
      rw [this, if_neg (show ¬ false = true by decide)]
      exact h.2.1 q v hw
    · dsimp only
      have := h.2.2 q v hq ho
      rw [this.1, show (some 0 : Option Nat).isNone = false from rfl, Bool.and_false, if_neg (show ¬ false = true by decide)]
      exact ⟨rfl, this.2⟩
  · rw [if_neg c]
    exact h
theorem PR.on {G : Gs} {H : Nat → Bool} {Wt : Nat → Nat → Bool} {z k : Nat} {e1 e2 : Nat → Nat} {a1 a2 : Nat → Bool} {st st' : Ys} (h : PR G H Wt st st') (hL : LvE G H Wt (sEA G e1 a1) (sEA G e2 a2)) (hC : Clo G H Wt) (hk : k < ls G) (hh : H k = true) : PR G H Wt (opn (sEA G e1 a1) z k st) (opn (sEA G e2 a2) z k st') := by
  obtain ⟨l1, l2, l3⟩ := hL.1 k hk hh
  obtain ⟨w1, o1⟩ := h.1 k hk hh
  have ec : can (sEA G e2 a2) k z = can (sEA G e1 a1) k z := by
    show (lvs (sEA G e2 a2) (lr G k) z && _) = (lvs (sEA G e1 a1) (lr G k) z && _)
    rw [l3]
    rfl
  have eo : opc (sEA G e2 a2) z k st' = opc (sEA G e1 a1) z k st := by
    unfold opc
    rw [ec, ← w1, ← o1]
    cases cc : can (sEA G e1 a1) k z with
    | false => rw [Bool.and_false, Bool.false_and, Bool.false_and]
    | true =>
      have hr : lr G k < cnt G := (lvs_iff.mp (can_iff.mp cc).1).1
      have : has st' (sEA G e2 a2) k = has st (sEA G e1 a1) k := by
        show (ln_ G k).all (fun w => (st'.2.2 (lr G k) w).isSome) = (ln_ G k).all (fun w => (st.2.2 (lr G k) w).isSome)
        cases cn : ln_ G k with
        | none => rfl
        | some w =>
          show (st'.2.2 (lr G k) w).isSome = (st.2.2 (lr G k) w).isSome
          rcases (hC k hk hh).2 hr w cn with q | q
          · rw [h.2.1 _ _ q]
          · obtain ⟨q1, q2⟩ := h.2.2 _ _ hr q
            rw [q1, q2]
      rw [this]
  unfold opn
  rw [eo]
  by_cases c : opc (sEA G e1 a1) z k st = true
  · rw [if_pos c, if_pos c]
    refine ⟨fun j hj hhj => ?_, fun q v hw => ?_, fun q v hq ho => ?_⟩
    · dsimp only
      rw [(h.1 j hj hhj).2]
      exact ⟨(h.1 j hj hhj).1, rfl⟩
    · dsimp only
      have eh : hrs (sEA G e2 a2) k z q = hrs (sEA G e1 a1) k z q := by
        show (if el (scn G) (lr G k) = true then decide (q ≠ lr G k) && lvs (sEA G e2 a2) q z else decide (q = lr G k)) = (if el (scn G) (lr G k) = true then decide (q ≠ lr G k) && lvs (sEA G e1 a1) q z else decide (q = lr G k))
        rw [hL.2 q v hw z]
      rw [eh, h.2.1 q v hw]
      rfl
    · dsimp only
      have := h.2.2 q v hq ho
      rw [this.1, this.2, show (some 0 : Option Nat).isNone = false from rfl, Bool.and_false, Bool.and_false, if_neg (show ¬ false = true by decide)]
      exact ⟨rfl, rfl⟩
  · rw [if_neg c, if_neg c]
    exact h
theorem PR.all {G : Gs} {H : Nat → Bool} {Wt : Nat → Nat → Bool} {Y z : Nat} {e1 e2 : Nat → Nat} {a1 a2 : Nat → Bool} (hL : LvE G H Wt (sEA G e1 a1) (sEA G e2 a2)) (hC : Clo G H Wt) (h1 : Off G H Wt Y (sEA G e1 a1)) (h2 : Off G H Wt Y (sEA G e2 a2)) (hz : z ≤ Y) {st st' : Ys} (hW : ∀ k, st.1 k = true → lvs (sEA G e1 a1) (lw G k) (ly G k) = true ∧ ly G k ≤ z) (hW' : ∀ k, st'.1 k = true → lvs (sEA G e2 a2) (lw G k) (ly G k) = true ∧ ly G k ≤ z) (h : PR G H Wt st st') : ∀ m, m ≤ ls G → PR G H Wt (opns (sEA G e1 a1) z m st) (opns (sEA G e2 a2) z m st')
  | 0, _ => h
  | m + 1, q => by
    have ih := PR.all hL hC h1 h2 hz hW hW' h m (by omega)
    show PR G H Wt (opn (sEA G e1 a1) z m (opns (sEA G e1 a1) z m st)) (opn (sEA G e2 a2) z m (opns (sEA G e2 a2) z m st'))
    cases hh : H m with
    | true => exact ih.on hL hC (by omega) hh
    | false =>
      have i1 := ih.off h1 (by omega) hh hz (fun c => hW m (by rw [opns_W] at c; exact c))
      exact (i1.sy.off h2 (by omega) hh hz (fun c => hW' m (by rw [opns_W] at c; exact c))).sy
theorem wrt_W {S : Sc} {z k : Nat} (h : (wrt S z (sim S z)).1 k = true) : lvs S (wr S k) (yr S k) = true ∧ yr S k ≤ z := by
  have : (sim S (z + 1)).1 k = true := by
    show (opns S z (sz S) (wrt S z (sim S z))).1 k = true
    rw [opns_W]; exact h
  obtain ⟨-, w1, w2⟩ := sim_W_ok S (z + 1) this
  unfold wok at w1
  simp only [Bool.and_eq_true] at w1
  exact ⟨w1.2, by omega⟩
theorem care_eq {G : Gs} {H : Nat → Bool} {Wt : Nat → Nat → Bool} {Y : Nat} {e1 e2 : Nat → Nat} {a1 a2 : Nat → Bool} (hL : LvE G H Wt (sEA G e1 a1) (sEA G e2 a2)) (hC : Clo G H Wt) (h1 : Off G H Wt Y (sEA G e1 a1)) (h2 : Off G H Wt Y (sEA G e2 a2)) : ∀ z, z ≤ Y + 1 → PR G H Wt (sim (sEA G e1 a1) z) (sim (sEA G e2 a2) z)
  | 0, _ => ⟨fun _ _ _ => ⟨rfl, rfl⟩, fun _ _ _ => rfl, fun q v hq ho => ⟨sim_own (S := sEA G e1 a1) hq ho 0, sim_own (S := sEA G e2 a2) hq ho 0⟩⟩
  | z + 1, q => by
    have ih := care_eq hL hC h1 h2 z (by omega)
    have hw : PR G H Wt (wrt (sEA G e1 a1) z (sim (sEA G e1 a1) z)) (wrt (sEA G e2 a2) z (sim (sEA G e2 a2) z)) := by
      refine ⟨fun k hk hh => ⟨?_, (ih.1 k hk hh).2⟩, ih.2.1, ih.2.2⟩
      obtain ⟨l1, l2, l3⟩ := hL.1 k hk hh
      show ((sim (sEA G e1 a1) z).1 k || (decide (k < ls G) && decide (ly G k = z) && (ac (sEA G e1 a1) k && lvs (sEA G e1 a1) (lw G k) (ly G k)) && ((sim (sEA G e1 a1) z).2.2 (lw G k) (lo_ G k)).isSome)) = ((sim (sEA G e2 a2) z).1 k || (decide (k < ls G) && decide (ly G k = z) && (ac (sEA G e2 a2) k && lvs (sEA G e2 a2) (lw G k) (ly G k)) && ((sim (sEA G e2 a2) z).2.2 (lw G k) (lo_ G k)).isSome))
      rw [(ih.1 k hk hh).1, l1, l2]
      cases cl : lvs (sEA G e2 a2) (lw G k) (ly G k) with
      | false => rw [Bool.and_false, Bool.and_false, Bool.false_and, Bool.false_and]
      | true =>
        have hw : lw G k < cnt G := (lvs_iff.mp cl).1
        have : (sim (sEA G e1 a1) z).2.2 (lw G k) (lo_ G k) = (sim (sEA G e2 a2) z).2.2 (lw G k) (lo_ G k) := by
          rcases (hC k hk hh).1 hw with q | q
          · exact ih.2.1 _ _ q
          · obtain ⟨q1, q2⟩ := ih.2.2 _ _ hw q
            rw [q1, q2]
        rw [this]
    exact PR.all hL hC h1 h2 (show z ≤ Y by omega) (fun k c => wrt_W c) (fun k c => wrt_W c) hw (ls G) (Nat.le_refl _)
