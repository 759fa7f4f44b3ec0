/-! the model reads: what waits -/
def sgO (c : Nat) : Nat := if c = 43 then 2 else if c = 45 then 3 else if c = 42 then 4 else if c = 47 then 5 else 6
def opC (o : Nat) : Nat := if o = 2 then 43 else if o = 3 then 45 else if o = 4 then 42 else if o = 5 then 47 else 37
def clS (all : Bool) : VD → List (Nat × Nat) → VD × List (Nat × Nat)
  | l, [] => (l, [])
  | l, q :: r => if (4 ≤ q.1 ∧ q.1 ≤ 6) ∨ (all = true ∧ (q.1 = 2 ∨ q.1 = 3)) then clS all (emit l (opC q.1) 0) r else (l, q :: r)
def laS (all : Bool) : VD → List (Nat × Nat) → VD × List (Nat × Nat)
  | l, [] => (l, [])
  | l, q :: r => if q.1 = 11 ∨ (all = true ∧ q.1 = 12) then laS all (patch l q.2) r else (l, q :: r)
def enS : VD → List (Nat × Nat) → Nat → VD × List (Nat × Nat) × Nat
  | l, [], o => (l, [], o)
  | l, q :: r, o => if q.1 = 10 then enS (emit l 33 0) r (o - 1) else (l, q :: r, o)
theorem opN_opC : ∀ o, o < 7 → 2 ≤ o → opN (opC o) = o := by decide
def bI (b : Bool) : Int32 := if b then 1 else 0
theorem bI_0 (b : Bool) : bI b = 0 ↔ b = false := by cases b <;> decide
section MW
variable {T : Nat → Nat} {n d : Nat} {M0 M : Mem} {a op : Nat} {l : VD} {ws : List (Nat × Nat)}
theorem m_closes (hn : n ≤ 160) (h : MSt n M0 M a l ws op) (all : Bool) (hd : 1 ≤ d) {P : Mem → Prop} (k : ∀ M', MSt n M0 M' a (clS all l ws).1 (clS all l ws).2 op → P M') : AMv d iX10_closesSums [.ref 77, .int (bI all)] M P := by
  obtain ⟨d, rfl⟩ : ∃ d', d = d' + 1 := ⟨d - 1, by omega⟩
  have key : ∀ (ws : List (Nat × Nat)) l M, MSt n M0 M a l ws op → (∀ M', MSt n M0 M' a (clS all l ws).1 (clS all l ws).2 op → P M') → AX10_closesSums (d + 1) (fun r M' => r = none ∧ P M') 0 [lR 77, lI (bI all)] [] M := by
    intro ws
    induction ws with
    | nil =>
      intro l M h k
      refine bX10_closesSums_0 M _ ((m_waitTop hn h).i ⟨fun _ => ?_, fun z => absurd (show (-1 : Int32) < 4 by decide) z⟩)
      exact bX10_closesSums_17 M _ ⟨fun _ => ⟨rfl, k M h⟩, fun _ => (m_waitTop hn h).i ⟨fun z => absurd z (show ¬ (-1 : Int32) = 2 by decide), fun _ => (m_waitTop hn h).i ⟨fun _ => ⟨rfl, k M h⟩, fun z => absurd z (show ¬ (-1 : Int32) = 3 by decide)⟩⟩⟩
    | cons q r ih =>
      intro l M h k
      have hq := h.2.1.2.2.2.2.2 q List.mem_cons_self
      have q14 := hq.1
      have go37 : ((4 ≤ q.1 ∧ q.1 ≤ 6) ∨ (all = true ∧ (q.1 = 2 ∨ q.1 = 3))) → AX10_closesSums (d + 1) (fun r M' => r = none ∧ P M') 37 [lR 77, lI (bI all)] [] M := by
        intro hc
        have hc2 : 2 ≤ q.1 ∧ q.1 ≤ 6 := by omega
        have hh := h
        obtain ⟨h1, ⟨p1, p2, p3, p4, p5, p6⟩, hm⟩ := h
        rw [pend, if_pos (Or.inl hc2)] at p2
        rw [opn, if_neg (by omega)] at p4
        rw [List.length_cons] at p3
        refine bX10_closesSums_37 M _ ((m_waitTop hn hh).i ?_)
        have hoc := opN_opC q.1 (by omega) hc2.1
        refine m_notesR (z := l 0 1) (o := q.1) (v := 0) hm.2.2.1 (by omega) ?_
        have mc := hm.code (opC q.1) 0
        rw [hoc] at mc
        have e16 := mc.2.2.2.1
        rw [e16, List.length_cons, nI_pred]
        refine ih _ _ ⟨((h1.w 84 _ _ (by decide) (by decide)).wo 15 _ (by decide)).wo 16 _ (by decide), ⟨p1, by rw [em_n]; omega, by omega, by omega, p5.em (by omega), p6.tl.up (by rw [em_n]; omega)⟩, mc.pop⟩ (fun M' h' => k M' ?_)
        rw [clS, if_pos hc]; exact h'
      have no : ¬ ((4 ≤ q.1 ∧ q.1 ≤ 6) ∨ (all = true ∧ (q.1 = 2 ∨ q.1 = 3))) → P M := fun hc => k M (by rw [clS, if_neg hc]; exact h)
      have go17 : ¬ (4 ≤ q.1 ∧ q.1 ≤ 6) → AX10_closesSums (d + 1) (fun r M' => r = none ∧ P M') 17 [lR 77, lI (bI all)] [] M := by
        intro hc
        refine bX10_closesSums_17 M _ ⟨fun z => ⟨rfl, no (fun w => ?_)⟩, fun z => (m_waitTop hn h).i ?_⟩
        · rw [(bI_0 all).mp z] at w; rcases w with w | w
          · exact hc w
          · cases w.1
        · have ha : all = true := by cases all <;> simp_all [bI]
          refine bq_eq q.1 2 rfl rfl (by omega) (by omega) (fun z => go37 (Or.inr ⟨ha, Or.inl z⟩)) (fun z2 => (m_waitTop hn h).i ?_)
          refine bq_ne q.1 3 rfl rfl (by omega) (by omega) (fun z3 => ⟨rfl, no (fun w => by omega)⟩) (fun z3 => go37 (Or.inr ⟨ha, Or.inr z3⟩))
      refine bX10_closesSums_0 M _ ((m_waitTop hn h).i ?_)
      refine bq_lt q.1 4 rfl rfl (by omega) (by omega) (fun z => go17 (by omega)) (fun z => (m_waitTop hn h).i ?_)
      exact bq_le q.1 6 rfl rfl (by omega) (by omega) (fun z2 => go37 (Or.inl ⟨z, z2⟩)) (fun z2 => go17 (by omega))
  exact eX10_closesSums M _ (key ws l M h k)
theorem m_lands (hn : n ≤ 160) (h : MSt n M0 M a l ws op) (all : Bool) (hd : 1 ≤ d) {P : Mem → Prop} (k : ∀ M', MSt n M0 M' a (laS all l ws).1 (laS all l ws).2 op → P M') : AMv d iX10_lands [.ref 77, .int (bI all)] M P := by
  obtain ⟨d, rfl⟩ : ∃ d', d = d' + 1 := ⟨d - 1, by omega⟩
  have key : ∀ (ws : List (Nat × Nat)) l M, MSt n M0 M a l ws op → (∀ M', MSt n M0 M' a (laS all l ws).1 (laS all l ws).2 op → P M') → AX10_lands (d + 1) (fun r M' => r = none ∧ P M') 0 [lR 77, lI (bI all), none] [] M := by
    intro ws
    induction ws with
    | nil =>
      intro l M h k
      exact bX10_lands_0 M _ ((m_waitTop hn h).i ⟨fun z => absurd z (show ¬ (-1 : Int32) = 11 by decide), fun _ => ⟨fun _ => ⟨rfl, k M h⟩, fun _ => (m_waitTop hn h).i ⟨fun _ => ⟨rfl, k M h⟩, fun z => absurd z (show ¬ (-1 : Int32) = 12 by decide)⟩⟩⟩)
    | cons q r ih =>
      intro l M h k
      have hq := h.2.1.2.2.2.2.2 q List.mem_cons_self
      have q14 := hq.1
      have go22 : (q.1 = 11 ∨ (all = true ∧ q.1 = 12)) → AX10_lands (d + 1) (fun r M' => r = none ∧ P M') 22 [lR 77, lI (bI all), none] [] M := by
        intro hc
        obtain ⟨h1, ⟨p1, p2, p3, p4, p5, p6⟩, hm⟩ := h
        have hf := hq.2.2 (by omega)
        rw [pend, if_neg (by omega)] at p2
        rw [opn, if_neg (by omega)] at p4
        rw [List.length_cons] at p3
        refine bX10_lands_22 M _ ?_
        have e : M 77 16 - 1 = nI r.length := by rw [hm.2.2.2.1, List.length_cons]; exact nI_pred _
        have e85 : M 85 r.length = encW q := by
          have := hm.2.2.2.2.2.1
          rw [List.length_map] at this
          exact this
        have ed := enc_div (o := q.1) (v := q.2) q14 hq.2.1
        rw [e, ix_nI (n := r.length) (by omega), e85]
        rw [show encW q - encW q / 1048576 * 1048576 = nI q.2 from ed.2, ix_nI (n := q.2) (by omega), hm.2.2.2.2.1 q.2 hf, (code_div (opN_lt (l 1 q.2)) (p5 q.2 hf)).1, hm.2.2.1, show (1048576 : Int32) = nI 1048576 from rfl, pk_mul, nI_add]
        refine ⟨vp_in_nI (by omega) (by decide), vp_in_nI (by omega) (by decide), vp_in_nI (by omega) (by decide), ?_⟩
        refine ih _ _ ⟨(h1.w 84 _ _ (by decide) (by decide)).wo 16 _ (by decide), ⟨p1, by rw [pt_n]; omega, by omega, by omega, p5.pt (by omega), p6.tl.up (by rw [pt_n]; omega)⟩, (hm.pat hf).pop⟩ (fun M' h' => k M' ?_)
        rw [laS, if_pos hc]; exact h'
      have no : ¬ (q.1 = 11 ∨ (all = true ∧ q.1 = 12)) → P M := fun hc => k M (by rw [laS, if_neg hc]; exact h)
      refine bX10_lands_0 M _ ((m_waitTop hn h).i ?_)
      refine bq_eq q.1 11 rfl rfl (by omega) (by omega) (fun z => go22 (Or.inl z)) (fun z => ⟨fun w => ⟨rfl, no (fun v => ?_)⟩, fun w => (m_waitTop hn h).i ?_⟩)
      · rw [(bI_0 all).mp w] at v; rcases v with v | v
        · exact z v
        · cases v.1
      · have ha : all = true := by cases all <;> simp_all [bI]
        exact bq_ne q.1 12 rfl rfl (by omega) (by omega) (fun z3 => ⟨rfl, no (fun v => by omega)⟩) (fun z3 => go22 (Or.inr ⟨ha, z3⟩))
  exact eX10_lands M _ (key ws l M h k)
theorem m_ends (hn : n ≤ 160) (h : MSt n M0 M a l ws op) (hd : 1 ≤ d) {P : Mem → Prop} (k : ∀ M', MSt n M0 M' a (enS l ws op).1 (enS l ws op).2.1 (enS l ws op).2.2 → P M') : AMv d iX10_endsPiece [.ref 77] M P := by
  obtain ⟨d, rfl⟩ : ∃ d', d = d' + 1 := ⟨d - 1, by omega⟩
  have key : ∀ (ws : List (Nat × Nat)) l op M, MSt n M0 M a l ws op → (∀ M', MSt n M0 M' a (enS l ws op).1 (enS l ws op).2.1 (enS l ws op).2.2 → P M') → AX10_endsPiece (d + 1) (fun r M' => r = none ∧ P M') 0 [lR 77] [] M := by
    intro ws
    induction ws with
    | nil =>
      intro l op M h k
      exact bX10_endsPiece_0 M ((m_waitTop hn h).i ⟨fun _ => ⟨rfl, k M h⟩, fun z => absurd z (show ¬ (-1 : Int32) = 10 by decide)⟩)
    | cons q r ih =>
      intro l op M h k
      have q14 := (h.2.1.2.2.2.2.2 q List.mem_cons_self).1
      refine bX10_endsPiece_0 M ((m_waitTop hn h).i ?_)
      refine bq_ne q.1 10 rfl rfl (by omega) (by omega) (fun z => ⟨rfl, k M (by rw [enS, if_neg z]; exact h)⟩) (fun z => ?_)
      obtain ⟨h1, ⟨p1, p2, p3, p4, p5, p6⟩, hm⟩ := h
      rw [pend, if_pos (Or.inr z)] at p2
      rw [opn, if_pos (Or.inl z)] at p4
      rw [List.length_cons] at p3
      refine m_notesR (z := l 0 1) (o := 10) (v := 0) hm.2.2.1 (by omega) ?_
      have mc := hm.code 33 0
      rw [show opN 33 = 10 from rfl] at mc
      have e16 := mc.2.2.2.1
      have e14 := mc.2.1
      have eo : nI op - 1 = nI (op - 1) := by
        obtain ⟨o, rfl⟩ : ∃ o, op = o + 1 := ⟨op - 1, by omega⟩
        exact nI_pred o
      rw [e16, e14, List.length_cons, nI_pred, eo]
      refine ih _ _ _ ⟨(((h1.w 84 _ _ (by decide) (by decide)).wo 15 _ (by decide)).wo 16 _ (by decide)).wo 14 _ (by decide), ⟨p1, by rw [em_n]; omega, by omega, by omega, p5.em (by omega), p6.tl.up (by rw [em_n]; omega)⟩, MRr.oc mc.pop (op - 1)⟩ (fun M' h' => k M' ?_)
      rw [enS, if_pos z]; exact h'
  exact eX10_endsPiece M (key ws l op M h k)
theorem m_jumps (hn : n ≤ 160) (h : MSt n M0 M a l ws op) (ha : a < n) (g : Nat) (hg : g = 38 ∨ g = 124) (hd : 1 ≤ d) {P : Mem → Prop} (k : ∀ M', MSt n M0 M' (a + 1) (emit l g 0) ((opN g, l 0 1) :: ws) op → P M') : AMv d iX10_jumps [.ref 77, .int (nI (opN g))] M P := by
  obtain ⟨d, rfl⟩ : ∃ d', d = d' + 1 := ⟨d - 1, by omega⟩
  obtain ⟨h1, ⟨p1, p2, p3, p4, p5, p6⟩, hm⟩ := h
  have ho : opN g = 11 ∨ opN g = 12 := by rcases hg with rfl | rfl; exact Or.inl rfl; exact Or.inr rfl
  refine eX10_jumps M _ (bX10_jumps_0 M _ ?_)
  rw [hm.2.2.2.1, hm.2.2.1, show (1048576 : Int32) = nI 1048576 from rfl, pk_mul, nI_add, ix_nI (by omega), nI_1]
  refine ⟨vp_in_nI (by omega) (by decide), ?_⟩
  have m1 := hm.push (opN g, l 0 1)
  refine m_notesR (z := l 0 1) (o := opN g) (v := 0) m1.2.2.1 (by omega) ⟨rfl, ?_⟩
  have m2 := m1.code g 0
  have e11 := m2.1
  rw [e11, nI_1]
  refine k _ ⟨((((h1.w 85 _ _ (by decide) (by decide)).wo 16 _ (by decide)).w 84 _ _ (by decide) (by decide)).wo 15 _ (by decide)).wo 11 _ (by decide), ⟨ha, ?_, by rw [List.length_cons]; omega, ⟨p4.1, ?_⟩, p5.em (by omega), (p6.up (by rw [em_n]; omega)).cons (by show opN g ≤ 14; omega) (by show l 0 1 < _; omega) (fun _ => by show l 0 1 < _; rw [em_n]; omega)⟩, m2.pl (a + 1)⟩
  · rw [em_n, pend, if_neg (by show ¬ ((2 ≤ opN g ∧ opN g ≤ 6) ∨ opN g = 10); omega)]; omega
  · rw [opn, if_neg (by show ¬ (opN g = 10 ∨ opN g = 13 ∨ opN g = 14); omega)]; omega
theorem stk_in {M : Mem} {x : Nat × Nat} {r : List (Nat × Nat)} : ∀ (ys : List (Nat × Nat)), stk M 85 ((ys ++ x :: r).map encW) → M 85 r.length = encW x
  | [], h => by have := h.1; rwa [List.length_map] at this
  | _ :: ys, h => stk_in ys h.2
def hasO (us : List (Nat × Nat)) : Bool := us.any (fun q => q.1 == 14)
theorem m_hasOpen {us bs : List (Nat × Nat)} (hn : n ≤ 160) (h : MSt n M0 M a l (us ++ bs) op) : AMp d iX10_hasOpenSum [.ref 77, .int (nI bs.length)] M (bI (hasO us)) := by
  obtain ⟨h1, ⟨p1, p2, p3, p4, p5, p6⟩, hm⟩ := h
  refine eX10_hasOpenSum M _ (bX10_hasOpenSum_0 M _ ?_)
  have key : ∀ (xs vs : List (Nat × Nat)), us = xs.reverse ++ vs → hasO vs = false → AX10_hasOpenSum d (fun r M' => some (bI (hasO us)) = r ∧ M = M') 2 [lR 77, none, lI (nI (bs.length + vs.length))] [] M := by
    intro xs
    induction xs with
    | nil =>
      intro vs e hv
      have e : us = vs := e
      subst e
      refine bX10_hasOpenSum_2 M _ ?_
      rw [hm.2.2.2.1]
      rw [List.length_append] at p3
      exact bq_le _ _ (by rw [List.length_append, Nat.add_comm]) rfl (by omega) (by omega) (fun _ => ⟨by rw [hv]; rfl, rfl⟩) (fun z => by omega)
    | cons x xs ih =>
      intro vs e hv
      have e2 : us = xs.reverse ++ (x :: vs) := by rw [e, List.reverse_cons, List.append_assoc]; rfl
      have hl : us.length = xs.length + (vs.length + 1) := by rw [e2, List.length_append, List.length_reverse, List.length_cons]
      have e85 : M 85 (bs.length + vs.length) = encW x := by
        have := hm.2.2.2.2.2
        rw [e2, List.append_assoc, List.cons_append] at this
        have := stk_in _ this
        rwa [List.length_append, Nat.add_comm] at this
      have hx := p6 x (by rw [e2]; simp)
      have ed := (enc_div (o := x.1) (v := x.2) hx.1 hx.2.1).1
      rw [List.length_append] at p3
      refine bX10_hasOpenSum_2 M _ ?_
      rw [hm.2.2.2.1]
      refine bq_le (us ++ bs).length (bs.length + vs.length) rfl rfl (by rw [List.length_append]; omega) (by omega) (fun z => by rw [List.length_append] at z; omega) (fun _ => ⟨vp_in_nI (by omega) (by decide), ?_⟩)
      rw [ix_nI (by omega), e85, show encW x / 1048576 = nI x.1 from ed, nI_1]
      have hx1 := hx.1
      refine bq_ne x.1 14 rfl rfl (by omega) (by omega) (fun z => ?_) (fun z => ⟨?_, rfl⟩)
      · have := ih (x :: vs) e2 (by
          show (x.1 == 14 || hasO vs) = false
          rw [hv]; simp [z])
        rw [List.length_cons, ← Nat.add_assoc] at this
        exact this
      · have : hasO us = true := by
          rw [e2, hasO, List.any_append, List.any_cons]; simp [z]
        rw [this]; rfl
  exact key us.reverse [] (by simp) rfl
theorem m_number (hB : BMt T n M0) (h : MSt n M0 M a l ws op) (hg : dgN (hr T n a) = true) (hd : 2 ≤ d) {P : Int32 → Mem → Prop} (f : ∀ e, numS T n 5 a 0 = .inl e → ∀ M', MFl M0 e M' → P 0 M') (g : ∀ b x, numS T n 5 a 0 = .inr (b, x) → ∀ M', MSt n M0 M' b l ws op → M' 77 18 = nI x → P 1 M') : AMi d iX10_readsNumber [.ref 77] M P := by
  obtain ⟨d, rfl⟩ : ∃ d', d = d' + 1 := ⟨d - 1, by omega⟩
  have hn := hB.1
  refine eX10_readsNumber M (bX10_readsNumber_0 M ?_)
  rw [h.2.2.1]
  have key : ∀ j i x M, j + i = 5 → x < 10 ^ i → MSt n M0 M (a + i) l ws op → M 77 18 = nI x → (∀ e, numS T n j (a + i) x = .inl e → ∀ M', MFl M0 e M' → P 0 M') → (∀ b y, numS T n j (a + i) x = .inr (b, y) → ∀ M', MSt n M0 M' b l ws op → M' 77 18 = nI y → P 1 M') → AX10_readsNumber (d + 1) (fun r M' => ∃ x, r = some x ∧ P x M') 10 [lR 77, lI (nI a)] [] M := by
    intro j
    induction j with
    | zero =>
      intro i x M hj hx h hx18 f g
      have hi : i = 5 := by omega
      subst hi
      refine bX10_readsNumber_10 M _ ((m_isDigit hB h (by omega)).i ?_)
      cases q : dgN (hr T n (a + 5)) with
      | false => exact ⟨fun _ => ⟨_, rfl, g (a + 5) x (by rw [numS, q]; rfl) M h hx18⟩, fun z => absurd rfl z⟩
      | true =>
        refine ⟨fun z => absurd z (by decide), fun _ => ?_⟩
        have e : M 77 11 = nI a + 5 := by rw [h.2.2.1, show (5 : Int32) = nI 5 from rfl, nI_add]
        exact ⟨fun z => absurd e z, fun _ => m_wrong h 2 (fun M' h' => ⟨Or.inl rfl, 0, rfl, f _ (by rw [numS, q]; rfl) M' h'⟩)⟩
    | succ j ih =>
      intro i x M hj hx h hx18 f g
      have ha := h.2.1.1
      refine bX10_readsNumber_10 M _ ((m_isDigit hB h (by omega)).i ?_)
      cases q : dgN (hr T n (a + i)) with
      | false => exact ⟨fun _ => ⟨_, rfl, g (a + i) x (by rw [numS, q]; rfl) M h hx18⟩, fun z => absurd rfl z⟩
      | true =>
        have q2 : 48 ≤ hr T n (a + i) ∧ hr T n (a + i) ≤ 57 := of_decide_eq_true q
        have q1 := hr_lt (T := T) (n := n) (a := a + i) (by omega)
        refine ⟨fun z => absurd z (by decide), fun _ => ⟨fun _ => (m_here hB h).i ?_, fun z => ?_⟩⟩
        · have e : (10 : Int32) * nI x + nI (hr T n (a + i)) - 48 = nI (10 * x + hr T n (a + i) - 48) := by
            rw [show (10 : Int32) = nI 10 from rfl, show (48 : Int32) = nI 48 from rfl, pk_mul, nI_add, pk_sub (by omega)]
          have e11 : wr M 77 18 (nI (10 * x + hr T n (a + i) - 48)) 77 11 = M 77 11 := wr_el (by decide)
          rw [hx18, sg_hrM q1, e, h.2.2.1, nI_1]
          obtain ⟨h1, ⟨p1, p2, p3, p4, p5, p6⟩, hm⟩ := h
          refine ih (i + 1) (10 * x + hr T n (a + i) - 48) _ (by omega) (by rw [Nat.pow_succ]; omega) ⟨(h1.wo 18 _ (by decide)).wo 11 _ (by decide), ⟨by omega, by omega, by omega, p4, p5, p6⟩, (hm.nu _).pl (a + (i + 1))⟩ (by rw [wr_el (by decide), wr_same]) (fun e h => f e (by rw [numS, q]; exact h)) (fun b y h => g b y (by rw [numS, q]; exact h))
        · rw [h.2.2.1, show (5 : Int32) = nI 5 from rfl, nI_add, nI_eq (by omega) (by omega)] at z
          omega
  have h0 : MSt n M0 (wr M 77 18 0) (a + 0) l ws op := ⟨h.1.wo 18 _ (by decide), h.2.1, h.2.2.nu _⟩
  exact key 5 0 0 _ rfl (by decide) h0 (wr_same _ _ _ _) f g
end MW
