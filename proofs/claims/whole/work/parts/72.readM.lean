/-! the model reads: single methods -/
def encW (q : Nat × Nat) : Int32 := nI (1048576 * q.1 + q.2)
/-- how many of those that wait will set down a sign -/
def pend : List (Nat × Nat) → Nat
  | [] => 0
  | q :: r => (if (2 ≤ q.1 ∧ q.1 ≤ 6) ∨ q.1 = 10 then 1 else 0) + pend r
/-- how many of ( [ ! are begun -/
def opn : List (Nat × Nat) → Nat
  | [] => 0
  | q :: r => (if q.1 = 10 ∨ q.1 = 13 ∨ q.1 = 14 then 1 else 0) + opn r
def WOk (m : Nat) (ws : List (Nat × Nat)) : Prop := ∀ q ∈ ws, q.1 ≤ 14 ∧ q.2 < 1048576 ∧ (q.1 = 11 ∨ q.1 = 12 → q.2 < m)
def MPp (n a : Nat) (l : VD) (ws : List (Nat × Nat)) (op : Nat) : Prop := a ≤ n ∧ l 0 1 + pend ws ≤ a ∧ ws.length ≤ a ∧ (op ≤ 6 ∧ opn ws = op) ∧ LB l ∧ WOk (l 0 1) ws
def MRr (M : Mem) (a : Nat) (l : VD) (ws : List (Nat × Nat)) (op : Nat) : Prop := M 77 11 = nI a ∧ M 77 14 = nI op ∧ M 77 15 = nI (l 0 1) ∧ M 77 16 = nI ws.length ∧ (∀ k, k < l 0 1 → M 84 k = nI (1048576 * opN (l 1 k) + l 2 k)) ∧ stk M 85 (ws.map encW)
abbrev MFr (M0 M : Mem) : Prop := Fr 77 [84, 85] [11, 13, 14, 15, 16, 18] M0 M
def MSt (n : Nat) (M0 M : Mem) (a : Nat) (l : VD) (ws : List (Nat × Nat)) (op : Nat) : Prop := MFr M0 M ∧ MPp n a l ws op ∧ MRr M a l ws op
def MFl (M0 : Mem) (e : Nat) (M : Mem) : Prop := MFr M0 M ∧ M 77 13 = -(nI e)
def BMt (T : Nat → Nat) (n : Nat) (M : Mem) : Prop := n ≤ 160 ∧ M 77 12 = nI n ∧ ∀ j, j < n → T j < 256 ∧ M 83 j &&& 255 = nI (T j)
theorem WOk.up {m m' : Nat} {ws : List (Nat × Nat)} (h : WOk m ws) (hm : m ≤ m') : WOk m' ws := fun q hq => ⟨(h q hq).1, (h q hq).2.1, fun z => by have := (h q hq).2.2 z; omega⟩
theorem WOk.cons {m : Nat} {q : Nat × Nat} {ws : List (Nat × Nat)} (h : WOk m ws) (h1 : q.1 ≤ 14) (h2 : q.2 < 1048576) (h3 : q.1 = 11 ∨ q.1 = 12 → q.2 < m) : WOk m (q :: ws) := by
  intro p hp
  rcases List.mem_cons.mp hp with rfl | hp
  · exact ⟨h1, h2, h3⟩
  · exact h p hp
theorem WOk.tl {m : Nat} {q : Nat × Nat} {ws : List (Nat × Nat)} (h : WOk m (q :: ws)) : WOk m ws := fun p hp => h p (List.mem_cons_of_mem _ hp)
theorem stk_row {M M' : Mem} {row : Nat} (e : M' row = M row) : ∀ {st : List Int32}, stk M row st → stk M' row st
  | [], _ => trivial
  | x :: r, h => ⟨by rw [e]; exact h.1, stk_row e h.2⟩
section MU
variable {M : Mem} {a op : Nat} {l : VD} {ws : List (Nat × Nat)}
theorem MRr.pl (h : MRr M a l ws op) (b : Nat) : MRr (wr M 77 11 (nI b)) b l ws op := by
  obtain ⟨h1, h2, h3, h4, h5, h6⟩ := h
  refine ⟨wr_same _ _ _ _, by rw [wr_el (by decide)]; exact h2, by rw [wr_el (by decide)]; exact h3, by rw [wr_el (by decide)]; exact h4, fun k hk => by rw [wr_row (by decide)]; exact h5 k hk, stk_row (wr_row (by decide)) h6⟩
theorem MRr.oc (h : MRr M a l ws op) (o : Nat) : MRr (wr M 77 14 (nI o)) a l ws o := by
  obtain ⟨h1, h2, h3, h4, h5, h6⟩ := h
  refine ⟨by rw [wr_el (by decide)]; exact h1, wr_same _ _ _ _, by rw [wr_el (by decide)]; exact h3, by rw [wr_el (by decide)]; exact h4, fun k hk => by rw [wr_row (by decide)]; exact h5 k hk, stk_row (wr_row (by decide)) h6⟩
theorem MRr.nu (h : MRr M a l ws op) (x : Int32) : MRr (wr M 77 18 x) a l ws op := by
  obtain ⟨h1, h2, h3, h4, h5, h6⟩ := h
  refine ⟨by rw [wr_el (by decide)]; exact h1, by rw [wr_el (by decide)]; exact h2, by rw [wr_el (by decide)]; exact h3, by rw [wr_el (by decide)]; exact h4, fun k hk => by rw [wr_row (by decide)]; exact h5 k hk, stk_row (wr_row (by decide)) h6⟩
theorem MRr.push (h : MRr M a l ws op) (q : Nat × Nat) : MRr (wr (wr M 85 ws.length (encW q)) 77 16 (nI (ws.length + 1))) a l (q :: ws) op := by
  obtain ⟨h1, h2, h3, h4, h5, h6⟩ := h
  have e : ∀ j, j ≠ 16 → wr (wr M 85 ws.length (encW q)) 77 16 (nI (ws.length + 1)) 77 j = M 77 j := fun j hj => by rw [wr_el hj, wr_row (by decide)]
  refine ⟨by rw [e _ (by decide)]; exact h1, by rw [e _ (by decide)]; exact h2, by rw [e _ (by decide)]; exact h3, wr_same _ _ _ _, fun k hk => by rw [wr_row (by decide), wr_row (by decide)]; exact h5 k hk, ?_⟩
  refine stk_row (wr_row (by decide)) ?_
  have := stk_push h6 (encW q)
  rw [List.length_map] at this
  exact this
theorem MRr.pop {q : Nat × Nat} (h : MRr M a l (q :: ws) op) : MRr (wr M 77 16 (nI ws.length)) a l ws op := by
  obtain ⟨h1, h2, h3, h4, h5, h6⟩ := h
  exact ⟨by rw [wr_el (by decide)]; exact h1, by rw [wr_el (by decide)]; exact h2, by rw [wr_el (by decide)]; exact h3, wr_same _ _ _ _, fun k hk => by rw [wr_row (by decide)]; exact h5 k hk, stk_row (wr_row (by decide)) h6.2⟩
theorem MRr.code (h : MRr M a l ws op) (g v : Nat) : MRr (wr (wr M 84 (l 0 1) (nI (1048576 * opN g + v))) 77 15 (nI (l 0 1 + 1))) a (emit l g v) ws op := by
  obtain ⟨h1, h2, h3, h4, h5, h6⟩ := h
  have e : ∀ j, j ≠ 15 → wr (wr M 84 (l 0 1) (nI (1048576 * opN g + v))) 77 15 (nI (l 0 1 + 1)) 77 j = M 77 j := fun j hj => by rw [wr_el hj, wr_row (by decide)]
  refine ⟨by rw [e _ (by decide)]; exact h1, by rw [e _ (by decide)]; exact h2, by rw [wr_same, em_n], by rw [e _ (by decide)]; exact h4, fun k hk => ?_, stk_row (by rw [wr_row (by decide), wr_row (by decide)]) h6⟩
  rw [em_n] at hk
  rw [wr_row (by decide)]
  by_cases z : k = l 0 1
  · subst z; rw [wr_same, em_g, em_v]
  · rw [wr_el z, em_o1 z, em_o2 z]; exact h5 k (by omega)
theorem MRr.pat (h : MRr M a l ws op) {p : Nat} (hp : p < l 0 1) : MRr (wr M 84 p (nI (1048576 * opN (l 1 p) + l 0 1))) a (patch l p) ws op := by
  obtain ⟨h1, h2, h3, h4, h5, h6⟩ := h
  refine ⟨by rw [wr_row (by decide)]; exact h1, by rw [wr_row (by decide)]; exact h2, by rw [wr_row (by decide), pt_n]; exact h3, by rw [wr_row (by decide)]; exact h4, fun k hk => ?_, stk_row (wr_row (by decide)) h6⟩
  rw [pt_n] at hk
  rw [pt_g]
  by_cases z : k = p
  · subst z; rw [wr_same, pt_v]
  · rw [wr_el z, pt_o z]; exact h5 k hk
end MU
section ML
variable {T : Nat → Nat} {n d : Nat} {M0 M : Mem} {a op : Nat} {l : VD} {ws : List (Nat × Nat)}
theorem MSt.fin (hB : BMt T n M0) (h : MSt n M0 M a l ws op) : M 77 12 = nI n := (h.1.2 12 (by decide)).trans hB.2.1
theorem MSt.tape (hB : BMt T n M0) (h : MSt n M0 M a l ws op) {j : Nat} (hj : j < n) : M 83 j &&& 255 = nI (T j) := by
  rw [h.1.1 83 (by decide) (by decide)]; exact (hB.2.2 j hj).2
theorem hr_leM (hB : BMt T n M0) (a : Nat) : hr T n a ≤ 300 := by
  rw [hr]; split
  · rename_i h; have := (hB.2.2 a h).1; omega
  · omega
theorem sg_eqM (hB : BMt T n M0) {a c : Nat} (hc : c < 256) : sgV T n a = nI c ↔ hr T n a = c := by
  rw [sgV, hr]; split
  · rename_i h
    exact nI_eq (by have := (hB.2.2 a h).1; omega) (by omega)
  · constructor
    · intro z; exact absurd z.symm (nI_nm1 (by omega))
    · intro z; omega
theorem sg_hrM {a : Nat} (h : a < n) : sgV T n a = nI (hr T n a) := by rw [sgV, hr, if_pos h, if_pos h]
theorem m_here (hB : BMt T n M0) (h : MSt n M0 M a l ws op) : AMp d iX10_here [.ref 77] M (sgV T n a) := by
  have hn := hB.1
  have ha := h.2.1.1
  refine eX10_here M (bX10_here_0 M ?_)
  rw [h.fin hB, h.2.2.1]
  refine bq_le _ _ rfl rfl (by omega) (by omega) (fun z => ⟨by rw [sgV, if_neg (by omega)], rfl⟩) (fun z => ⟨vp_in_nI (by omega) (by decide), ?_, rfl⟩)
  rw [ix_nI (by omega), h.tape hB z, sgV, if_pos z]
theorem dg_sg (hB : BMt T n M0) (a : Nat) : dgN (hr T n a) = true ↔ (¬ sgV T n a < 48 ∧ ¬ 57 < sgV T n a) := by
  rw [sgV, hr]; split
  · rename_i h
    have := (hB.2.2 a h).1
    rw [show (48 : Int32) = nI 48 from rfl, show (57 : Int32) = nI 57 from rfl, nI_ltI (by omega) (by omega), nI_ltI (by omega) (by omega), dgN, decide_eq_true_eq]
    omega
  · exact ⟨fun z => absurd z (by decide), fun z => absurd (show (-1 : Int32) < 48 by decide) z.1⟩
theorem m_isDigit (hB : BMt T n M0) (h : MSt n M0 M a l ws op) (hd : 1 ≤ d) : AMp d iX10_isDigit [.ref 77] M (if dgN (hr T n a) then 1 else 0) := by
  obtain ⟨d, rfl⟩ : ∃ d', d = d' + 1 := ⟨d - 1, by omega⟩
  refine eX10_isDigit M (bX10_isDigit_0 M ((m_here hB h).i ⟨fun z => ⟨?_, rfl⟩, fun z => (m_here hB h).i ⟨fun z2 => ⟨?_, rfl⟩, fun z2 => ⟨?_, rfl⟩⟩⟩))
  · rw [if_neg (fun q => ((dg_sg hB a).mp q).1 z)]
  · rw [if_neg (fun q => ((dg_sg hB a).mp q).2 z2)]
  · rw [if_pos ((dg_sg hB a).mpr ⟨z, z2⟩)]
theorem m_wrong (h : MSt n M0 M a l ws op) (w : Nat) {P : Int32 → Mem → Prop} (k : ∀ M', MFl M0 (1000 * w + a) M' → P 0 M') : AMi d iX10_wrongAt [.ref 77, .int (nI w), .int (M 77 11)] M P := by
  refine eX10_wrongAt M _ _ (bX10_wrongAt_0 M _ _ ⟨_, rfl, k _ ⟨h.1.wo 13 _ (by decide), ?_⟩⟩)
  rw [wr_same, h.2.2.1]; exact fv_eq w a
def wtV (ws : List (Nat × Nat)) : Int32 := match ws with
  | [] => -1
  | q :: _ => nI q.1
theorem enc_div {o v : Nat} (ho : o ≤ 14) (hv : v < 1048576) : nI (1048576 * o + v) / 1048576 = nI o ∧ nI (1048576 * o + v) - nI (1048576 * o + v) / 1048576 * 1048576 = nI v := by
  have h1 := pk_div (a := 1048576 * o + v) (d := 1048576) (by omega) (by omega) (by omega)
  have h2 := pk_rem (a := 1048576 * o + v) (d := 1048576) (by omega) (by omega) (by omega)
  rw [show (1048576 * o + v) / 1048576 = o by omega] at h1
  rw [show (1048576 * o + v) % 1048576 = v by omega] at h2
  exact ⟨h1, h2⟩
theorem m_waitTop (hn : n ≤ 160) (h : MSt n M0 M a l ws op) : AMp d iX10_waitTop [.ref 77] M (wtV ws) := by
  obtain ⟨h1, ⟨p1, p2, p3, p4, p5, p6⟩, m1, m2, m3, m4, m5, m6⟩ := h
  refine eX10_waitTop M (bX10_waitTop_0 M ?_)
  rw [m4]
  match ws, p3, p6, m6 with
  | [], p3, p6, m6 => exact ⟨fun z => absurd rfl z, fun _ => ⟨rfl, rfl⟩⟩
  | q :: r, p3, p6, m6 =>
    have e : nI (q :: r).length - 1 = nI r.length := by rw [List.length_cons]; exact nI_pred _
    rw [List.length_cons] at p3
    refine ⟨fun _ => ⟨?_, ?_, rfl⟩, fun z => absurd z (nI_ne0 (by rw [List.length_cons]; omega) (by rw [List.length_cons]; omega))⟩
    · rw [e]; exact vp_in_nI (by omega) (by decide)
    · have m6 := m6.1
      rw [List.length_map] at m6
      rw [e, ix_nI (by omega), m6]
      exact congrArg some (enc_div (p6 q List.mem_cons_self).1 (p6 q List.mem_cons_self).2.1).1.symm
theorem m_notesR {z o v : Nat} (h : M 77 15 = nI z) (hz : z < 180) {P : Mem → Prop} (k : P (wr (wr M 84 z (nI (1048576 * o + v))) 77 15 (nI (z + 1)))) : AMv d iX10_notes [.ref 77, .int (nI o), .int (nI v)] M P := by
  refine eX10_notes M _ _ (bX10_notes_0 M _ _ ?_)
  rw [h, ix_nI (by omega), show (1048576 : Int32) = nI 1048576 from rfl, pk_mul, nI_add, nI_1]
  exact ⟨vp_in_nI hz (by decide), rfl, k⟩
/-- a sign set down -/
theorem m_notes (hn : n ≤ 160) (h : MSt n M0 M a l ws op) (g v : Nat) {o : Nat} (ho : opN g = o) (hv : v < 1048576) (hc : l 0 1 + 1 + pend ws ≤ a) {P : Mem → Prop} (k : ∀ M', MSt n M0 M' a (emit l g v) ws op → P M') : AMv d iX10_notes [.ref 77, .int (nI o), .int (nI v)] M P := by
  obtain ⟨h1, ⟨p1, p2, p3, p4, p5, p6⟩, hm⟩ := h
  subst ho
  exact m_notesR hm.2.2.1 (by omega) (k _ ⟨(h1.w 84 _ _ (by decide) (by decide)).wo 15 _ (by decide), ⟨p1, by rw [em_n]; omega, p3, p4, p5.em hv, p6.up (by rw [em_n]; omega)⟩, hm.code g v⟩)
theorem m_opens (hB : BMt T n M0) (h : MSt n M0 M a l ws op) (ha : a < n) (w : Nat) (hw : w ≤ 14) (hw2 : w = 10 ∨ w = 13 ∨ w = 14) (hd : 1 ≤ d) {P : Int32 → Mem → Prop} (f : op = 6 → ∀ M', MFl M0 (5000 + a) M' → P 0 M') (g : op < 6 → ∀ M', MSt n M0 M' (a + 1) l ((w, 0) :: ws) (op + 1) → P 1 M') : AMi d iX10_opens [.ref 77, .int (nI w)] M P := by
  obtain ⟨d, rfl⟩ : ∃ d', d = d' + 1 := ⟨d - 1, by omega⟩
  have hn := hB.1
  have hh := h
  obtain ⟨h1, ⟨p1, p2, p3, p4, p5, p6⟩, hm⟩ := h
  refine eX10_opens M _ (bX10_opens_0 M _ ?_)
  have ho := hm.2.1
  rw [ho]
  have p4' := p4.1
  refine bq_ne _ 6 rfl rfl (by omega) (by omega) (fun z => ?_) (fun z => ?_)
  · rw [hm.2.2.2.1]
    refine ⟨vp_in_nI (by omega) (by decide), 1, rfl, ?_⟩
    have e1 : (1048576 : Int32) * nI w = encW (w, 0) := by rw [show (1048576 : Int32) = nI 1048576 from rfl, pk_mul]; rfl
    rw [ix_nI (by omega), nI_1, nI_1, e1, hm.1, nI_1]
    refine g (by omega) _ ⟨(((h1.wo 14 _ (by decide)).w 85 _ _ (by decide) (by decide)).wo 16 _ (by decide)).wo 11 _ (by decide), ⟨ha, ?_, ?_, ⟨by omega, ?_⟩, p5, p6.cons hw (by show (0 : Nat) < _; omega) (fun q => by have : w = 11 ∨ w = 12 := q; omega)⟩, ((MRr.oc hm (op + 1)).push (w, 0)).pl (a + 1)⟩
    · rw [pend]; split <;> omega
    · rw [List.length_cons]; omega
    · rw [opn, if_pos hw2]; omega
  · refine (m_wrong hh 5 (fun M' h' => ⟨Or.inl rfl, 0, rfl, f z M' h'⟩))
end ML
