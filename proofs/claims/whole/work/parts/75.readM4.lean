/-! the model reads a condition: its one loop against choices, parts and pieces -/
def wsC (ws : List (Nat × Nat)) : Prop := ∀ q ∈ ws, 10 ≤ q.1 ∧ q.1 ≤ 13
theorem wsC.cons {q : Nat × Nat} {us : List (Nat × Nat)} (h : wsC us) (hq : 10 ≤ q.1 ∧ q.1 ≤ 13) : wsC (q :: us) := by
  intro p hp
  rcases List.mem_cons.mp hp with rfl | hp
  · exact hq
  · exact h p hp
theorem wsC.nsm {ws : List (Nat × Nat)} (h : wsC ws) : nsm ws := fun q r e => by subst e; have := h q List.mem_cons_self; omega
/-- not of this kind on top -/
def nhd (o : Nat) (ws : List (Nat × Nat)) : Prop := ∀ q r, ws = q :: r → ¬ q.1 = o
theorem laS_f {ws : List (Nat × Nat)} (h : nhd 11 ws) (l : VD) : laS false l ws = (l, ws) := by
  match ws, h with
  | [], _ => rfl
  | q :: r, h => rw [laS, if_neg (by intro z; rcases z with z | z; exact h q r rfl z; cases z.1)]
theorem laS_t {ws : List (Nat × Nat)} (h : nhd 11 ws) (h2 : nhd 12 ws) (l : VD) : laS true l ws = (l, ws) := by
  match ws, h, h2 with
  | [], _, _ => rfl
  | q :: r, h, h2 => rw [laS, if_neg (by intro z; rcases z with z | z; exact h q r rfl z; exact h2 q r rfl z.2)]
theorem enS_n {ws : List (Nat × Nat)} (h : nhd 10 ws) (l : VD) (o : Nat) : enS l ws o = (l, ws, o) := by
  match ws, h with
  | [], _ => rfl
  | q :: r, h => rw [enS, if_neg (h q r rfl)]
theorem m_compared {T : Nat → Nat} {n d : Nat} {M0 M : Mem} {a k op : Nat} {l : VD} {ws : List (Nat × Nat)} (hB : BMt T n M0) (h : MSt n M0 M a l ws op) (hk : k ≤ 6) (ho : op = 6 - k) (hw : nsm ws) (hd : 5 ≤ d) {P : Int32 → Mem → Prop} (f : ∀ e, cmpS T n k a l = .inl e → ∀ M', MFl M0 e M' → P 0 M') (g : ∀ b l', cmpS T n k a l = .inr (b, l') → ∀ M', MSt n M0 M' b (enS l' ws op).1 (enS l' ws op).2.1 (enS l' ws op).2.2 → P 1 M') : AMi d iX10_readsCompared [.ref 77] M P := by
  obtain ⟨d, rfl⟩ : ∃ d', d = d' + 1 := ⟨d - 1, by omega⟩
  have hn := hB.1
  have hp := h.2.1
  refine eX10_readsCompared M (bX10_readsCompared_0 M (m_readsSum hB h hk ho hw (by omega) (fun e he M1 h1 => ⟨fun z => absurd rfl z, fun _ => ⟨0, rfl, f e (pb_l he) M1 h1⟩⟩) (fun b l1 he M1 h1 => ⟨fun _ => ?_, fun z => absurd z (by decide)⟩)))
  have E : cmpS T n k a l = (if hr T n b = 60 ∨ hr T n b = 62 ∨ hr T n b = 61 then pb (sumS T n k (b + 1) l1) (fun c l2 => .inr (c, emit l2 (hr T n b) 0)) else .inl (1000 + b)) := pb_r he
  rw [E] at f g
  obtain ⟨p1, p2, p3, p4, p5, p6⟩ := hp
  obtain ⟨g1, g2, g3, g4, g5, -, -⟩ := sumS_G k a l b l1 p1 (by omega) p5 he
  have go : ∀ o : Nat, (hr T n b = 60 ∨ hr T n b = 62 ∨ hr T n b = 61) → opN (hr T n b) = o → AX10_readsCompared (d + 1) (fun r M' => ∃ x, r = some x ∧ P x M') 52 [lR 77, none] [.int (nI o)] M1 := by
    intro o hc hoo
    have hbn := hr_lt (T := T) (n := n) (a := b) (by omega)
    rw [if_pos hc] at f g
    have ho9 : o ≤ 12 := by rw [← hoo]; exact opN_lt _
    refine bX10_readsCompared_52 M1 _ ⟨fun _ => ?_, fun z => absurd z (nI_nm1 (by omega))⟩
    obtain ⟨h1a, ⟨q1, q2, q3, q4, q5, q6⟩, hm⟩ := h1
    rw [hm.1, nI_1]
    have h2 : MSt n M0 (wr M1 77 11 (nI (b + 1))) (b + 1) l1 ws op := ⟨h1a.wo 11 _ (by decide), ⟨hbn, by omega, by omega, q4, q5, q6⟩, hm.pl (b + 1)⟩
    refine m_readsSum hB h2 hk ho hw (by omega) (fun e he M1 h1 => ⟨fun z => absurd rfl z, fun _ => ⟨0, rfl, f e (pb_l he) M1 h1⟩⟩) (fun c l2 he2 M3 h3 => ⟨fun _ => ?_, fun z => absurd z (by decide)⟩)
    obtain ⟨v1, v2, v3, v4, v5, -, -⟩ := sumS_G k (b + 1) l1 c l2 hbn (by omega) q5 he2
    refine m_notes hn h3 (hr T n b) 0 hoo (by omega) (by omega) (fun M4 h4 => m_ends hn h4 (by omega) (fun M5 h5 => ⟨1, rfl, g c _ (pb_r he2) M5 h5⟩))
  refine (m_here hB h1).i ⟨fun z1 => (m_here hB h1).i ⟨fun z2 => (m_here hB h1).i ⟨fun z3 => ?_, fun z3 => ?_⟩, fun z2 => ?_⟩, fun z1 => ?_⟩
  · rw [if_neg (fun w => by
      rcases w with w | w | w
      · exact z1 ((sg_eqM hB (c := 60) (by omega)).mpr w)
      · exact z2 ((sg_eqM hB (c := 62) (by omega)).mpr w)
      · exact z3 ((sg_eqM hB (c := 61) (by omega)).mpr w))] at f
    exact bX10_readsCompared_52 M1 _ ⟨fun z => absurd rfl z, fun _ => m_wrong h1 1 (fun M' h' => ⟨Or.inl rfl, 0, rfl, f _ rfl M' h'⟩)⟩
  · have w := (sg_eqM hB (c := 61) (by omega)).mp z3
    exact go 9 (Or.inr (Or.inr w)) (by rw [w]; rfl)
  · have w := (sg_eqM hB (c := 62) (by omega)).mp z2
    exact go 8 (Or.inr (Or.inl w)) (by rw [w]; rfl)
  · have w := (sg_eqM hB (c := 60) (by omega)).mp z1
    exact go 7 (Or.inl w) (by rw [w]; rfl)
section SIC
variable (T : Nat → Nat) (n : Nat) (M0 : Mem) (d : Nat) (Q : Option Int32 → Mem → Prop)
def PAg (a : Nat) (l : VD) (ws : List (Nat × Nat)) (op : Nat) : Prop := ∀ M, MSt n M0 M a l ws op → AX10_readsCondition (d + 1) Q 40 [lR 77] [] M
def PBg (a : Nat) (l : VD) (ws : List (Nat × Nat)) (op : Nat) : Prop := ∀ M, MSt n M0 M a l ws op → AX10_readsCondition (d + 1) Q 92 [lR 77] [] M
def PBe (a : Nat) (l : VD) (ws : List (Nat × Nat)) (op : Nat) : Prop := PBg n M0 d Q a (enS l ws op).1 (enS l ws op).2.1 (enS l ws op).2.2
def PBu (a : Nat) (l : VD) (ws : List (Nat × Nat)) (op : Nat) : Prop :=
  if hr T n a = 41 then ∃ q r, (laS true l ws).2 = q :: r ∧ q.1 = 13 ∧ (r = [] → OKg n M0 Q [] (a + 1) (laS true l ws).1 [] (op - 1)) ∧ (¬ r = [] → PBe n M0 d Q (a + 1) (laS true l ws).1 r (op - 1))
  else if hr T n a = 38 then PAg n M0 d Q (a + 1) (emit (laS false l ws).1 38 0) ((11, (laS false l ws).1 0 1) :: (laS false l ws).2) op
  else if hr T n a = 124 then PAg n M0 d Q (a + 1) (emit (laS true l ws).1 124 0) ((12, (laS true l ws).1 0 1) :: (laS true l ws).2) op
  else FAg M0 Q (1000 + a)
def PEu (a : Nat) (l : VD) (ws : List (Nat × Nat)) (op : Nat) : Prop := PBu T n M0 d Q a (enS l ws op).1 (enS l ws op).2.1 (enS l ws op).2.2
variable {T} {n} {M0} {d} {Q}
theorem W_PB (hB : BMt T n M0) (hd : 1 ≤ d) {a : Nat} {l : VD} {ws : List (Nat × Nat)} {op : Nat} (k : PBu T n M0 d Q a l ws op) : PBg n M0 d Q a l ws op := by
  intro M h
  have hn := hB.1
  rw [PBu] at k
  refine bX10_readsCondition_92 M ((m_here hB h).i ⟨fun z => (m_here hB h).i ⟨fun z1 => ?_, fun z1 => (m_here hB h).i ⟨fun z2 => ?_, fun z2 => ?_⟩⟩, fun z => ?_⟩)
  · have q : ¬ hr T n a = 41 := fun w => z ((sg_eqM hB (c := 41) (by omega)).mpr w)
    have q1 := (sg_eqM hB (c := 38) (by omega)).mp z1
    have han := hr_lt (T := T) (n := n) (a := a) (by omega)
    rw [if_neg q, if_pos q1] at k
    refine bX10_readsCondition_180 M ((m_here hB h).i ⟨fun _ => ?_, fun w => ?_⟩)
    · refine bX10_readsCondition_195 M _ (m_lands hn h false hd (fun M1 h1 => (m_here hB h1).i ⟨fun w => absurd z1 w, fun _ => m_jumps hn h1 han 38 (Or.inl rfl) hd (fun M2 h2 => k M2 h2)⟩))
    · have := (sg_eqM hB (c := 124) (by omega)).mp w; omega
  · have q : ¬ hr T n a = 41 := fun w => z ((sg_eqM hB (c := 41) (by omega)).mpr w)
    have q2 := (sg_eqM hB (c := 124) (by omega)).mp z2
    have han := hr_lt (T := T) (n := n) (a := a) (by omega)
    rw [if_neg q, if_neg (by omega), if_pos q2] at k
    refine bX10_readsCondition_180 M ((m_here hB h).i ⟨fun w => absurd z2 w, fun w => ?_⟩)
    exact bX10_readsCondition_195 M _ (m_lands hn h true hd (fun M1 h1 => (m_here hB h1).i ⟨fun _ => m_jumps hn h1 han 124 (Or.inr rfl) hd (fun M2 h2 => k M2 h2), fun w => absurd w z1⟩))
  · have q : ¬ hr T n a = 41 := fun w => z ((sg_eqM hB (c := 41) (by omega)).mpr w)
    have q1 : ¬ hr T n a = 38 := fun w => z1 ((sg_eqM hB (c := 38) (by omega)).mpr w)
    have q2 : ¬ hr T n a = 124 := fun w => z2 ((sg_eqM hB (c := 124) (by omega)).mpr w)
    rw [if_neg q, if_neg q1, if_neg q2] at k
    exact m_wrong h 1 (fun M' h' => ⟨Or.inl rfl, k M' h'⟩)
  · have q := (sg_eqM hB (c := 41) (by omega)).mp z
    have han := hr_lt (T := T) (n := n) (a := a) (by omega)
    rw [if_pos q] at k
    obtain ⟨p, r, e1, e2, k1, k2⟩ := k
    refine m_lands hn h true hd (fun M5 h5 => ?_)
    rw [e1] at h5
    have e16 : M5 77 16 - 1 = nI r.length := by rw [h5.2.2.2.2.2.1, List.length_cons]; exact nI_pred _
    have hlen := h5.2.1.2.2.1
    have ha := h5.2.1.1
    rw [List.length_cons] at hlen
    have hpop := h5.open_pop han (Or.inl e2)
    refine ⟨fun w => ?_, fun w => ?_⟩
    · have hr : ¬ r = [] := fun e => w (by rw [e16, e]; rfl)
      exact m_ends hn hpop hd (fun M6 h6 => k2 hr M6 h6)
    · rw [e16] at w
      have hr : r = [] := by
        rcases r with _ | ⟨p, r⟩
        · rfl
        · exact absurd w (nI_ne0 (by rw [List.length_cons]; omega) (by omega))
      subst hr
      exact k1 rfl _ hpop
theorem W_PA (hB : BMt T n M0) (hd : 5 ≤ d) {a k : Nat} {l : VD} {ws : List (Nat × Nat)} {op : Nat} (hk : k ≤ 6) (ho : op = 6 - k) (hw : wsC ws) (f33 : hr T n a = 33 → (op = 6 → FAg M0 Q (5000 + a)) ∧ (op < 6 → PAg n M0 d Q (a + 1) l ((10, 0) :: ws) (op + 1))) (f40 : hr T n a = 40 → (op = 6 → FAg M0 Q (5000 + a)) ∧ (op < 6 → PAg n M0 d Q (a + 1) l ((13, 0) :: ws) (op + 1))) (fc : ¬ hr T n a = 33 → ¬ hr T n a = 40 → (∀ e, cmpS T n k a l = .inl e → FAg M0 Q e) ∧ (∀ b l', cmpS T n k a l = .inr (b, l') → PBe n M0 d Q b l' ws op)) : PAg n M0 d Q a l ws op := by
  intro M h
  have hn := hB.1
  have go : ∀ w : Nat, (w = 10 ∨ w = 13) → a < n → (op = 6 → FAg M0 Q (5000 + a)) → (op < 6 → PAg n M0 d Q (a + 1) l ((w, 0) :: ws) (op + 1)) → AX10_readsCondition (d + 1) Q 75 [lR 77] [.int (nI w), .ref 77] M := by
    intro w hw han f g
    exact bX10_readsCondition_75 M _ (m_opens hB h han w (by omega) (by omega) (by omega) (fun e M' h' => ⟨fun z => absurd rfl z, fun _ => f e M' h'⟩) (fun e M' h' => ⟨fun _ => g e M' h', fun z => absurd z (by decide)⟩))
  refine bX10_readsCondition_40 M ((m_here hB h).i ⟨fun z => ?_, fun z => (m_here hB h).i ⟨fun z1 => ?_, fun z1 => ?_⟩⟩)
  · have q := (sg_eqM hB (c := 33) (by omega)).mp z
    have han := hr_lt (T := T) (n := n) (a := a) (by omega)
    obtain ⟨f1, f2⟩ := f33 q
    exact bX10_readsCondition_58 M ((m_here hB h).i ⟨fun w => absurd z w, fun _ => go 10 (Or.inl rfl) han f1 f2⟩)
  · have q : ¬ hr T n a = 33 := fun w => z ((sg_eqM hB (c := 33) (by omega)).mpr w)
    have q1 : ¬ hr T n a = 40 := fun w => z1 ((sg_eqM hB (c := 40) (by omega)).mpr w)
    obtain ⟨f1, f2⟩ := fc q q1
    exact m_compared hB h hk ho hw.nsm hd (fun e he M' h' => ⟨fun z => absurd rfl z, fun _ => f1 e he M' h'⟩) (fun b l' he M' h' => ⟨fun _ => f2 b l' he M' h', fun z => absurd z (by decide)⟩)
  · have q := (sg_eqM hB (c := 40) (by omega)).mp z1
    have han := hr_lt (T := T) (n := n) (a := a) (by omega)
    obtain ⟨f1, f2⟩ := f40 q
    exact bX10_readsCondition_58 M ((m_here hB h).i ⟨fun _ => go 13 (Or.inr rfl) han f1 f2, fun w => absurd w z⟩)
theorem PBu_11 {b p : Nat} {l : VD} {ws : List (Nat × Nat)} {op : Nat} : PBu T n M0 d Q b l ((11, p) :: ws) op ↔ PBu T n M0 d Q b (patch l p) ws op := by
  have e : ∀ all, laS all l ((11, p) :: ws) = laS all (patch l p) ws := fun all => by rw [laS, if_pos (Or.inl rfl)]
  rw [PBu, PBu, e, e]
theorem PBu_12 {b p : Nat} {l : VD} {ws : List (Nat × Nat)} {op : Nat} (h : ¬ hr T n b = 38) : PBu T n M0 d Q b l ((12, p) :: ws) op ↔ PBu T n M0 d Q b (patch l p) ws op := by
  have e : laS true l ((12, p) :: ws) = laS true (patch l p) ws := by rw [laS, if_pos (Or.inr ⟨rfl, rfl⟩)]
  rw [PBu, PBu, if_neg h, if_neg h, e]
theorem MPp.go2 {P : Nat → VD → PR} {h0 : Nat} {tb : Bool} {a b g : Nat} {l l' : VD} {ws : List (Nat × Nat)} {op : Nat} (hn : n ≤ 160) (hm : MPp n a l ws op) (ha : a < n) (hG : GP n P h0 tb) (e : P (a + 1) (emit l g 0) = .inr (b, l')) : a + 1 < b ∧ MPp n b (patch l' (l 0 1)) ws op := by
  obtain ⟨p1, p2, p3, p4, p5, p6⟩ := hm
  obtain ⟨g1, g2, g3, g4, g5, -, -⟩ := hG (a + 1) (emit l g 0) b l' (by omega) (by rw [em_n]; omega) (p5.em (by omega)) e
  rw [em_n] at g3 g4
  exact ⟨g1, g2, by rw [pt_n]; omega, by omega, p4, g5.pt (by omega), p6.up (by rw [pt_n]; omega)⟩
def PieSim (T : Nat → Nat) (n : Nat) (M0 : Mem) (d : Nat) (Q : Option Int32 → Mem → Prop) (op : Nat) (pc : Nat → VD → PR) : Prop := ∀ a l ws, wsC ws → ¬ ws = [] → (∀ e, pc a l = .inl e → FAg M0 Q e) → (∀ b l', pc a l = .inr (b, l') → PEu T n M0 d Q b l' ws op) → PAg n M0 d Q a l ws op
theorem and_sim (hB : BMt T n M0) {op h0 : Nat} {pc : Nat → VD → PR} (hG : GP n pc h0 true) (hf : PieSim T n M0 d Q op pc) {ws : List (Nat × Nat)} (hw : wsC ws) (h10 : nhd 10 ws) (h11 : nhd 11 ws) : ∀ k a l, n - a < k → MPp n a l ws op → (∀ e, lpsS T n 38 pc k a l = .inl e → FAg M0 Q e) → (∀ b l', lpsS T n 38 pc k a l = .inr (b, l') → ¬ hr T n b = 38 → PBu T n M0 d Q b l' ws op) → PBu T n M0 d Q a l ws op := by
  intro k
  induction k with
  | zero => intro a l h; omega
  | succ k ih =>
    intro a l hk hp f g
    by_cases q : hr T n a = 38
    · have han := hr_lt (T := T) (n := n) (a := a) (by omega)
      have E : lpsS T n 38 pc (k + 1) a l = pb (pc (a + 1) (emit l 38 0)) (fun b l' => lpsS T n 38 pc k b (patch l' (l 0 1))) := by rw [lpsS, if_pos q]
      rw [E] at f g
      rw [PBu, if_neg (by omega), if_pos q, laS_f h11]
      refine hf (a + 1) _ _ (hw.cons (by show (10 : Nat) ≤ 11 ∧ 11 ≤ 13; omega)) (by intro z; cases z) (fun e he => f e (pb_l he)) (fun b l' he => ?_)
      rw [PEu, enS_n (fun p r z => by cases z; show ¬ (11 : Nat) = 10; omega)]
      refine PBu_11.mpr ?_
      obtain ⟨g1, g2⟩ := hp.go2 hB.1 han hG he
      exact ih b _ (by omega) g2 (fun e h => f e (by rw [pb_r he]; exact h)) (fun c l2 h => g c l2 (by rw [pb_r he]; exact h))
    · exact g a l (by rw [lpsS, if_neg q]) q
theorem part_sim (hB : BMt T n M0) {op h0 : Nat} {pc : Nat → VD → PR} (hG : GP n pc h0 true) (hf : PieSim T n M0 d Q op pc) {ws : List (Nat × Nat)} (hw : wsC ws) (hne : ¬ ws = []) (h10 : nhd 10 ws) (h11 : nhd 11 ws) {a : Nat} {l : VD} (f : ∀ e, partOf T n pc a l = .inl e → FAg M0 Q e) (g : ∀ b l', partOf T n pc a l = .inr (b, l') → ¬ hr T n b = 38 → PBu T n M0 d Q b l' ws op) : PAg n M0 d Q a l ws op := by
  intro M h
  have hn := hB.1
  refine hf a l ws hw hne (fun e he => f e (pb_l he)) (fun b l' he => ?_) M h
  rw [PEu, enS_n h10]
  exact and_sim hB hG hf hw h10 h11 161 b l' (by omega) (h.2.1.go hG he) (fun e h => f e (by rw [partOf, pb_r he]; exact h)) (fun c l2 h => g c l2 (by rw [partOf, pb_r he]; exact h))
theorem or_sim (hB : BMt T n M0) {op h0 : Nat} {pc : Nat → VD → PR} (h1 : 1 ≤ h0) (hG : GP n pc h0 true) (hf : PieSim T n M0 d Q op pc) {ws : List (Nat × Nat)} (hw : wsC ws) (h11 : nhd 11 ws) (h12 : nhd 12 ws) : ∀ k a l, n - a < k → MPp n a l ws op → ¬ hr T n a = 38 → (∀ e, lpsS T n 124 (partOf T n pc) k a l = .inl e → FAg M0 Q e) → (∀ b l', lpsS T n 124 (partOf T n pc) k a l = .inr (b, l') → ¬ hr T n b = 38 → ¬ hr T n b = 124 → PBu T n M0 d Q b l' ws op) → PBu T n M0 d Q a l ws op := by
  intro k
  induction k with
  | zero => intro a l h; omega
  | succ k ih =>
    intro a l hk hp h38 f g
    by_cases q : hr T n a = 124
    · have han := hr_lt (T := T) (n := n) (a := a) (by omega)
      have E : lpsS T n 124 (partOf T n pc) (k + 1) a l = pb (partOf T n pc (a + 1) (emit l 124 0)) (fun b l' => lpsS T n 124 (partOf T n pc) k b (patch l' (l 0 1))) := by rw [lpsS, if_pos q]
      rw [E] at f g
      rw [PBu, if_neg (by omega), if_neg h38, if_pos q, laS_t h11 h12]
      refine part_sim hB hG hf (hw.cons (by show (10 : Nat) ≤ 12 ∧ 12 ≤ 13; omega)) (by intro z; cases z) (fun p r z => by cases z; show ¬ (12 : Nat) = 10; omega) (fun p r z => by cases z; show ¬ (12 : Nat) = 11; omega) (fun e he => f e (pb_l he)) (fun b l' he h38b => ?_)
      refine (PBu_12 h38b).mpr ?_
      obtain ⟨g1, g2⟩ := hp.go2 hB.1 han (partOf_G hB.1 h1 hG) he
      exact ih b _ (by omega) g2 h38b (fun e h => f e (by rw [pb_r he]; exact h)) (fun c l2 h => g c l2 (by rw [pb_r he]; exact h))
    · exact g a l (by rw [lpsS, if_neg q]) h38 q
theorem cho_sim (hB : BMt T n M0) {op h0 : Nat} {pc : Nat → VD → PR} (h1 : 1 ≤ h0) (hG : GP n pc h0 true) (hf : PieSim T n M0 d Q op pc) {ws : List (Nat × Nat)} (hw : wsC ws) (hne : ¬ ws = []) (h10 : nhd 10 ws) (h11 : nhd 11 ws) (h12 : nhd 12 ws) {a : Nat} {l : VD} (f : ∀ e, choOf T n pc a l = .inl e → FAg M0 Q e) (g : ∀ b l', choOf T n pc a l = .inr (b, l') → ¬ hr T n b = 38 → ¬ hr T n b = 124 → PBu T n M0 d Q b l' ws op) : PAg n M0 d Q a l ws op := by
  intro M h
  have hn := hB.1
  refine part_sim hB hG hf hw hne h10 h11 (fun e he => f e (pb_l he)) (fun b l' he h38 => ?_) M h
  exact or_sim hB h1 hG hf hw h11 h12 161 b l' (by omega) (h.2.1.go (partOf_G hB.1 h1 hG) he) h38 (fun e h => f e (by rw [choOf, pb_r he]; exact h)) (fun c l2 h => g c l2 (by rw [choOf, pb_r he]; exact h))
theorem pie_sim (hB : BMt T n M0) (hd : 5 ≤ d) : ∀ k, k ≤ 6 → PieSim T n M0 d Q (6 - k) (pieS T n k) := by
  intro k
  induction k with
  | zero =>
    intro hk a l ws hw hne f g
    refine W_PA hB hd hk rfl hw (fun q => ⟨fun _ => f _ (by rw [pieS, if_pos (Or.inl q)]), fun z => by omega⟩) (fun q => ⟨fun _ => f _ (by rw [pieS, if_pos (Or.inr q)]), fun z => by omega⟩) (fun q q2 => ?_)
    have E : pieS T n 0 a l = cmpS T n 0 a l := by rw [pieS, if_neg (fun z => z.elim q q2)]
    rw [E] at f g
    exact ⟨f, fun b l' h => W_PB hB (by omega) (g b l' h)⟩
  | succ k ih =>
    intro hk a l ws hw hne f g
    have e6 : 6 - (k + 1) + 1 = 6 - k := by omega
    have e7 : 6 - k - 1 = 6 - (k + 1) := by omega
    refine W_PA hB hd hk rfl hw (fun q => ⟨fun z => by omega, fun _ => ?_⟩) (fun q => ⟨fun z => by omega, fun _ => ?_⟩) (fun q q2 => ?_)
    · rw [e6]
      have E : pieS T n (k + 1) a l = pb (pieS T n k (a + 1) l) (fun b l' => .inr (b, emit l' 33 0)) := by rw [pieS, if_pos q]
      rw [E] at f g
      refine ih (by omega) (a + 1) l _ (hw.cons (by show (10 : Nat) ≤ 10 ∧ 10 ≤ 13; omega)) (by intro z; cases z) (fun e he => f e (pb_l he)) (fun b l' he => ?_)
      have := g b _ (pb_r he)
      have en : enS l' ((10, 0) :: ws) (6 - k) = enS (emit l' 33 0) ws (6 - (k + 1)) := by rw [enS, if_pos rfl, e7]
      rw [PEu, en]
      exact this
    · rw [e6]
      have E : pieS T n (k + 1) a l = pb (choOf T n (pieS T n k) (a + 1) l) (clo T n 41) := by rw [pieS, if_neg (by omega), if_pos q]
      rw [E] at f g
      have n0 : ∀ o, ¬ 13 = o → nhd o ((13, 0) :: ws) := fun o ho p r z => by cases z; exact ho
      refine cho_sim hB (by omega) (pieS_G hB.1 k) (ih (by omega)) (hw.cons (by show (10 : Nat) ≤ 13 ∧ 13 ≤ 13; omega)) (by intro z; cases z) (n0 10 (by omega)) (n0 11 (by omega)) (n0 12 (by omega)) (fun e he => f e (pb_l he)) (fun b l' he h38 h124 => ?_)
      rw [PBu, laS_t (n0 11 (by omega)) (n0 12 (by omega))]
      by_cases h41 : hr T n b = 41
      · rw [if_pos h41]
        refine ⟨(13, 0), ws, rfl, rfl, fun z => absurd z hne, fun _ => ?_⟩
        rw [e7]
        exact W_PB hB (by omega) (g (b + 1) l' (by rw [pb_r he, clo, if_pos h41]))
      · rw [if_neg h41, if_neg h38, if_neg h124]
        exact f _ (by rw [pb_r he, clo, if_neg h41])
    · have E : pieS T n (k + 1) a l = cmpS T n (k + 1) a l := by rw [pieS, if_neg q, if_neg q2]
      rw [E] at f g
      exact ⟨f, fun b l' h => W_PB hB (by omega) (g b l' h)⟩
end SIC
theorem m_condition {T : Nat → Nat} {n d : Nat} {M0 M : Mem} {a op : Nat} {l : VD} {ws : List (Nat × Nat)} (hB : BMt T n M0) (h : MSt n M0 M a l ws op) (hd : 6 ≤ d) {P : Int32 → Mem → Prop} (f : ∀ e, pb (pb (clo T n 40 a l) (choOf T n (pieS T n 5))) (clo T n 41) = .inl e → ∀ M', MFl M0 e M' → P 0 M') (g : ∀ b l', pb (pb (clo T n 40 a l) (choOf T n (pieS T n 5))) (clo T n 41) = .inr (b, l') → ∀ M', MSt n M0 M' b l' [] 0 → P 1 M') : AMi d iX10_readsCondition [.ref 77] M P := by
  obtain ⟨d, rfl⟩ : ∃ d', d = d' + 1 := ⟨d - 1, by omega⟩
  have hn := hB.1
  refine eX10_readsCondition M (bX10_readsCondition_0 M ((m_here hB h).i ⟨fun z => ?_, fun z => ?_⟩))
  · have q := (sg_eqM hB (c := 40) (by omega)).mp z
    have han := hr_lt (T := T) (n := n) (a := a) (by omega)
    have E : clo T n 40 a l = .inr (a + 1, l) := by rw [clo, if_pos q]
    rw [E] at f g
    have f : ∀ e, pb (choOf T n (pieS T n 5) (a + 1) l) (clo T n 41) = .inl e → ∀ M', MFl M0 e M' → P 0 M' := f
    have g : ∀ b l', pb (choOf T n (pieS T n 5) (a + 1) l) (clo T n 41) = .inr (b, l') → ∀ M', MSt n M0 M' b l' [] 0 → P 1 M' := g
    obtain ⟨h1, ⟨p1, p2, p3, p4, p5, p6⟩, m1, m2, m3, m4, m5, m6⟩ := h
    have h0 : MSt n M0 (wr (wr M 77 14 0) 77 16 0) a l [] 0 := by
      refine ⟨(h1.wo 14 _ (by decide)).wo 16 _ (by decide), ⟨p1, by show l 0 1 + 0 ≤ a; omega, Nat.zero_le _, ⟨by omega, rfl⟩, p5, fun q hq => by cases hq⟩, ?_, ?_, ?_, wr_same _ _ _ _, fun k hk => ?_, trivial⟩
      · rw [wr_el (by decide), wr_el (by decide)]; exact m1
      · rw [wr_el (by decide), wr_same]; rfl
      · rw [wr_el (by decide), wr_el (by decide)]; exact m3
      · rw [wr_row (by decide), wr_row (by decide)]; exact m5 k hk
    refine m_opens hB h0 han 13 (by omega) (Or.inr (Or.inl rfl)) (by omega) (fun e => by omega) (fun _ M2 h2 => ⟨fun _ => ?_, fun z => absurd z (by decide)⟩)
    have n0 : ∀ o, ¬ 13 = o → nhd o [(13, 0)] := fun o ho p r z => by cases z; exact ho
    refine cho_sim (Q := fun r M' => ∃ x, r = some x ∧ P x M') (d := d) hB (by omega) (pieS_G hB.1 5) (pie_sim hB (by omega) 5 (by omega)) (ws := [(13, 0)]) (fun q hq => by simp at hq; subst hq; show (10 : Nat) ≤ 13 ∧ 13 ≤ 13; omega) (by intro z; cases z) (n0 10 (by omega)) (n0 11 (by omega)) (n0 12 (by omega)) (fun e he M' h' => ⟨0, rfl, f e (pb_l he) M' h'⟩) (fun b l' he h38 h124 => ?_) M2 h2
    rw [PBu, laS_t (n0 11 (by omega)) (n0 12 (by omega))]
    by_cases h41 : hr T n b = 41
    · rw [if_pos h41]
      exact ⟨(13, 0), [], rfl, rfl, fun _ M' h' => ⟨1, rfl, g (b + 1) l' (by rw [pb_r he, clo, if_pos h41]) M' h'⟩, fun z => absurd rfl z⟩
    · rw [if_neg h41, if_neg h38, if_neg h124]
      exact fun M' h' => ⟨0, rfl, f _ (by rw [pb_r he, clo, if_neg h41]) M' h'⟩
  · have q : ¬ hr T n a = 40 := fun w => z ((sg_eqM hB (c := 40) (by omega)).mpr w)
    have E : clo T n 40 a l = .inl (1000 + a) := by rw [clo, if_neg q]
    rw [E] at f
    exact m_wrong h 1 (fun M' h' => ⟨Or.inl rfl, 0, rfl, f _ rfl M' h'⟩)
