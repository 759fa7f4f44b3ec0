/-! the model reads a sum: its one loop against the sum within sums -/
theorem sgn_tab : ∀ c, c < 256 → signV (nI c) = (if (mulN c || addN c) then nI (sgO c) else -1) ∧ factV (nI c) = (if letN c < 12 then nI (letN c) else -1) := by decide +kernel
theorem opC_sgO {c : Nat} (h : mulN c = true ∨ addN c = true) : opC (sgO c) = c := by
  have : c = 42 ∨ c = 47 ∨ c = 37 ∨ c = 43 ∨ c = 45 := by
    rcases h with h | h
    · have := of_decide_eq_true h; omega
    · have := of_decide_eq_true h; omega
  rcases this with rfl | rfl | rfl | rfl | rfl <;> rfl
theorem sgO_mul {c : Nat} (h : mulN c = true) : 4 ≤ sgO c ∧ sgO c ≤ 6 := by
  have : c = 42 ∨ c = 47 ∨ c = 37 := of_decide_eq_true h
  rcases this with rfl | rfl | rfl <;> decide
theorem sgO_add {c : Nat} (h : addN c = true) : sgO c = 2 ∨ sgO c = 3 := by
  have : c = 43 ∨ c = 45 := of_decide_eq_true h
  rcases this with rfl | rfl <;> decide
/-- no sign of a sum waits on top -/
def nsm (bs : List (Nat × Nat)) : Prop := ∀ q r, bs = q :: r → ¬ (2 ≤ q.1 ∧ q.1 ≤ 6)
def nmu (bs : List (Nat × Nat)) : Prop := ∀ q r, bs = q :: r → ¬ (4 ≤ q.1 ∧ q.1 ≤ 6)
def usOK (us : List (Nat × Nat)) : Prop := ∀ q ∈ us, (2 ≤ q.1 ∧ q.1 ≤ 6) ∨ q.1 = 14
theorem usOK.cons {q : Nat × Nat} {us : List (Nat × Nat)} (h : usOK us) (hq : (2 ≤ q.1 ∧ q.1 ≤ 6) ∨ q.1 = 14) : usOK (q :: us) := by
  intro p hp
  rcases List.mem_cons.mp hp with rfl | hp
  · exact hq
  · exact h p hp
theorem clS_app {bs : List (Nat × Nat)} (hb : nsm bs) (all : Bool) : ∀ (us : List (Nat × Nat)) (l : VD), clS all l (us ++ bs) = ((clS all l us).1, (clS all l us).2 ++ bs)
  | [], l => by
    match bs, hb with
    | [], _ => rfl
    | q :: r, hb =>
      have := hb q r rfl
      show clS all l (q :: r) = (l, q :: r)
      rw [clS, if_neg (by omega)]
  | q :: us, l => by
    show clS all l (q :: (us ++ bs)) = _
    rw [clS, clS]
    split
    · exact clS_app hb all us _
    · rfl
theorem clS_nsm {us : List (Nat × Nat)} (h : nsm us) (all : Bool) (l : VD) : clS all l us = (l, us) := by
  match us, h with
  | [], _ => rfl
  | q :: r, h => have := h q r rfl; rw [clS, if_neg (by omega)]
theorem clS_nmu {us : List (Nat × Nat)} (h : nmu us) (l : VD) : clS false l us = (l, us) := by
  match us, h with
  | [], _ => rfl
  | q :: r, h => have := h q r rfl; rw [clS, if_neg (by intro z; rcases z with z | z; exact this z; cases z.1)]
theorem clS_open {us : List (Nat × Nat)} (hu : usOK us) (ho : hasO us = true) : ∀ l, ∃ q r, (clS true l us).2 = q :: r ∧ q.1 = 14 ∧ usOK r := by
  induction us with
  | nil => cases ho
  | cons q us ih =>
    intro l
    rw [clS]
    split
    · rename_i hc
      refine ih (fun p hp => hu p (List.mem_cons_of_mem _ hp)) ?_ _
      have : (q.1 == 14 || hasO us) = true := ho
      rw [Bool.or_eq_true] at this
      rcases this with h | h
      · have := eq_of_beq h; omega
      · exact h
    · rename_i hc
      have := hu q List.mem_cons_self
      exact ⟨q, us, rfl, by rcases this with h | h; (exfalso; apply hc; rcases (show (4 ≤ q.1 ∧ q.1 ≤ 6) ∨ (q.1 = 2 ∨ q.1 = 3) by omega) with w | w; exact Or.inl w; exact Or.inr ⟨rfl, w⟩); exact h, fun p hp => hu p (List.mem_cons_of_mem _ hp)⟩
section SIM
variable (T : Nat → Nat) (n : Nat) (M0 : Mem) (d : Nat) (Q : Option Int32 → Mem → Prop) (bs : List (Nat × Nat))
abbrev qFac : Option Int32 → Mem → Prop := fun r M' => ∃ x, r = some x ∧ ((¬ x = 0 → AX10_readsSum (d + 1) Q 14 [lR 77, lI (nI bs.length), none] [] M') ∧ (x = 0 → Q (some 0) M'))
def PLg (a : Nat) (l : VD) (us : List (Nat × Nat)) (op : Nat) : Prop := ∀ M, MSt n M0 M a l (us ++ bs) op → AX10_readsSum (d + 1) Q 14 [lR 77, lI (nI bs.length), none] [] M
def PFg (a : Nat) (l : VD) (us : List (Nat × Nat)) (op : Nat) : Prop := ∀ M, MSt n M0 M a l (us ++ bs) op → AX10_readsFactor d (qFac d Q bs) 0 [lR 77, none] [] M
def FAg (e : Nat) : Prop := ∀ M, MFl M0 e M → Q (some 0) M
def OKg (a : Nat) (l : VD) (us : List (Nat × Nat)) (op : Nat) : Prop := ∀ M, MSt n M0 M a l (us ++ bs) op → Q (some 1) M
def PLu (a : Nat) (l : VD) (us : List (Nat × Nat)) (op : Nat) : Prop :=
  if mulN (hr T n a) then PFg n M0 d Q bs (a + 1) (clS false l us).1 ((sgO (hr T n a), 0) :: (clS false l us).2) op
  else if addN (hr T n a) then PFg n M0 d Q bs (a + 1) (clS true l us).1 ((sgO (hr T n a), 0) :: (clS true l us).2) op
  else if hasO us then (if hr T n a = 93 then PLg n M0 d Q bs (a + 1) (clS true l us).1 (clS true l us).2.tail (op - 1) else FAg M0 Q (1000 + a))
  else OKg n M0 Q bs a (clS true l us).1 (clS true l us).2 op
variable {T} {n} {M0} {d} {Q} {bs}
theorem MSt.sum_push {a l ws op M} (h : MSt n M0 M a l ws op) (ha : a < n) {s : Nat} (hs : 2 ≤ s ∧ s ≤ 6) (hn : n ≤ 160) : MSt n M0 (wr (wr (wr M 85 (ix (M 77 16)) (1048576 * nI s)) 77 16 (M 77 16 + 1)) 77 11 (M 77 11 + 1)) (a + 1) l ((s, 0) :: ws) op := by
  obtain ⟨h1, ⟨p1, p2, p3, p4, p5, p6⟩, hm⟩ := h
  have e1 : (1048576 : Int32) * nI s = encW (s, 0) := by rw [show (1048576 : Int32) = nI 1048576 from rfl, pk_mul]; rfl
  rw [e1, hm.2.2.2.1, hm.1, ix_nI (by omega), nI_1, nI_1]
  refine ⟨((h1.w 85 _ _ (by decide) (by decide)).wo 16 _ (by decide)).wo 11 _ (by decide), ⟨ha, ?_, by rw [List.length_cons]; omega, ⟨p4.1, ?_⟩, p5, p6.cons (by show s ≤ 14; omega) (by show (0 : Nat) < _; omega) (fun q => by have : s = 11 ∨ s = 12 := q; omega)⟩, (hm.push (s, 0)).pl (a + 1)⟩
  · rw [pend, if_pos (Or.inl hs)]; omega
  · rw [opn, if_neg (by show ¬ (s = 10 ∨ s = 13 ∨ s = 14); omega)]; omega
theorem MSt.open_pop {a l q ws op M} (h : MSt n M0 M a l (q :: ws) op) (ha : a < n) (hq : q.1 = 13 ∨ q.1 = 14) : MSt n M0 (wr (wr (wr M 77 16 (M 77 16 - 1)) 77 14 (M 77 14 - 1)) 77 11 (M 77 11 + 1)) (a + 1) l ws (op - 1) := by
  obtain ⟨h1, ⟨p1, p2, p3, p4, p5, p6⟩, hm⟩ := h
  rw [pend, if_neg (by omega)] at p2
  rw [opn, if_pos (by omega)] at p4
  rw [List.length_cons] at p3
  have eo : nI op - 1 = nI (op - 1) := by
    obtain ⟨o, rfl⟩ : ∃ o, op = o + 1 := ⟨op - 1, by omega⟩
    exact nI_pred o
  rw [hm.2.2.2.1, hm.1, hm.2.1, eo, List.length_cons, nI_pred, nI_1]
  exact ⟨((h1.wo 16 _ (by decide)).wo 14 _ (by decide)).wo 11 _ (by decide), ⟨ha, by omega, by omega, by omega, p5, p6.tl⟩, (MRr.oc hm.pop (op - 1)).pl (a + 1)⟩
theorem W_PL (hB : BMt T n M0) (hd : 3 ≤ d) (hb : nsm bs) {a : Nat} {l : VD} {us : List (Nat × Nat)} {op : Nat} (hu : usOK us) (k : PLu T n M0 d Q bs a l us op) : PLg n M0 d Q bs a l us op := by
  intro M h
  have hn := hB.1
  have ha := h.2.1.1
  refine bX10_readsSum_14 M _ ((m_here hB h).i ?_)
  have sv : signV (sgV T n a) = (if (mulN (hr T n a) || addN (hr T n a)) then nI (sgO (hr T n a)) else -1) := by
    rw [sgV, hr]; split
    · rename_i z; exact (sgn_tab _ (hB.2.2 a z).1).1
    · decide
  have go38 : ∀ all : Bool, (mulN (hr T n a) = true ∨ addN (hr T n a) = true) → PFg n M0 d Q bs (a + 1) (clS all l us).1 ((sgO (hr T n a), 0) :: (clS all l us).2) op → AX10_readsSum (d + 1) Q 38 [lR 77, lI (nI bs.length), lI (nI (sgO (hr T n a)))] [.int (bI all), .ref 77] M := by
    intro all hc k
    have hs : 2 ≤ sgO (hr T n a) ∧ sgO (hr T n a) ≤ 6 := by
      rcases hc with z | z
      · have := sgO_mul z; omega
      · have := sgO_add z; omega
    have han : a < n := by
      rcases hc with z | z
      · have z : hr T n a = 42 ∨ hr T n a = 47 ∨ hr T n a = 37 := of_decide_eq_true z; exact hr_lt (T := T) (by omega)
      · have z : hr T n a = 43 ∨ hr T n a = 45 := of_decide_eq_true z; exact hr_lt (T := T) (by omega)
    refine bX10_readsSum_38 M _ _ _ (m_closes hn h all (by omega) (fun M1 h1 => ?_))
    rw [clS_app hb] at h1
    refine ⟨?_, eX10_readsFactor _ (k _ (h1.sum_push han hs hn))⟩
    have := h1.2.1.2.2.1
    rw [h1.2.2.2.2.2.1]; exact vp_in_nI (by omega) (by decide)
  rw [PLu] at k
  rw [sv]
  cases hmu : mulN (hr T n a) with
  | true =>
    rw [if_pos hmu] at k
    have := sgO_mul hmu
    refine ⟨fun z => absurd z (nI_nm1 (by omega)), fun _ => bq_le 4 (sgO (hr T n a)) rfl rfl (by omega) (by omega) (fun _ => go38 false (Or.inl hmu) k) (fun z => by omega)⟩
  | false =>
    rw [if_neg (by rw [hmu]; decide)] at k
    cases had : addN (hr T n a) with
    | true =>
      rw [if_pos had] at k
      have := sgO_add had
      refine ⟨fun z => absurd z (nI_nm1 (by omega)), fun _ => bq_le 4 (sgO (hr T n a)) rfl rfl (by omega) (by omega) (fun z => by omega) (fun _ => go38 true (Or.inr had) k)⟩
    | false =>
      rw [if_neg (by rw [had]; decide)] at k
      refine ⟨fun _ => (m_here hB h).i ?_, fun z => absurd rfl z⟩
      have f138 : (hasO us = true → FAg M0 Q (1000 + a)) → AX10_readsSum (d + 1) Q 138 [lR 77, lI (nI bs.length), none] [] M := by
        intro f
        refine bX10_readsSum_138 M _ ((m_hasOpen hn h).i ?_)
        cases hO : hasO us with
        | true => exact ⟨fun z => absurd z (by decide), fun _ => m_wrong h 1 (fun M' h' => ⟨Or.inl rfl, f hO M' h'⟩)⟩
        | false =>
          rw [if_neg (by rw [hO]; decide)] at k
          refine ⟨fun _ => m_closes hn h true (by omega) (fun M1 h1 => ?_), fun z => absurd rfl z⟩
          rw [clS_app hb] at h1
          exact k M1 h1
      by_cases h93 : hr T n a = 93
      · have han := hr_lt (T := T) (n := n) (a := a) (by omega)
        refine ⟨fun z => absurd ((sg_eqM hB (c := 93) (by omega)).mpr h93) z, fun _ => (m_hasOpen hn h).i ?_⟩
        cases hO : hasO us with
        | false => exact ⟨fun _ => f138 (fun z => by rw [hO] at z; cases z), fun z => absurd rfl z⟩
        | true =>
          rw [if_pos hO, if_pos h93] at k
          refine ⟨fun z => absurd z (by decide), fun _ => m_closes hn h true (by omega) (fun M1 h1 => ?_)⟩
          rw [clS_app hb] at h1
          obtain ⟨q, r, e1, e2, e3⟩ := clS_open hu hO l
          rw [e1] at h1 k
          exact k _ (h1.open_pop han (Or.inr e2))
      · refine ⟨fun _ => f138 (fun hO => ?_), fun z => absurd ((sg_eqM hB (c := 93) (by omega)).mp z) h93⟩
        rw [if_pos hO, if_neg h93] at k
        exact k
theorem W_PF (hB : BMt T n M0) (hd : 3 ≤ d) {a : Nat} {l : VD} {us : List (Nat × Nat)} {op : Nat} (f91 : hr T n a = 91 → (op = 6 → FAg M0 Q (5000 + a)) ∧ (op < 6 → PFg n M0 d Q bs (a + 1) l ((14, 0) :: us) (op + 1))) (fnu : ¬ hr T n a = 91 → dgN (hr T n a) = true → (∀ e, numS T n 5 a 0 = .inl e → FAg M0 Q e) ∧ (∀ b x, numS T n 5 a 0 = .inr (b, x) → PLg n M0 d Q bs b (emit l 48 x) us op)) (flt : ¬ hr T n a = 91 → dgN (hr T n a) = false → letN (hr T n a) < 12 → PLg n M0 d Q bs (a + 1) (emit l 97 (letN (hr T n a))) us op) (fba : ¬ hr T n a = 91 → dgN (hr T n a) = false → ¬ letN (hr T n a) < 12 → FAg M0 Q (1000 + a)) : PFg n M0 d Q bs a l us op := by
  obtain ⟨d, rfl⟩ : ∃ d', d = d' + 1 := ⟨d - 1, by omega⟩
  intro M h
  have hn := hB.1
  have hp := h.2.1
  refine bX10_readsFactor_0 M ((m_here hB h).i ⟨fun z => ?_, fun z => ?_⟩)
  · have q : ¬ hr T n a = 91 := fun w => z ((sg_eqM hB (c := 91) (by omega)).mpr w)
    refine (m_isDigit hB h (by omega)).i ?_
    cases hdg : dgN (hr T n a) with
    | true =>
      refine ⟨fun z => absurd z (by decide), fun _ => ?_⟩
      obtain ⟨f1, f2⟩ := fnu q hdg
      refine m_number hB h hdg (by omega) (fun e he M' h' => ⟨fun z => absurd rfl z, fun _ => ⟨0, rfl, fun z => absurd rfl z, fun _ => f1 e he M' h'⟩⟩) (fun b x he M' h' hx => ⟨fun _ => ?_, fun z => absurd z (by decide)⟩)
      have hb := numS_ok 5 a 0 b x he hp.1 (by decide) (by omega)
      have hb2 := numS_lt (k := 4) he hdg hp.1 (by decide) (by omega)
      rw [hx]
      have p2 := hp.2.1
      exact m_notes hn h' 48 x rfl (by omega) (by omega) (fun M2 h2 => ⟨1, rfl, fun _ => f2 b x he M2 h2, fun z => absurd z (by decide)⟩)
    | false =>
      refine ⟨fun _ => (m_here hB h).i ?_, fun z => absurd rfl z⟩
      have fv : factV (sgV T n a) = (if letN (hr T n a) < 12 then nI (letN (hr T n a)) else -1) := by
        rw [sgV, hr]; split
        · rename_i z; exact (sgn_tab _ (hB.2.2 a z).1).2
        · decide
      rw [fv]
      by_cases hl : letN (hr T n a) < 12
      · rw [if_pos hl]
        have han : a < n := by
          by_cases z : a < n
          · exact z
          · rw [hr, if_neg z] at hl; exact absurd hl (by decide)
        refine ⟨fun _ => ?_, fun z => absurd z (nI_nm1 (by omega))⟩
        have hh := h
        obtain ⟨h1, ⟨p1, p2, p3, p4, p5, p6⟩, hm⟩ := h
        refine m_notesR (z := l 0 1) (o := 1) (v := letN (hr T n a)) hm.2.2.1 (by omega) ?_
        have mc := hm.code 97 (letN (hr T n a))
        rw [show opN 97 = 1 from rfl] at mc
        have e11 := mc.1
        rw [e11, nI_1]
        refine ⟨1, rfl, fun _ => flt q hdg hl _ ⟨((h1.w 84 _ _ (by decide) (by decide)).wo 15 _ (by decide)).wo 11 _ (by decide), ⟨han, by rw [em_n]; omega, by omega, p4, p5.em (by omega), p6.up (by rw [em_n]; omega)⟩, mc.pl (a + 1)⟩, fun z => absurd z (by decide)⟩
      · rw [if_neg hl]
        exact ⟨fun z => absurd rfl z, fun _ => m_wrong h 1 (fun M' h' => ⟨Or.inl rfl, 0, rfl, fun z => absurd rfl z, fun _ => fba q hdg hl M' h'⟩)⟩
  · have q := (sg_eqM hB (c := 91) (by omega)).mp z
    have han := hr_lt (T := T) (n := n) (a := a) (by omega)
    obtain ⟨f1, f2⟩ := f91 q
    exact m_opens hB h han 14 (by omega) (Or.inr (Or.inr rfl)) (by omega) (fun e M' h' => ⟨fun z => absurd rfl z, fun _ => ⟨0, rfl, fun z => absurd rfl z, fun _ => f1 e M' h'⟩⟩) (fun e M' h' => ⟨fun _ => f2 e M' h', fun z => absurd z (by decide)⟩)
/-! the sum within sums -/
theorem PLu_mul {b : Nat} {l : VD} {us : List (Nat × Nat)} {op s : Nat} (hs : 4 ≤ s ∧ s ≤ 6) : PLu T n M0 d Q bs b l ((s, 0) :: us) op ↔ PLu T n M0 d Q bs b (emit l (opC s) 0) us op := by
  have e : ∀ all, clS all l ((s, 0) :: us) = clS all (emit l (opC s) 0) us := fun all => by rw [clS, if_pos (Or.inl hs)]
  have o : hasO ((s, 0) :: us) = hasO us := by
    show (s == 14 || hasO us) = hasO us
    rw [show (s == 14) = false from beq_false_of_ne (by omega), Bool.false_or]
  rw [PLu, PLu, e, e, o]
theorem PLu_add {b : Nat} {l : VD} {us : List (Nat × Nat)} {op s : Nat} (hs : s = 2 ∨ s = 3) (hm : mulN (hr T n b) = false) : PLu T n M0 d Q bs b l ((s, 0) :: us) op ↔ PLu T n M0 d Q bs b (emit l (opC s) 0) us op := by
  have e : clS true l ((s, 0) :: us) = clS true (emit l (opC s) 0) us := by rw [clS, if_pos (Or.inr ⟨rfl, hs⟩)]
  have o : hasO ((s, 0) :: us) = hasO us := by
    show (s == 14 || hasO us) = hasO us
    rw [show (s == 14) = false from beq_false_of_ne (by omega), Bool.false_or]
  have hm' : ¬ mulN (hr T n b) = true := by rw [hm]; decide
  rw [PLu, PLu, if_neg hm', if_neg hm', e, o]
/-- what stays bounded behind a piece of text -/
theorem MPp.go {P : Nat → VD → PR} {h0 : Nat} {tb : Bool} {a b : Nat} {l l' : VD} {ws : List (Nat × Nat)} {op : Nat} (hm : MPp n a l ws op) (hG : GP n P h0 tb) (e : P a l = .inr (b, l')) : MPp n b l' ws op := by
  obtain ⟨p1, p2, p3, p4, p5, p6⟩ := hm
  obtain ⟨g1, g2, g3, g4, g5, -, -⟩ := hG a l b l' p1 (by omega) p5 e
  exact ⟨g2, by omega, by omega, p4, g5, p6.up (by omega)⟩
theorem MPp.go1 {P : Nat → VD → PR} {h0 : Nat} {tb : Bool} {a b g : Nat} {l l' : VD} {ws : List (Nat × Nat)} {op : Nat} (hm : MPp n a l ws op) (ha : a < n) (hG : GP n P h0 tb) (e : P (a + 1) l = .inr (b, l')) : a + 1 < b ∧ MPp n b (emit l' g 0) ws op := by
  obtain ⟨p1, p2, p3, p4, p5, p6⟩ := hm
  obtain ⟨g1, g2, g3, g4, g5, -, -⟩ := hG (a + 1) l b l' (by omega) (by omega) p5 e
  exact ⟨g1, g2, by rw [em_n]; omega, by omega, p4, g5.em (by omega), p6.up (by rw [em_n]; omega)⟩
def FacSim (T : Nat → Nat) (n : Nat) (M0 : Mem) (d : Nat) (Q : Option Int32 → Mem → Prop) (bs : List (Nat × Nat)) (op : Nat) (fac : Nat → VD → PR) : Prop := ∀ a l us, usOK us → (∀ e, fac a l = .inl e → FAg M0 Q e) → (∀ b l', fac a l = .inr (b, l') → PLu T n M0 d Q bs b l' us op) → PFg n M0 d Q bs a l us op
theorem mul_sim {op h0 : Nat} {fac : Nat → VD → PR} (hG : GP n fac h0 false) (hf : FacSim T n M0 d Q bs op fac) {us : List (Nat × Nat)} (hu : usOK us) (hm : nmu us) : ∀ k a l, n - a < k → MPp n a l (us ++ bs) op → (∀ e, opsS T n mulN fac k a l = .inl e → FAg M0 Q e) → (∀ b l', opsS T n mulN fac k a l = .inr (b, l') → mulN (hr T n b) = false → PLu T n M0 d Q bs b l' us op) → PLu T n M0 d Q bs a l us op := by
  intro k
  induction k with
  | zero => intro a l h; omega
  | succ k ih =>
    intro a l hk hp f g
    cases q : mulN (hr T n a) with
    | false => exact g a l (by rw [opsS, q]; rfl) q
    | true =>
      have qq : hr T n a = 42 ∨ hr T n a = 47 ∨ hr T n a = 37 := of_decide_eq_true q
      have han := hr_lt (T := T) (n := n) (a := a) (by omega)
      have hs := sgO_mul q
      have E : opsS T n mulN fac (k + 1) a l = pb (fac (a + 1) l) (fun b l' => opsS T n mulN fac k b (emit l' (hr T n a) 0)) := by rw [opsS, if_pos q]
      rw [E] at f g
      rw [PLu, if_pos q, clS_nmu hm]
      refine hf (a + 1) l _ (hu.cons (Or.inl (by show 2 ≤ sgO (hr T n a) ∧ sgO (hr T n a) ≤ 6; omega))) (fun e he => f e (pb_l he)) (fun b l' he => ?_)
      rw [PLu_mul hs, opC_sgO (Or.inl q)]
      obtain ⟨g1, g2⟩ := hp.go1 (g := hr T n a) han hG he
      exact ih b _ (by omega) g2 (fun e h => f e (by rw [pb_r he]; exact h)) (fun c l2 h => g c l2 (by rw [pb_r he]; exact h))
theorem term_sim (hB : BMt T n M0) {op h0 : Nat} {fac : Nat → VD → PR} (hG : GP n fac h0 false) (hf : FacSim T n M0 d Q bs op fac) {us : List (Nat × Nat)} (hu : usOK us) (hm : nmu us) {a : Nat} {l : VD} (f : ∀ e, termS T n fac a l = .inl e → FAg M0 Q e) (g : ∀ b l', termS T n fac a l = .inr (b, l') → mulN (hr T n b) = false → PLu T n M0 d Q bs b l' us op) : PFg n M0 d Q bs a l us op := by
  intro M h
  have hn := hB.1
  refine hf a l us hu (fun e he => f e (pb_l he)) (fun b l' he => ?_) M h
  exact mul_sim hG hf hu hm 161 b l' (by omega) (h.2.1.go hG he) (fun e h => f e (by rw [termS, pb_r he]; exact h)) (fun c l2 h => g c l2 (by rw [termS, pb_r he]; exact h))
theorem add_sim (hB : BMt T n M0) {op h0 : Nat} {fac : Nat → VD → PR} (h1 : 1 ≤ h0) (hG : GP n fac h0 false) (hf : FacSim T n M0 d Q bs op fac) {us : List (Nat × Nat)} (hu : usOK us) (hm : nsm us) : ∀ k a l, n - a < k → MPp n a l (us ++ bs) op → mulN (hr T n a) = false → (∀ e, opsS T n addN (termS T n fac) k a l = .inl e → FAg M0 Q e) → (∀ b l', opsS T n addN (termS T n fac) k a l = .inr (b, l') → mulN (hr T n b) = false → addN (hr T n b) = false → PLu T n M0 d Q bs b l' us op) → PLu T n M0 d Q bs a l us op := by
  intro k
  induction k with
  | zero => intro a l h; omega
  | succ k ih =>
    intro a l hk hp hmu f g
    cases q : addN (hr T n a) with
    | false => exact g a l (by rw [opsS, q]; rfl) hmu q
    | true =>
      have qq : hr T n a = 43 ∨ hr T n a = 45 := of_decide_eq_true q
      have han := hr_lt (T := T) (n := n) (a := a) (by omega)
      have hs := sgO_add q
      have E : opsS T n addN (termS T n fac) (k + 1) a l = pb (termS T n fac (a + 1) l) (fun b l' => opsS T n addN (termS T n fac) k b (emit l' (hr T n a) 0)) := by rw [opsS, if_pos q]
      rw [E] at f g
      rw [PLu, if_neg (by rw [hmu]; decide), if_pos q, clS_nsm hm]
      refine term_sim hB hG hf (hu.cons (Or.inl (by show 2 ≤ sgO (hr T n a) ∧ sgO (hr T n a) ≤ 6; omega))) (fun p r e => by cases e; show ¬ (4 ≤ sgO (hr T n a) ∧ sgO (hr T n a) ≤ 6); omega) (fun e he => f e (pb_l he)) (fun b l' he hmb => ?_)
      rw [PLu_add hs hmb, opC_sgO (Or.inr q)]
      obtain ⟨g1, g2⟩ := hp.go1 (g := hr T n a) han (termS_G h1 hG) he
      exact ih b _ (by omega) g2 hmb (fun e h => f e (by rw [pb_r he]; exact h)) (fun c l2 h => g c l2 (by rw [pb_r he]; exact h))
theorem sum_sim (hB : BMt T n M0) {op h0 : Nat} {fac : Nat → VD → PR} (h1 : 1 ≤ h0) (hG : GP n fac h0 false) (hf : FacSim T n M0 d Q bs op fac) {us : List (Nat × Nat)} (hu : usOK us) (hm : nsm us) {a : Nat} {l : VD} (f : ∀ e, sumOf T n fac a l = .inl e → FAg M0 Q e) (g : ∀ b l', sumOf T n fac a l = .inr (b, l') → mulN (hr T n b) = false → addN (hr T n b) = false → PLu T n M0 d Q bs b l' us op) : PFg n M0 d Q bs a l us op := by
  intro M h
  have hn := hB.1
  refine term_sim hB hG hf hu (fun q r e z => hm q r e (by omega)) (fun e he => f e (pb_l he)) (fun b l' he hmb => ?_) M h
  exact add_sim hB h1 hG hf hu hm 161 b l' (by omega) (h.2.1.go (termS_G h1 hG) he) hmb (fun e h => f e (by rw [sumOf, pb_r he]; exact h)) (fun c l2 h => g c l2 (by rw [sumOf, pb_r he]; exact h))
theorem fac_sim (hB : BMt T n M0) (hd : 3 ≤ d) (hb : nsm bs) : ∀ k, k ≤ 6 → FacSim T n M0 d Q bs (6 - k) (facK T n k) := by
  intro k
  induction k with
  | zero =>
    intro hk a l us hu f g
    refine W_PF hB hd (fun q => ⟨fun _ => f _ (facK_0 q), fun z => by omega⟩) (fun q hdg => ?_) (fun q hdg hl => W_PL hB hd hb hu (g _ _ (facK_l q hdg hl))) (fun q hdg hl => f _ (facK_e q hdg hl))
    have e := facK_n (k := 0) (l := l) q hdg
    exact ⟨fun x hx => f x (by rw [e, hx]; rfl), fun b x hx => W_PL hB hd hb hu (g b _ (by rw [e, hx]; rfl))⟩
  | succ k ih =>
    intro hk a l us hu f g
    refine W_PF hB hd (fun q => ⟨fun z => by omega, fun _ => ?_⟩) (fun q hdg => ?_) (fun q hdg hl => W_PL hB hd hb hu (g _ _ (facK_l q hdg hl))) (fun q hdg hl => f _ (facK_e q hdg hl))
    · have e := facK_s (k := k) (l := l) q
      have e6 : 6 - (k + 1) + 1 = 6 - k := by omega
      rw [e6]
      rw [e, sumS_eq] at f g
      refine sum_sim hB (by omega) (facK_G k) (ih (by omega)) (hu.cons (Or.inr rfl)) (fun p r z => by cases z; show ¬ ((2 : Nat) ≤ 14 ∧ 14 ≤ 6); omega) (fun x hx => f x (pb_l hx)) (fun b l' hx h1 h2 => ?_)
      have hO : hasO ((14, 0) :: us) = true := rfl
      have hc : clS true l' ((14, 0) :: us) = (l', (14, 0) :: us) := by rw [clS, if_neg (by show ¬ (((4 : Nat) ≤ 14 ∧ 14 ≤ 6) ∨ (true = true ∧ ((14 : Nat) = 2 ∨ 14 = 3))); omega)]
      rw [PLu, if_neg (by rw [h1]; decide), if_neg (by rw [h2]; decide), if_pos hO, hc]
      by_cases h93 : hr T n b = 93
      · rw [if_pos h93]
        have e7 : 6 - k - 1 = 6 - (k + 1) := by omega
        rw [e7]
        exact W_PL hB hd hb hu (g (b + 1) l' (by rw [pb_r hx, clo, if_pos h93]))
      · rw [if_neg h93]
        exact f _ (by rw [pb_r hx, clo, if_neg h93])
    · have e := facK_n (k := k + 1) (l := l) q hdg
      exact ⟨fun x hx => f x (by rw [e, hx]; rfl), fun b x hx => W_PL hB hd hb hu (g b _ (by rw [e, hx]; rfl))⟩
end SIM
theorem m_readsSum {T : Nat → Nat} {n d : Nat} {M0 M : Mem} {a k op : Nat} {l : VD} {ws : List (Nat × Nat)} (hB : BMt T n M0) (h : MSt n M0 M a l ws op) (hk : k ≤ 6) (ho : op = 6 - k) (hw : nsm ws) (hd : 4 ≤ d) {P : Int32 → Mem → Prop} (f : ∀ e, sumS T n k a l = .inl e → ∀ M', MFl M0 e M' → P 0 M') (g : ∀ b l', sumS T n k a l = .inr (b, l') → ∀ M', MSt n M0 M' b l' ws op → P 1 M') : AMi d iX10_readsSum [.ref 77] M P := by
  obtain ⟨d, rfl⟩ : ∃ d', d = d' + 1 := ⟨d - 1, by omega⟩
  subst ho
  have hn := hB.1
  refine eX10_readsSum M (bX10_readsSum_0 M ?_)
  rw [h.2.2.2.2.2.1]
  rw [sumS_eq] at f g
  have u0 : usOK [] := fun q hq => by cases hq
  have n0 : nsm [] := fun q r e => by cases e
  have := sum_sim (Q := fun r M' => ∃ x, r = some x ∧ P x M') (bs := ws) (d := d) hB (by omega) (facK_G k) (fac_sim hB (by omega) hw k hk) u0 n0 (a := a) (l := l) (fun e he M' h' => ⟨0, rfl, f e he M' h'⟩) (fun b l' he h1 h2 => by
    rw [PLu, if_neg (by rw [h1]; decide), if_neg (by rw [h2]; decide), if_neg (show ¬ hasO [] = true by decide)]
    exact fun M' h' => ⟨1, rfl, g b l' he M' h'⟩)
  exact eX10_readsFactor M (this M h)
