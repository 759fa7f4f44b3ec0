/-! the class reads: single methods -/
def CF (M0 M : Mem) : Prop := (∀ k, k ≠ 53 → k ≠ 54 → k ≠ 55 → k ≠ 61 → M k = M0 k) ∧ M 61 2 = M0 61 2 ∧ M 53 0 = M0 53 0
theorem CF.rf (M : Mem) : CF M M := ⟨fun _ _ _ _ _ => rfl, rfl, rfl⟩
theorem CF.w {M0 M : Mem} (h : CF M0 M) {k j : Nat} {x : Int32} (hk : (k = 54 ∨ k = 55) ∨ (k = 53 ∧ j = 1) ∨ (k = 61 ∧ (j = 3 ∨ j = 4))) : CF M0 (wr M k j x) := by
  refine ⟨fun q a b c d => (wr_row (by omega)).trans (h.1 q a b c d), ?_, ?_⟩
  · by_cases e : k = 61
    · subst e; rw [wr_el (by omega)]; exact h.2.1
    · rw [wr_row (by omega)]; exact h.2.1
  · by_cases e : k = 53
    · subst e; rw [wr_el (by omega)]; exact h.2.2
    · rw [wr_row (by omega)]; exact h.2.2
def CDr (M : Mem) (l : VD) : Prop := M 53 1 = nI (l 0 1) ∧ ∀ k, k < l 0 1 → M 54 k = nI (l 1 k) ∧ M 55 k = nI (l 2 k)
def adM (M : Mem) (z : Nat) (g v : Int32) : Mem := wr (wr (wr M 54 z g) 55 z v) 53 1 (nI (z + 1))
theorem adM_row {M : Mem} {z k : Nat} {g v : Int32} (h1 : k ≠ 53) (h2 : k ≠ 54) (h3 : k ≠ 55) : adM M z g v k = M k := by rw [adM, wr_row h1, wr_row h3, wr_row h2]
theorem CF.ad {M0 M : Mem} (h : CF M0 M) (z : Nat) (g v : Int32) : CF M0 (adM M z g v) := ((h.w (Or.inl (Or.inl rfl))).w (Or.inl (Or.inr rfl))).w (Or.inr (Or.inl ⟨rfl, rfl⟩))
theorem CDr.ad {M : Mem} {l : VD} (h : CDr M l) (g v : Nat) : CDr (adM M (l 0 1) (nI g) (nI v)) (emit l g v) := by
  refine ⟨by rw [em_n, adM, wr_same], fun k hk => ?_⟩
  rw [em_n] at hk
  rw [adM, wr_row (by decide), wr_row (by decide), wr_row (show (55 : Nat) ≠ 53 by decide)]
  by_cases e : k = l 0 1
  · subst e; rw [wr_same, wr_same, em_g, em_v]; exact ⟨rfl, rfl⟩
  · rw [wr_el e, wr_el e, em_o1 e, em_o2 e, wr_row (show (55 : Nat) ≠ 54 by decide)]
    exact h.2 k (by omega)
theorem CDr.w {M : Mem} {l : VD} (h : CDr M l) {k j : Nat} {x : Int32} (h1 : k ≠ 53) (h2 : k ≠ 54) (h3 : k ≠ 55) : CDr (wr M k j x) l := by
  rw [CDr, wr_row (Ne.symm h1), wr_row (Ne.symm h2), wr_row (Ne.symm h3)]; exact h
def CRi (n : Nat) (r : PR) (M : Mem) : Prop := match r with
  | .inl e => 0 < e ∧ e < 6000 ∧ M 61 4 = -(nI e) ∧ (∃ a, a ≤ n ∧ M 61 3 = nI a) ∧ ∃ z, z ≤ 160 ∧ M 53 1 = nI z
  | .inr q => q.1 ≤ n ∧ q.2 0 1 ≤ q.1 ∧ LB q.2 ∧ M 61 4 = 0 ∧ M 61 3 = nI q.1 ∧ CDr M q.2
def CR (n : Nat) (M0 : Mem) (r : PR) (M : Mem) : Prop := CF M0 M ∧ CRi n r M
/-- the text lies in the class's tape -/
def BT (T : Nat → Nat) (n : Nat) (M : Mem) : Prop := n ≤ 160 ∧ M 61 2 = nI n ∧ ∀ j, j < n → T j < 256 ∧ M 35 j = nI (T j)
/-- a reader's method does what P says -/
def CM (n : Nat) (M0 : Mem) (d : Nat) (mi : MI) (av : List Value) (P : Nat → VD → PR) : Prop := ∀ r M, CR n M0 r M → AMv d mi av M (fun M' => CR n M0 (pb r P) M')
def sgV (T : Nat → Nat) (n a : Nat) : Int32 := if a < n then nI (T a) else -1
def nextV (T : Nat → Nat) (n i : Nat) (r : PR) : Int32 := match r with
  | .inl _ => 0
  | .inr q => if sgN i (hr T n q.1) then 1 else 0
section CL
variable {T : Nat → Nat} {n d : Nat} {M0 M : Mem} {r : PR}
theorem hr_le (hB : BT T n M0) (a : Nat) : hr T n a ≤ 300 := by
  rw [hr]; split
  · rename_i h; have := (hB.2.2 a h).1; omega
  · omega
theorem sg_eq (hB : BT T n M0) {a c : Nat} (hc : c < 256) : sgV T n a = nI c ↔ hr T n a = c := by
  rw [sgV, hr]; split
  · rename_i h
    exact nI_eq (by have := (hB.2.2 a h).1; omega) (by omega)
  · constructor
    · intro z; exact absurd z.symm (nI_nm1 (by omega))
    · intro z; omega
theorem sg_hr (hB : BT T n M0) {a : Nat} (h : a < n) : sgV T n a = nI (hr T n a) := by rw [sgV, hr, if_pos h, if_pos h]
theorem nx_r {A B : Prop} {i a : Nat} {l : VD} (f : sgN i (hr T n a) = false → A) (g : sgN i (hr T n a) = true → B) : (nextV T n i (.inr (a, l)) = 0 → A) ∧ (¬ nextV T n i (.inr (a, l)) = 0 → B) := by
  show ((if sgN i (hr T n a) then (1 : Int32) else 0) = 0 → A) ∧ (¬ (if sgN i (hr T n a) then (1 : Int32) else 0) = 0 → B)
  cases h : sgN i (hr T n a) with
  | false => exact ⟨fun _ => f h, fun z => absurd rfl z⟩
  | true => exact ⟨fun z => absurd z (by decide), fun _ => g h⟩
theorem nx_l {A B : Prop} {i e : Nat} (f : A) : (nextV T n i (.inl e) = 0 → A) ∧ (¬ nextV T n i (.inl e) = 0 → B) := ⟨fun _ => f, fun z => absurd rfl z⟩
theorem CR.tape (hB : BT T n M0) (h : CR n M0 r M) {j : Nat} (hj : j < n) : M 35 j = nI (T j) := by
  rw [h.1.1 35 (by decide) (by decide) (by decide) (by decide)]; exact (hB.2.2 j hj).2
theorem CR.fin (hB : BT T n M0) (h : CR n M0 r M) : M 61 2 = nI n := h.1.2.1.trans hB.2.1
theorem c_sign (hB : BT T n M0) {a : Nat} {l : VD} (h : CR n M0 (.inr (a, l)) M) : AMp d iX3_sign [.ref 61] M (sgV T n a) := by
  have hn := hB.1
  obtain ⟨i1, i2, i3, i4, i5, i6⟩ := h.2
  refine eX3_sign M (bX3_sign_0 M ?_)
  rw [h.fin hB, i5]
  have i1 : a ≤ n := i1
  refine bq_le _ _ rfl rfl (by omega) (by show a < _; omega) (fun z => ⟨by rw [sgV, if_neg (by show ¬ a < n; have : n ≤ a := z; omega)], rfl⟩) (fun z => ⟨vp_in_nI (by show a < 200; omega) (by decide), ?_, rfl⟩)
  have z : a < n := z
  rw [ix_nI (by show a < _; omega), h.tape hB z, sgV, if_pos z]
/-- at a fault the sign is of no use -/
theorem c_signF (hB : BT T n M0) {e : Nat} (h : CR n M0 (.inl e) M) : AMi d iX3_sign [.ref 61] M (fun _ M' => M' = M) := by
  have hn := hB.1
  obtain ⟨i1, i2, i3, ⟨a, i4, i5⟩, i6⟩ := h.2
  refine eX3_sign M (bX3_sign_0 M ?_)
  rw [h.fin hB, i5]
  exact bq_le _ _ rfl rfl (by omega) (by omega) (fun z => ⟨_, rfl, rfl⟩) (fun z => ⟨vp_in_nI (by omega) (by decide), _, rfl, rfl⟩)
theorem c_isNext (hB : BT T n M0) (h : CR n M0 r M) (i : Nat) (hi : i < 12) (hd : 4 ≤ d) : AMp d iX3_isNext [.ref 61, .ref (1000 + i)] M (nextV T n i r) := by
  have hn := hB.1
  obtain ⟨d, rfl⟩ : ∃ d', d = d' + 4 := ⟨d - 4, by omega⟩
  refine eX3_isNext M (bX3_isNext_0 (show i < strT.length from hi) M ?_)
  match r, h with
  | .inl e, h => exact ⟨fun _ => ⟨rfl, rfl⟩, fun z => absurd (h.2.2.2.1.symm.trans z) (fv_ne0 h.2.1 h.2.2.1)⟩
  | .inr (a, l), h =>
    obtain ⟨i1, i2, i3, i4, i5, i6⟩ := h.2
    have i1 : a ≤ n := i1
    refine ⟨fun z => absurd i4 z, fun _ => ?_⟩
    rw [h.fin hB, i5]
    refine bq_le _ _ rfl rfl (by omega) (by show a < _; omega) (fun z => ⟨?_, rfl⟩) (fun z => ⟨vp_in_nI (by show a < 200; omega) (by decide), ?_⟩)
    · have z : n ≤ a := z
      show some (if sgN i (hr T n a) then (1 : Int32) else 0) = _
      have e : hr T n a = 300 := if_neg (by omega)
      rw [e, st_300 i hi]; rfl
    · have z : a < n := z
      have tb := (hB.2.2 a z).1
      rw [ix_nI (by show a < _; omega), h.tape hB z]
      have e : hr T n a = T a := if_pos z
      refine ⟨fun q => ⟨?_, rfl⟩, fun q => ⟨?_, rfl⟩⟩
      · show some (if sgN i (hr T n a) then (1 : Int32) else 0) = _
        rw [e, (ix_st i hi _ tb).mp q]; rfl
      · show some (if sgN i (hr T n a) then (1 : Int32) else 0) = _
        have : sgN i (T a) = true := by
          cases w : sgN i (T a) with
          | true => rfl
          | false => exact absurd ((ix_st i hi _ tb).mpr w) q
        rw [e, this]; rfl
theorem CR.f0 {a : Nat} {l : VD} (h : CR n M0 (.inr (a, l)) M) : M 61 4 = 0 := h.2.2.2.2.1
theorem CR.fe {e : Nat} (h : CR n M0 (.inl e) M) : ¬ M 61 4 = 0 := fun z => fv_ne0 h.2.1 h.2.2.1 (h.2.2.2.1.symm.trans z)
theorem CR.le {a : Nat} {l : VD} (h : CR n M0 (.inr (a, l)) M) : a ≤ n ∧ l 0 1 ≤ a ∧ LB l := ⟨h.2.1, h.2.2.1, h.2.2.2.1⟩
theorem c_fail (hn : n ≤ 160) {a : Nat} {l : VD} (h : CR n M0 (.inr (a, l)) M) (w : Nat) (hw : 1 ≤ w) (hw2 : w ≤ 5) {P : Mem → Prop} (k : ∀ M', CR n M0 (.inl (1000 * w + a)) M' → P M') : AMv d iX3_fail [.ref 61, .int (nI w)] M P := by
  obtain ⟨i1, i2, i3, i4, i5, i6⟩ := h.2
  have i1 : a ≤ n := i1
  have i2 : l 0 1 ≤ a := i2
  refine eX3_fail M _ (bX3_fail_0 M _ ⟨fun z => absurd i4 z, fun _ => ⟨rfl, k _ ⟨h.1.w (Or.inr (Or.inr ⟨rfl, Or.inr rfl⟩)), by omega, by omega, ?_, ⟨a, i1, ?_⟩, l 0 1, by omega, ?_⟩⟩⟩)
  · rw [wr_same, i5]; exact fv_eq w a
  · rw [wr_el (by decide)]; exact i5
  · rw [wr_row (by decide)]; exact i6.1
/-- the place one on -/
theorem CR.step {a : Nat} {l : VD} (h : CR n M0 (.inr (a, l)) M) (ha : a < n) : CR n M0 (.inr (a + 1, l)) (wr M 61 3 (M 61 3 + 1)) := by
  obtain ⟨i1, i2, i3, i4, i5, i6⟩ := h.2
  have i2 : l 0 1 ≤ a := i2
  refine ⟨h.1.w (Or.inr (Or.inr ⟨rfl, Or.inl rfl⟩)), by show a + 1 ≤ n; omega, by show l 0 1 ≤ a + 1; omega, i3, ?_, ?_, i6.w (by decide) (by decide) (by decide)⟩
  · rw [wr_el (by decide)]; exact i4
  · rw [wr_same, i5]; exact nI_1 a
theorem c_pass (hB : BT T n M0) (c : Nat) (hc : c < 256) (hd : 1 ≤ d) : CM n M0 d iX3_pass [.ref 61, .int (nI c)] (clo T n c) := by
  obtain ⟨d, rfl⟩ : ∃ d', d = d' + 1 := ⟨d - 1, by omega⟩
  intro r M h
  refine eX3_pass M _ (bX3_pass_0 M _ ?_)
  match r, h with
  | .inl e, h => exact ⟨fun z => absurd z h.fe, fun _ => ⟨rfl, h⟩⟩
  | .inr (a, l), h =>
    refine ⟨fun _ => (c_sign hB h).i ⟨fun z => ?_, fun z => ⟨rfl, ?_⟩⟩, fun z => absurd h.f0 z⟩
    · refine c_fail hB.1 h 1 (by decide) (by decide) (fun M' h' => ⟨rfl, ?_⟩)
      show CR n M0 (clo T n c a l) M'
      rw [clo, if_neg (fun q => z ((sg_eq hB hc).mpr q))]
      exact h'
    · have q := (sg_eq hB hc).mp z
      show CR n M0 (clo T n c a l) _
      rw [clo, if_pos q]
      exact h.step (hr_lt (T := T) (by omega))
/-- an opening sign: k more may be begun -/
theorem c_opens (hB : BT T n M0) {a : Nat} {l : VD} (h : CR n M0 (.inr (a, l)) M) (ha : a < n) (k : Nat) (hk : k ≤ 6) (hd : 1 ≤ d) {P : Mem → Prop} (f : k = 0 → ∀ M', CR n M0 (.inl (5000 + a)) M' → P M') (g : 0 < k → ∀ M', CR n M0 (.inr (a + 1, l)) M' → P M') : AMv d iX3_opens [.ref 61, .int (nI (6 - k))] M P := by
  obtain ⟨d, rfl⟩ : ∃ d', d = d' + 1 := ⟨d - 1, by omega⟩
  refine eX3_opens M _ (bX3_opens_0 M _ (bq_lt _ 6 rfl rfl (by omega) (by omega) (fun z => ⟨rfl, g (by omega) _ (h.step ha)⟩) (fun z => ?_)))
  exact c_fail hB.1 h 5 (by decide) (by decide) (fun M' h' => ⟨rfl, f (by omega) M' h'⟩)
theorem c_addRaw {z : Nat} {g v : Int32} (h : M 53 1 = nI z) (hz : z < 160) {P : Int32 → Mem → Prop} (k : P (nI z) (adM M z g v)) : AMi d iX2_addSign [.ref 53, .int g, .int v] M P := by
  refine eX2_addSign M _ _ (bX2_addSign_0 (Or.inr (Or.inr rfl)) M _ _ ?_)
  rw [h]
  refine bq_le 160 z rfl rfl (by omega) (by omega) (fun q => by omega) (fun _ => ⟨vp_in_nI hz (by decide), ?_⟩)
  have e1 : wr M (53 + 1) (ix (nI z)) g 53 1 = nI z := by rw [wr_row (by decide)]; exact h
  have e2 : wr (wr M (53 + 1) (ix (nI z)) g) (53 + 2) (ix (nI z)) v 53 1 = nI z := by rw [wr_row (by decide)]; exact e1
  rw [e1, e2, ix_nI (by omega), nI_1]
  exact ⟨vp_in_nI hz (by decide), _, rfl, k⟩
theorem c_addSign (h : CR n M0 r M) (hn : n ≤ 160) {g v : Nat} (hr : ∀ a l, r = .inr (a, l) → l 0 1 + 1 ≤ a) (hv : v < 1048576) {P : Int32 → Mem → Prop} (k : ∀ p M', p ≤ 160 → (∀ a l, r = .inr (a, l) → p = l 0 1) → CR n M0 (pb r (fun a l => .inr (a, emit l g v))) M' → P (nI p) M') : AMi d iX2_addSign [.ref 53, .int (nI g), .int (nI v)] M P := by
  match r, h, hr, k with
  | .inl e, h, hr, k =>
    obtain ⟨i1, i2, i3, ⟨a, i4, i5⟩, z, i6, i7⟩ := h.2
    by_cases q : z < 160
    · refine c_addRaw i7 q (k z _ (by omega) (fun a l e => by cases e) ⟨h.1.ad _ _ _, i1, i2, ?_, ⟨a, i4, ?_⟩, z + 1, by omega, ?_⟩)
      · rw [adM_row (by decide) (by decide) (by decide)]; exact i3
      · rw [adM_row (by decide) (by decide) (by decide)]; exact i5
      · rw [adM, wr_same]
    · refine eX2_addSign M _ _ (bX2_addSign_0 (Or.inr (Or.inr rfl)) M _ _ ?_)
      rw [i7]
      exact bq_le 160 z rfl rfl (by omega) (by omega) (fun q => ⟨_, rfl, k z M i6 (fun a l e => by cases e) h⟩) (fun q2 => absurd q2 q)
  | .inr (a, l), h, hr, k =>
    obtain ⟨i1, i2, i3, i4, i5, i6⟩ := h.2
    have i1 : a ≤ n := i1
    have i2 : l 0 1 ≤ a := i2
    have := hr a l rfl
    refine c_addRaw (z := l 0 1) i6.1 (by omega) (k (l 0 1) _ (by omega) (fun a l e => by cases e; rfl) ⟨h.1.ad _ _ _, i1, by show emit l g v 0 1 ≤ a; rw [em_n]; omega, i3.em hv, ?_, ?_, i6.ad g v⟩)
    · rw [adM_row (by decide) (by decide) (by decide)]; exact i4
    · rw [adM_row (by decide) (by decide) (by decide)]; exact i5
theorem c_leap (h : CR n M0 r M) (hn : n ≤ 160) {p : Nat} (hp : p ≤ 160) (hr : ∀ a l, r = .inr (a, l) → p < l 0 1) {P : Mem → Prop} (k : ∀ M', CR n M0 (pb r (fun a l => .inr (a, patch l p))) M' → P M') : AMv d iX2_leapToHere [.ref 53, .int (nI p)] M P := by
  refine eX2_leapToHere M _ (bX2_leapToHere_0 (Or.inr (Or.inr rfl)) M _ ⟨fun z => absurd z (nI_pos (by omega)), fun _ => ?_⟩)
  match r, h, hr, k with
  | .inl e, h, hr, k =>
    obtain ⟨i1, i2, i3, ⟨a, i4, i5⟩, z, i6, i7⟩ := h.2
    rw [i7]
    refine bq_le _ _ rfl rfl (by omega) (by omega) (fun q => ⟨rfl, k M h⟩) (fun q => ⟨vp_in_nI (by omega) (by decide), rfl, k _ ⟨h.1.w (Or.inl (Or.inr rfl)), i1, i2, ?_, ⟨a, i4, ?_⟩, z, i6, ?_⟩⟩)
    · rw [wr_row (by decide)]; exact i3
    · rw [wr_row (by decide)]; exact i5
    · rw [wr_row (by decide)]; exact i7
  | .inr (a, l), h, hr, k =>
    obtain ⟨i1, i2, i3, i4, i5, i6⟩ := h.2
    have i1 : a ≤ n := i1
    have i2 : l 0 1 ≤ a := i2
    have hp2 := hr a l rfl
    rw [i6.1]
    refine bq_le _ _ rfl rfl (by show l 0 1 < _; omega) (by omega) (fun q => by have q : l 0 1 ≤ p := q; omega) (fun q => ⟨vp_in_nI (by omega) (by decide), rfl, k _ ⟨h.1.w (Or.inl (Or.inr rfl)), i1, by show patch l p 0 1 ≤ a; rw [pt_n]; exact i2, i3.pt (by show l 0 1 < _; omega), ?_, ?_, ?_⟩⟩)
    · rw [wr_row (by decide)]; exact i4
    · rw [wr_row (by decide)]; exact i5
    · refine ⟨?_, fun j hj => ?_⟩
      · rw [wr_row (by decide)]; show M 53 1 = nI (patch l p 0 1); rw [pt_n]; exact i6.1
      · have hj : j < patch l p 0 1 := hj
        rw [pt_n] at hj
        have := i6.2 j hj
        rw [wr_row (by decide)]
        refine ⟨?_, ?_⟩
        · show M 54 j = nI (patch l p 1 j); rw [pt_g]; exact this.1
        · show wr M 55 (ix (nI p)) (nI (l 0 1)) 55 j = nI (patch l p 2 j)
          rw [ix_nI (by omega)]
          by_cases e : j = p
          · subst e; rw [wr_same, pt_v]
          · rw [wr_el e, pt_o e]; exact this.2
end CL
