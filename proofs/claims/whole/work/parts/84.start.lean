/-! the start: the two new objects, the texts, the classes -/
def M00 : Mem := fun k j => if (k = 1 ∨ k = 12 ∨ k = 23) ∧ j = 11 then 1 else if k = 62 ∧ j = 5 then 1 else if k = 62 ∧ j = 6 then 37 else if k = 77 ∧ j = 3 then 1 else 0
def S00 : SS := fun i r j => if i = 0 ∧ r = 0 ∧ j = 4 then 1 else 0
theorem M00_z {k j : Nat} (h1 : k ≠ 1) (h2 : k ≠ 12) (h3 : k ≠ 23) (h4 : k ≠ 62) (h5 : k ≠ 77) : M00 k j = 0 := by
  rw [M00, if_neg (by omega), if_neg (by omega), if_neg (by omega), if_neg (by omega)]
theorem S00_z {i r j : Nat} (h : ¬ (i = 0 ∧ r = 0 ∧ j = 4)) : S00 i r j = 0 := if_neg h
theorem VC00 : VC 1 M00 (S00 0) := by
  refine ⟨fun i hi => ?_, fun r j h1 h2 hj => ?_⟩
  · match i, hi with
    | 0, _ => rfl
    | 1, _ => rfl
    | 2, _ => rfl
    | 3, _ => rfl
    | 4, _ => rfl
  · show M00 (1 + r) j = nI (S00 0 r j)
    rw [M00_z (by omega) (by omega) (by omega) (by omega) (by omega), S00_z (by omega)]; rfl
theorem VM00 : VM M00 (S00 0) := by
  refine ⟨fun i hi => ?_, fun r j h1 h2 hj => ?_⟩
  · match i, hi with
    | 0, _ => rfl
    | 1, _ => rfl
    | 2, _ => rfl
    | 3, _ => rfl
    | 4, _ => rfl
  · have hr : 78 ≤ rowM r ∧ rowM r ≤ 101 := by
      have : ∀ r, r ≤ 7 → 1 ≤ r → 78 ≤ rowM r ∧ rowM r ≤ 101 := by decide
      exact this r h2 h1
    rw [M00_z (by omega) (by omega) (by omega) (by omega) (by omega), S00_z (by omega)]; rfl
theorem LC00 {a i : Nat} (h : a = 37 ∨ a = 45) (hi : i = 2 ∨ i = 3) : LC a M00 (S00 i) := by
  have z : ∀ r j, S00 i r j = 0 := fun r j => S00_z (by omega)
  refine ⟨?_, ?_, fun k hk => ?_, fun c hc => ?_⟩
  · rw [M00_z (by omega) (by omega) (by omega) (by omega) (by omega), z]; rfl
  · rw [M00_z (by omega) (by omega) (by omega) (by omega) (by omega), z]; rfl
  · rw [z] at hk; omega
  · rw [z] at hc; omega
theorem LM00 {w i : Nat} (hi : i = 2 ∨ i = 3) : LM w M00 (S00 i) := by
  have z : ∀ r j, S00 i r j = 0 := fun r j => S00_z (by omega)
  refine ⟨?_, fun k hk => ?_, fun c hc => ?_⟩
  · rw [M00_z (by omega) (by omega) (by omega) (by omega) (by omega), z]; rfl
  · rw [z] at hk; omega
  · rw [z] at hc; omega
theorem WFL00 {i : Nat} (hi : i = 2 ∨ i = 3) : WFL (S00 i) := by
  have z : ∀ r j, S00 i r j = 0 := fun r j => S00_z (by omega)
  refine ⟨by rw [z]; omega, by rw [z]; omega, fun c hc => ?_⟩
  rw [z] at hc; omega
theorem RC00 : RC M00 S00 := by
  refine ⟨VC00, ⟨rfl, fun h => absurd h (by decide)⟩, ⟨rfl, fun j hj => absurd hj (Nat.not_lt_zero _)⟩, ⟨rfl, fun j hj => absurd hj (Nat.not_lt_zero _)⟩, LC00 (Or.inl rfl) (Or.inl rfl), LC00 (Or.inr rfl) (Or.inr rfl), ?_⟩
  intro v hv j h1 h2
  rcases hv with rfl | rfl | rfl <;> exact M00_z (by omega) (by omega) (by omega) (by omega) (by omega)
theorem RM00 : RM M00 S00 := ⟨VM00, ⟨rfl, fun h => absurd h (by decide)⟩, ⟨rfl, fun j hj => absurd hj (Nat.not_lt_zero _)⟩, ⟨rfl, fun j hj => absurd hj (Nat.not_lt_zero _)⟩, LM00 (Or.inl rfl), LM00 (Or.inr rfl)⟩
theorem WF00 : WF S00 := by
  refine ⟨⟨by decide, by decide, by decide, by decide, by decide, fun j _ => ?_, fun j hj => absurd hj (Nat.not_lt_zero _), fun o ho => absurd ho (Nat.not_lt_zero _)⟩, by decide, fun h => absurd h (by decide), by decide, fun j hj => absurd hj (Nat.not_lt_zero _), by decide, fun j hj => absurd hj (Nat.not_lt_zero _), WFL00 (Or.inl rfl), WFL00 (Or.inr rfl)⟩
  rw [S00_z (by omega), S00_z (by omega), S00_z (by omega), S00_z (by omega), S00_z (by omega)]
  decide
def adF (base : Nat) (aK aV : Nat → Nat) (b : Nat) : Nat → Nat := fun k => if k < 1000 then base + k else if k < 2000 then aK (k - 1000) else if k < 3000 then aV (k - 2000) else b
theorem adF_c {base b k : Nat} {aK aV : Nat → Nat} (h : k < 1000) : adF base aK aV b k = base + k := if_pos h
theorem adF_k {base b i : Nat} {aK aV : Nat → Nat} (h : i < 1000) : adF base aK aV b (1000 + i) = aK i := by
  rw [adF, if_neg (by omega), if_pos (by omega), Nat.add_sub_cancel_left]
theorem adF_v {base b i : Nat} {aK aV : Nat → Nat} (h : i < 1000) : adF base aK aV b (2000 + i) = aV i := by
  rw [adF, if_neg (by omega), if_neg (by omega), if_pos (by omega), Nat.add_sub_cancel_left]
theorem adF_b {base b : Nat} {aK aV : Nat → Nat} : adF base aK aV b 3000 = b := by
  rw [adF, if_neg (by omega), if_neg (by omega), if_neg (by omega)]
theorem AD_base {base b q : Nat} {aK aV : Nat → Nat} (h : AD (adF base aK aV b) q) : base ≤ q := by
  obtain ⟨k, hk, rfl⟩ := h
  rw [adF_c (by have : K0 = 119 := rfl; omega)]; omega
def csAll : List PCl := twC ++ mdC 77
/-! the cells that the constructors make are the cells of the layout -/
def okR (v : Value) : Bool := match v with
  | .ref k => decide (k < 1000)
  | _ => true
def chkC (i : Nat) (c : PCl) (cd : CD) : Bool := match c, cd with
  | .inl q, .inl r => decide (q.1 = r.1) && decide (q.2 = r.2.mapIdx (fun j sd => avl M00 i j sd)) && q.2.all okR
  | .inr (.inl q), .inr (.inl r) => decide (q = r) && decide (i ≠ 1 ∧ i ≠ 12 ∧ i ≠ 23 ∧ i ≠ 62 ∧ i ≠ 77)
  | .inr (.inr rs), .inr (.inr r) => decide (rs = r.map some) && r.all (fun k => decide (k < 1000))
  | _, _ => false
def chkO (i : Nat) : Bool := match csAll[i]? with
  | some c => chkC i c (cellD i)
  | none => false
theorem chk_all : (List.range 119).all chkO = true := by decide +kernel
theorem cvv_ad {base b : Nat} {aK aV : Nat → Nat} {v : Value} (h : okR v = true) : cvv (bA base) v = cvv (adF base aK aV b) v := by
  cases v with
  | ref k =>
    have hk : k < 1000 := of_decide_eq_true h
    show Value.ref (base + k) = Value.ref (adF base aK aV b k)
    rw [adF_c hk]
  | _ => rfl
theorem chkC_ok {g : G3} {base b i : Nat} {aK aV : Nat → Nat} {c : PCl} {cd : CD} (h : chkC i c cd = true) : entP g base c = entC g (adF base aK aV b) M00 i cd := by
  match c, cd, h with
  | .inl q, .inl r, h =>
    obtain ⟨h12, h3⟩ := (Bool.and_eq_true _ _).mp h
    obtain ⟨h1, h2⟩ := (Bool.and_eq_true _ _).mp h12
    have h1 := of_decide_eq_true h1
    have h2 := of_decide_eq_true h2
    show (Sum.inr (q.1, q.2.map (cvv (bA base))) : va_E) = Sum.inr (r.1, sdL (adF base aK aV b) M00 i r.2)
    have e : q.2.map (cvv (bA base)) = sdL (adF base aK aV b) M00 i r.2 := by
      rw [List.map_congr_left (fun v hv => cvv_ad (aK := aK) (aV := aV) (b := b) (List.all_eq_true.mp h3 v hv)), h2, sdL]
      apply List.ext_getElem?
      intro j
      rw [List.getElem?_map, List.getElem?_mapIdx, List.getElem?_mapIdx]
      cases r.2[j]? with
      | none => rfl
      | some sd => exact congrArg some (cvv_avl sd)
    rw [h1, e]
  | .inr (.inl q), .inr (.inl r), h =>
    obtain ⟨h1, h2⟩ := (Bool.and_eq_true _ _).mp h
    have h1 := of_decide_eq_true h1
    have h2 := of_decide_eq_true h2
    subst h1
    show (Sum.inl (if q.1 then g.2.1 else g.1, q.2, .inl (fun _ => 0)) : va_E) = Sum.inl (if q.1 then g.2.1 else g.1, q.2, .inl (M00 i))
    have e : M00 i = fun _ => 0 := funext fun j => M00_z h2.1 h2.2.1 h2.2.2.1 h2.2.2.2.1 h2.2.2.2.2
    rw [e]
  | .inr (.inr rs), .inr (.inr r), h =>
    obtain ⟨h1, h2⟩ := (Bool.and_eq_true _ _).mp h
    have h1 := of_decide_eq_true h1
    subst h1
    show (Sum.inl (g.2.2, (r.map some).length, .inr (.inr (.inr (.inr (fun i => ((r.map some).getD i none).map (bA base)))))) : va_E) = Sum.inl (g.2.2, r.length, .inr (.inr (.inr (.inr (fun i => (r[i]?).map (adF base aK aV b))))))
    have e : (fun i => ((r.map some).getD i none).map (bA base)) = (fun i => (r[i]?).map (adF base aK aV b)) := by
      funext j
      rw [List.getD_eq_getElem?_getD, List.getElem?_map]
      cases hj : r[j]? with
      | none => rfl
      | some k =>
        have hk : k < 1000 := of_decide_eq_true (List.all_eq_true.mp h2 k (List.mem_of_getElem? hj))
        show some (base + k) = some (adF base aK aV b k)
        rw [adF_c hk]
    rw [List.length_map, e]
theorem csAll_len : csAll.length = 119 := by decide +kernel
theorem world_eq (g : G3) (base b : Nat) (aK aV : Nat → Nat) : wsP g base csAll = wsD g (adF base aK aV b) M00 := by
  apply List.ext_getElem?
  intro i
  by_cases hi : i < 119
  · have hc : chkO i = true := List.all_eq_true.mp chk_all i (List.mem_range.mpr hi)
    unfold chkO at hc
    cases h1 : csAll[i]? with
    | none => rw [h1] at hc; cases hc
    | some c =>
      rw [h1] at hc
      rw [wsP_at h1, wsD_at hi, chkC_ok (aK := aK) (aV := aV) (b := b) hc, adF_c (by omega)]; rfl
  · rw [List.getElem?_eq_none (by rw [wsP_len, csAll_len]; omega), List.getElem?_eq_none (by rw [wsD, List.length_map, List.length_range]; show 119 ≤ i; omega)]
