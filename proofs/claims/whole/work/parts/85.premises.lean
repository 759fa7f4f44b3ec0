/-! what the Statement gives of the start -/
theorem lT1 {w : Cond} (h : w ∈ tables_1_1) : w ∈ lw_tbl := List.mem_append_right _ (List.mem_append_left _ h)
theorem lT2 {w : Cond} (h : w ∈ tables_1_2) : w ∈ lw_tbl := List.mem_append_right _ (List.mem_append_right _ (List.mem_append_left _ h))
theorem lT3 {w : Cond} (h : w ∈ tables_1_3) : w ∈ lw_tbl := List.mem_append_right _ (List.mem_append_right _ (List.mem_append_right _ (List.mem_append_left _ h)))
theorem lT4 {w : Cond} (h : w ∈ tables_1_4) : w ∈ lw_tbl := List.mem_append_right _ (List.mem_append_right _ (List.mem_append_right _ (List.mem_append_right _ (List.mem_append_left _ h))))
theorem lT5 {w : Cond} (h : w ∈ tables_1_5) : w ∈ lw_tbl := List.mem_append_right _ (List.mem_append_right _ (List.mem_append_right _ (List.mem_append_right _ (List.mem_append_right _ (List.mem_append_left _ h)))))
theorem lT6 {w : Cond} (h : w ∈ tables_1_6) : w ∈ lw_tbl := List.mem_append_right _ (List.mem_append_right _ (List.mem_append_right _ (List.mem_append_right _ (List.mem_append_right _ (List.mem_append_right _ (List.mem_append_left _ h))))))
theorem lT7 {w : Cond} (h : w ∈ tables_1_7) : w ∈ lw_tbl := List.mem_append_right _ (List.mem_append_right _ (List.mem_append_right _ (List.mem_append_right _ (List.mem_append_right _ (List.mem_append_right _ (List.mem_append_right _ (h)))))))
theorem nestI_in : ∀ q ∈ nestI, Cond.methodLinkNest q.1 q.2.1 q.2.2.1 q.2.2.2 ∈ lw_tbl := by
  refine List.forall_mem_cons.mpr ⟨lT1 (List.mem_of_getElem? (i := 30) (by decide +kernel)), List.forall_mem_cons.mpr ⟨lT1 (List.mem_of_getElem? (i := 127) (by decide +kernel)), List.forall_mem_cons.mpr ⟨lT1 (List.mem_of_getElem? (i := 143) (by decide +kernel)), List.forall_mem_cons.mpr ⟨lT1 (List.mem_of_getElem? (i := 206) (by decide +kernel)), List.forall_mem_cons.mpr ⟨lT1 (List.mem_of_getElem? (i := 36) (by decide +kernel)), fun _ h => absurd h List.not_mem_nil⟩⟩⟩⟩⟩
theorem nestW_in : ∀ q ∈ nestW, Cond.methodLinkNest q.1 q.2.1 q.2.2.1 q.2.2.2 ∈ lw_tbl := by
  refine List.forall_mem_cons.mpr ⟨lT2 (List.mem_of_getElem? (i := 129) (by decide +kernel)), List.forall_mem_cons.mpr ⟨lT3 (List.mem_of_getElem? (i := 159) (by decide +kernel)), List.forall_mem_cons.mpr ⟨lT4 (List.mem_of_getElem? (i := 48) (by decide +kernel)), List.forall_mem_cons.mpr ⟨lT4 (List.mem_of_getElem? (i := 74) (by decide +kernel)), List.forall_mem_cons.mpr ⟨lT4 (List.mem_of_getElem? (i := 89) (by decide +kernel)), List.forall_mem_cons.mpr ⟨lT4 (List.mem_of_getElem? (i := 119) (by decide +kernel)), fun _ h => absurd h List.not_mem_nil⟩⟩⟩⟩⟩⟩
theorem ao_in : Cond.arrayOver (.object RX2) ∈ lw_tbl := lT1 (List.mem_of_getElem? (i := 141) (by decide +kernel))
theorem ls_in : Cond.laysStatic "java/lang/String" "COMPACT_STRINGS" "Z" ∈ lw_tbl := lT1 (List.mem_of_getElem? (i := 50) (by decide +kernel))
theorem si_in : Cond.initialized "java/lang/String" ∈ lw_tbl := lT1 (List.mem_of_getElem? (i := 4) (by decide +kernel))
theorem sr_in : Cond.stringRef RX4 9 "aiyhkqbjzltr" ∈ lw_tbl := lT1 (List.mem_of_getElem? (i := 40) (by decide +kernel))
theorem sx_in : ∀ q ∈ strT, Cond.stringRef RX3 q.1 q.2.1 ∈ lw_tbl := by
  refine List.forall_mem_cons.mpr ⟨lT2 (List.mem_of_getElem? (i := 163) (by decide +kernel)), List.forall_mem_cons.mpr ⟨lT3 (List.mem_of_getElem? (i := 7) (by decide +kernel)), List.forall_mem_cons.mpr ⟨lT3 (List.mem_of_getElem? (i := 28) (by decide +kernel)), List.forall_mem_cons.mpr ⟨lT3 (List.mem_of_getElem? (i := 37) (by decide +kernel)), List.forall_mem_cons.mpr ⟨lT3 (List.mem_of_getElem? (i := 46) (by decide +kernel)), List.forall_mem_cons.mpr ⟨lT3 (List.mem_of_getElem? (i := 47) (by decide +kernel)), List.forall_mem_cons.mpr ⟨lT3 (List.mem_of_getElem? (i := 48) (by decide +kernel)), List.forall_mem_cons.mpr ⟨lT3 (List.mem_of_getElem? (i := 65) (by decide +kernel)), List.forall_mem_cons.mpr ⟨lT3 (List.mem_of_getElem? (i := 66) (by decide +kernel)), List.forall_mem_cons.mpr ⟨lT3 (List.mem_of_getElem? (i := 71) (by decide +kernel)), List.forall_mem_cons.mpr ⟨lT3 (List.mem_of_getElem? (i := 72) (by decide +kernel)), List.forall_mem_cons.mpr ⟨lT3 (List.mem_of_getElem? (i := 77) (by decide +kernel)), fun _ h => absurd h List.not_mem_nil⟩⟩⟩⟩⟩⟩⟩⟩⟩⟩⟩⟩
def gvL : List Cond := flatC (Jvm.Cond.and given_1 narrow_1)
def tmS (i : Nat) : Term := Term.string RX3 ((strT.map fun q => q.1).getD i 0)
def tmL (_ : Nat) : Term := Term.string RX4 9
def lnS : List Nat := strT.map fun q => q.2.2.length
def byS : List (List Int32) := strT.map fun q => q.2.2
theorem gs_ex : ∀ i, i < 12 → Cond.exactly (tmS i) "java/lang/String" ∈ gvL := by decide +kernel
theorem gs_co : ∀ i, i < 12 → Cond.eq (.field (tmS i) "java/lang/String" "coder" "B") (.int 0) ∈ gvL := by decide +kernel
theorem gs_ar : ∀ i, i < 12 → Cond.arrayOf (.field (tmS i) "java/lang/String" "value" "[B") .byte ∈ gvL := by decide +kernel
theorem gs_le : ∀ i, i < 12 → Cond.eq (.length (.field (tmS i) "java/lang/String" "value" "[B")) (.int (Int32.ofNat (lnS.getD i 0))) ∈ gvL := by decide +kernel
theorem gs_el : ∀ i, i < 12 → ∀ j, j < lnS.getD i 0 → Cond.eq (.elem (.field (tmS i) "java/lang/String" "value" "[B") (.int (Int32.ofNat j))) (.int ((byS.getD i []).getD j 0)) ∈ gvL := by decide +kernel
theorem gs_ne : ∀ i, i < 12 → ∀ j, j < 12 → i ≠ j → Cond.not (Cond.eq (tmS i) (tmS j)) ∈ gvL ∨ Cond.not (Cond.eq (tmS j) (tmS i)) ∈ gvL := by decide +kernel
theorem gl_ex : Cond.exactly (tmL 0) "java/lang/String" ∈ gvL := by decide +kernel
theorem gl_co : Cond.eq (.field (tmL 0) "java/lang/String" "coder" "B") (.int 0) ∈ gvL := by decide +kernel
theorem gl_ar : Cond.arrayOf (.field (tmL 0) "java/lang/String" "value" "[B") .byte ∈ gvL := by decide +kernel
theorem gl_le : Cond.eq (.length (.field (tmL 0) "java/lang/String" "value" "[B")) (.int (Int32.ofNat 12)) ∈ gvL := by decide +kernel
theorem gl_el : ∀ j, j < 12 → Cond.eq (.elem (.field (tmL 0) "java/lang/String" "value" "[B") (.int (Int32.ofNat j))) (.int (lettB.getD j 0)) ∈ gvL := by decide +kernel
theorem gc_in : Cond.eq (.static "java/lang/String" "COMPACT_STRINGS" "Z") (.int 1) ∈ gvL := by decide +kernel
theorem st_len : strT.length = 12 := rfl
theorem start_facts {args : Array Value} {s : State} (hts : ∀ w ∈ lw_tbl, w.before args s = true) (hgv : (Jvm.Cond.and given_1 narrow_1).before args s = true) : ∃ (D : va_G) (g : G3) (aK aV : Nat → Nat) (aS aL : Nat), CST D g s.heap.size aS aL s ∧ (∀ q ∈ nestW, va_Nw (.methodLinkNest q.1 q.2.1 q.2.2.1 q.2.2.2) s) ∧ (∀ (i : Nat) (q : Nat × String × List Int32), strT[i]? = some q → vk_R RX3 q.1 q.2.1 (aK i) s) ∧ vk_S strT.length lnS byS aK aV (fun q => s.heap.size ≤ q) s s.heap := by
  have hTT : ∀ w ∈ TT, w.before args s = true := fun w hw => hts w (tt_in hw)
  have hgl : ∀ c ∈ gvL, c.before args s = true := flat_of_before _ hgv
  have hA : ∀ a : Nat, a < s.heap.size → ¬ (fun q => s.heap.size ≤ q) a := fun a h => Nat.not_le.mpr h
  have hcl : ∀ k : Nat, ∃ cd : ClassId × (Nat → Nat), ∀ q, vwCl[k]? = some q → u_Kn s q.1 q.2.1 q.2.2 cd.1 cd.2 := by
    intro k
    match k with
    | 0 => obtain ⟨c, i, h⟩ := u_known (C := RX0) (T := TX0) (N := 5) (n := 5) hTT uX0 (hTT _ ki_X0); exact ⟨(c, i), fun q hq => by cases hq; exact h⟩
    | 1 => obtain ⟨c, i, h⟩ := u_known (C := RX1) (T := TX1) (N := 3) (n := 3) hTT uX1 (hTT _ ki_X1); exact ⟨(c, i), fun q hq => by cases hq; exact h⟩
    | 2 => obtain ⟨c, i, h⟩ := u_known (C := RX2) (T := TX2) (N := 9) (n := 9) hTT uX2 (hTT _ ki_X2); exact ⟨(c, i), fun q hq => by cases hq; exact h⟩
    | 3 => obtain ⟨c, i, h⟩ := u_known (C := RX3) (T := TX3) (N := 5) (n := 5) hTT uX3 (hTT _ ki_X3); exact ⟨(c, i), fun q hq => by cases hq; exact h⟩
    | 4 => obtain ⟨c, i, h⟩ := u_known (C := RX4) (T := TX4) (N := 1) (n := 1) hTT uX4 (hTT _ ki_X4); exact ⟨(c, i), fun q hq => by cases hq; exact h⟩
    | 5 => obtain ⟨c, i, h⟩ := u_known (C := RX5) (T := TX5) (N := 5) (n := 5) hTT uX5 (hTT _ ki_X5); exact ⟨(c, i), fun q hq => by cases hq; exact h⟩
    | 6 => obtain ⟨c, i, h⟩ := u_known (C := RX6) (T := TX6) (N := 9) (n := 9) hTT uX6 (hTT _ ki_X6); exact ⟨(c, i), fun q hq => by cases hq; exact h⟩
    | 7 => obtain ⟨c, i, h⟩ := u_known (C := RX7) (T := TX7) (N := 2) (n := 2) hTT uX7 (hTT _ ki_X7); exact ⟨(c, i), fun q hq => by cases hq; exact h⟩
    | 8 => obtain ⟨c, i, h⟩ := u_known (C := RX8) (T := TX8) (N := 14) (n := 14) hTT uX8 (hTT _ ki_X8); exact ⟨(c, i), fun q hq => by cases hq; exact h⟩
    | 9 => obtain ⟨c, i, h⟩ := u_known (C := RX9) (T := TX9) (N := 14) (n := 14) hTT uX9 (hTT _ ki_X9); exact ⟨(c, i), fun q hq => by cases hq; exact h⟩
    | 10 => obtain ⟨c, i, h⟩ := u_known (C := RX10) (T := TX10) (N := 66) (n := 66) hTT uX10 (hTT _ ki_X10); exact ⟨(c, i), fun q hq => by cases hq; exact h⟩
    | k + 11 => obtain ⟨c, i, h⟩ := u_known (C := RX4) (T := TX4) (N := 1) (n := 1) hTT uX4 (hTT _ ki_X4); exact ⟨(c, i), fun q hq => by have := (List.getElem?_eq_some_iff.mp hq).1; exact absurd this (by show ¬ k + 11 < 11; omega)⟩
  obtain ⟨cd, hcd⟩ := Classical.axiomOfChoice hcl
  obtain ⟨c1, k1, m1, f1, f2, f3⟩ := Cond.arrayClass_spec (hTT _ ac_i)
  obtain ⟨c2, k2, m2, g1, g2, g3⟩ := Cond.arrayClass_spec (hTT _ ac_b)
  obtain ⟨m3, c3, k3, e1, -, e3, e4, e5⟩ := Cond.arrayOver_spec (hts _ ao_in)
  have hK : va_K (fun k => (cd k).1, fun k => (cd k).2) vwCl (tyD (c1, c2, c3)) s := by
    refine ⟨fun c q hq => hcd c q hq, fun k q hk => ?_⟩
    match k, hk with
    | 0, hk => cases hk; exact ⟨fun n z => ⟨fun k h => (by cases h), k1, f2, m1, f3⟩, f1⟩
    | 1, hk => cases hk; exact ⟨fun n z => ⟨fun k h => (by cases h), k2, g2, m2, g3⟩, g1⟩
    | 2, hk => cases hk; exact ⟨fun n z => ⟨fun k h => (by cases h), k3, e3, m3, e4⟩, k3, m3, e3, e4, e1, e5⟩
    | k + 3, hk => exact absurd (List.getElem?_eq_some_iff.mp hk).1 (by show ¬ k + 3 < 3; omega)
  have hZ : va_Z "java/lang/String" "COMPACT_STRINGS" "Z" (.int 1) (fun q => s.heap.size ≤ q) s s.heap := va_Zof (hts _ ls_in) (hts _ si_in) (va_eqt (hgl _ gc_in)) hA
  obtain ⟨aK, aV, hS, hE⟩ := vk_Sof (args := args) (s := s) (N := 12) (tm := tmS) (len := lnS) (byt := byS) (A := fun q => s.heap.size ≤ q) (by decide +kernel) (fun i hi => hgl _ (gs_ex i hi)) (fun i hi => hgl _ (gs_co i hi)) (fun i hi => hgl _ (gs_ar i hi)) (fun i hi => hgl _ (gs_le i hi)) (fun i hi j hj => hgl _ (gs_el i hi j hj)) (fun i j hi hj hij => (gs_ne i hi j hj hij).imp (hgl _) (hgl _)) hA
  obtain ⟨aS, aL, hSL, hEL⟩ := vk_Sof (args := args) (s := s) (N := 1) (tm := tmL) (len := [12]) (byt := [lettB]) (A := fun q => s.heap.size ≤ q) (by decide +kernel) (fun i hi => hgl _ gl_ex) (fun i hi => hgl _ gl_co) (fun i hi => hgl _ gl_ar) (fun i hi => by rw [show i = 0 by omega]; exact hgl _ gl_le) (fun i hi j hj => by rw [show i = 0 by omega] at hj ⊢; exact hgl _ (gl_el j hj)) (fun i j hi hj hij => by omega) hA
  refine ⟨(fun k => (cd k).1, fun k => (cd k).2), (c1, c2, c3), aK, aV, aS 0, aL 0, ⟨hK, fun q hq => va_tabs rfl rfl (hts _ (nestI_in q hq)), va_AO.of (hts _ ao_in), vk_R.of (hts _ sr_in) (hEL 0 (by omega)), ⟨?_, hZ⟩⟩, fun q hq => va_tabs rfl rfl (hts _ (nestW_in q hq)), fun i q hq => ?_, hS⟩
  · refine ⟨fun i hi => ?_, fun i j hi hj _ => by omega⟩
    have h0 : i = 0 := by omega
    subst h0
    exact hSL.1 0 (by omega)
  · have hi : i < 12 := by have := (List.getElem?_eq_some_iff.mp hq).1; rwa [st_len] at this
    refine vk_R.of (hts _ (sx_in q (List.mem_of_getElem? hq))) ?_
    have h2 := hE i hi
    have h3 : tmS i = Term.string RX3 q.1 := by
      rw [tmS, List.getD_eq_getElem?_getD, List.getElem?_map, hq]; rfl
    rw [h3] at h2
    exact h2
