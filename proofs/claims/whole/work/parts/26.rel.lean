/-! writes in numbers; frames; the relations of the two objects to one state -/
def wrN (s : VD) (r j x : Nat) : VD := fun r' j' => if r' = r ∧ j' = j then x else s r' j'
theorem wrN_same (s : VD) (r j x : Nat) : wrN s r j x r j = x := if_pos ⟨rfl, rfl⟩
theorem wrN_ne {s : VD} {r j x r' j' : Nat} (h : ¬ (r' = r ∧ j' = j)) : wrN s r j x r' j' = s r' j' := if_neg h
section VR
variable {M : Mem} {o : Nat} {sl row : Nat → Nat} {s : VD}
theorem VRel.sc (h : VRel M o sl row s) (hinj : ∀ a, a < 5 → ∀ b, b < 5 → sl a = sl b → a = b) (hro : ∀ r, r < 8 → 1 ≤ r → row r ≠ o) {i : Nat} (hi : i < 5) (x : Nat) : VRel (wr M o (sl i) (nI x)) o sl row (wrN s 0 i x) := by
  refine ⟨fun a ha => ?_, fun r j h1 h2 hj => ?_⟩
  · by_cases e : a = i
    · subst e; rw [wr_same, wrN_same]
    · rw [wr_el (fun z => e (hinj a ha i hi z)), wrN_ne (fun z => e z.2)]; exact h.1 a ha
  · rw [wr_row (hro r (by omega) h1), wrN_ne (fun z => by omega)]; exact h.2 r j h1 h2 hj
theorem VRel.rw (h : VRel M o sl row s) (hinj : ∀ a, a < 8 → ∀ b, b < 8 → 1 ≤ a → 1 ≤ b → row a = row b → a = b) (hro : ∀ r, r < 8 → 1 ≤ r → row r ≠ o) {r : Nat} (h1 : 1 ≤ r) (h2 : r < 8) (j x : Nat) : VRel (wr M (row r) j (nI x)) o sl row (wrN s r j x) := by
  refine ⟨fun a ha => ?_, fun q i g1 g2 hi => ?_⟩
  · rw [wr_row (Ne.symm (hro r h2 h1)), wrN_ne (fun z => by omega)]; exact h.1 a ha
  · by_cases e : q = r
    · subst e
      by_cases e2 : i = j
      · subst e2; rw [wr_same, wrN_same]
      · rw [wr_el e2, wrN_ne (fun z => e2 z.2)]; exact h.2 q i g1 g2 hi
    · rw [wr_row (fun z => e (hinj q (by omega) r h2 g1 h1 z)), wrN_ne (fun z => e z.1)]; exact h.2 q i g1 g2 hi
theorem VRel.cg (h : VRel M o sl row s) {M' : Mem} (ho : ∀ i, i < 5 → M' o (sl i) = M o (sl i)) (hr : ∀ r, r < 8 → 1 ≤ r → M' (row r) = M (row r)) : VRel M' o sl row s :=
  ⟨fun i hi => (ho i hi).trans (h.1 i hi), fun r j h1 h2 hj => by rw [hr r (by omega) h1]; exact h.2 r j h1 h2 hj⟩
end VR
theorem slM_inj : ∀ a, a < 5 → ∀ b, b < 5 → slM a = slM b → a = b := by decide
theorem rowM_o : ∀ r, r < 8 → 1 ≤ r → rowM r ≠ 77 := by decide
theorem rowM_inj : ∀ a, a < 8 → ∀ b, b < 8 → 1 ≤ a → 1 ≤ b → rowM a = rowM b → a = b := by decide
theorem slM_mem : ∀ i, i < 5 → slM i ∈ [0, 1, 34, 2, 3] := by decide
theorem rowM_mem : ∀ r, r < 8 → 1 ≤ r → rowM r ∈ [78, 79, 80, 81, 82, 99, 101] := by decide
theorem slK_mem : ∀ i, i < 5 → slK i ∈ [52, 53, 54, 57, 55, 56] := by decide
theorem rowK_mem : ∀ r, r < 8 → 1 ≤ r → rowK r ∈ [111, 112, 113, 114, 115, 116, 118] := by decide
theorem slK_inj : ∀ a, a < 5 → ∀ b, b < 5 → slK a = slK b → a = b := by decide
theorem rowK_o : ∀ r, r < 8 → 1 ≤ r → rowK r ≠ 77 := by decide
theorem rowK_inj : ∀ a, a < 8 → ∀ b, b < 8 → 1 ≤ a → 1 ≤ b → rowK a = rowK b → a = b := by decide
section VR2
variable {M : Mem} {s : VD}
theorem VM.sc (h : VM M s) {i : Nat} (hi : i < 5) (x : Nat) : VM (wr M 77 (slM i) (nI x)) (wrN s 0 i x) := VRel.sc h slM_inj rowM_o hi x
theorem VM.rw (h : VM M s) {r : Nat} (h1 : 1 ≤ r) (h2 : r < 8) (j x : Nat) : VM (wr M (rowM r) j (nI x)) (wrN s r j x) := VRel.rw h rowM_inj rowM_o h1 h2 j x
theorem VC.sc {v : Nat} (h : VC v M s) {i : Nat} (hi : i < 5) (x : Nat) : VC v (wr M v (7 + i) (nI x)) (wrN s 0 i x) := VRel.sc (sl := fun i => 7 + i) h (fun a _ b _ e => by have : 7 + a = 7 + b := e; omega) (fun r _ h1 e => by have : v + r = v := e; omega) hi x
theorem VC.rw {v : Nat} (h : VC v M s) {r : Nat} (h1 : 1 ≤ r) (h2 : r < 8) (j x : Nat) : VC v (wr M (v + r) j (nI x)) (wrN s r j x) := VRel.rw (row := fun r => v + r) h (fun a _ b _ _ _ e => by have : v + a = v + b := e; omega) (fun r _ h1 e => by have : v + r = v := e; omega) h1 h2 j x
end VR2
/-- what may have changed: rows, and slots of one object -/
def Fr (o : Nat) (ks js : List Nat) (M M' : Mem) : Prop := (∀ k, k ∉ ks → k ≠ o → M' k = M k) ∧ ∀ j, j ∉ js → M' o j = M o j
theorem Fr.rf {o : Nat} {ks js : List Nat} {M : Mem} : Fr o ks js M M := ⟨fun _ _ _ => rfl, fun _ _ => rfl⟩
theorem Fr.w {o : Nat} {ks js : List Nat} {M M1 : Mem} (h : Fr o ks js M M1) (k j : Nat) (x : Int32) (hk : k ∈ ks) (hko : k ≠ o) : Fr o ks js M (wr M1 k j x) :=
  ⟨fun q hq ho => (wr_row (fun e => hq (by rw [e]; exact hk))).trans (h.1 q hq ho), fun q hq => by rw [wr_row (Ne.symm hko)]; exact h.2 q hq⟩
theorem Fr.wo {o : Nat} {ks js : List Nat} {M M1 : Mem} (h : Fr o ks js M M1) (j : Nat) (x : Int32) (hj : j ∈ js) : Fr o ks js M (wr M1 o j x) :=
  ⟨fun q hq ho => (wr_row ho).trans (h.1 q hq ho), fun q hq => (wr_el (fun e => hq (by rw [e]; exact hj))).trans (h.2 q hq)⟩
theorem Fr.tr {o : Nat} {ks js : List Nat} {M M1 M2 : Mem} (h : Fr o ks js M M1) (h2 : Fr o ks js M1 M2) : Fr o ks js M M2 := ⟨fun k a b => (h2.1 k a b).trans (h.1 k a b), fun j a => (h2.2 j a).trans (h.2 j a)⟩
theorem Fr.mono {o : Nat} {ks js ks2 js2 : List Nat} {M M' : Mem} (h : Fr o ks js M M') (hk : ∀ k ∈ ks, k ∈ ks2) (hj : ∀ j ∈ js, j ∈ js2) : Fr o ks2 js2 M M' := ⟨fun k a b => h.1 k (fun z => a (hk k z)) b, fun j a => h.2 j (fun z => a (hj j z))⟩
theorem Fr.low {ks js : List Nat} {M M' : Mem} (h : Fr 77 ks js M M') (hk : ∀ k ∈ ks, 77 ≤ k) : FrC M M' := fun k hlt => h.1 k (fun z => by have := hk k z; omega) (by omega)
theorem Fr.high {o : Nat} {ks js : List Nat} {M M' : Mem} (h : Fr o ks js M M') (ho : o < 77) (hk : ∀ k ∈ ks, k < 77) : FrM M M' := fun k hlt => h.1 k (fun z => by have := hk k z; omega) (by omega)
/-! a law, in numbers: row 0: clauses, signs; 1 the signs, 2 their values, 3 a clause's letter, 4 where its E begins, 5 where its C begins, 6 where it ends -/
def opN (g : Nat) : Nat := if g = 48 then 0 else if g = 97 then 1 else if g = 43 then 2 else if g = 45 then 3 else if g = 42 then 4 else if g = 47 then 5 else if g = 37 then 6 else if g = 60 then 7 else if g = 62 then 8 else if g = 61 then 9 else if g = 33 then 10 else if g = 38 then 11 else 12
def LC (a : Nat) (M : Mem) (l : VD) : Prop := M a 0 = nI (l 0 0) ∧ M a 1 = nI (l 0 1) ∧ (∀ k, k < l 0 1 → M (a + 1) k = nI (l 1 k) ∧ M (a + 2) k = nI (l 2 k)) ∧ ∀ c, c < l 0 0 → M (a + 3) c = nI (l 3 c) ∧ M (a + 4) c = nI (l 4 c) ∧ M (a + 5) c = nI (l 5 c) ∧ M (a + 6) c = nI (l 6 c)
def LM (w : Nat) (M : Mem) (l : VD) : Prop := M 91 w = nI (l 0 0) ∧ (∀ k, k < l 0 1 → M 90 (180 * w + k) = nI (1048576 * opN (l 1 k) + l 2 k)) ∧ ∀ c, c < l 0 0 → M 92 (12 * w + c) = nI (l 3 c) ∧ M 93 (12 * w + c) = nI (180 * w + l 4 c) ∧ M 94 (12 * w + c) = nI (180 * w + l 5 c) ∧ M 95 (12 * w + c) = nI (180 * w + l 6 c)
/-- the kinds of what lies on the stack (true: 0 or 1), before sign k; false :: .. the top -/
def stepOK (l : VD) (ty : Nat → List Bool) (t k : Nat) : Prop :=
  ((l 1 k = 48 ∨ l 1 k = 97 ∧ l 2 k < 12) ∧ l 2 k < 1048576 ∧ ty (k + 1) = false :: ty k ∧ (ty k).length < 32) ∨
  ((l 1 k = 43 ∨ l 1 k = 45 ∨ l 1 k = 42 ∨ l 1 k = 47 ∨ l 1 k = 37) ∧ l 2 k = 0 ∧ ∃ σ, ty k = false :: false :: σ ∧ ty (k + 1) = false :: σ) ∨
  ((l 1 k = 60 ∨ l 1 k = 62 ∨ l 1 k = 61) ∧ l 2 k = 0 ∧ ∃ σ, ty k = false :: false :: σ ∧ ty (k + 1) = true :: σ) ∨
  (l 1 k = 33 ∧ l 2 k = 0 ∧ ∃ σ, ty k = true :: σ ∧ ty (k + 1) = true :: σ) ∨
  ((l 1 k = 38 ∨ l 1 k = 124) ∧ k < l 2 k ∧ l 2 k ≤ t ∧ ∃ σ, ty k = true :: σ ∧ ty (k + 1) = σ ∧ ty (l 2 k) = true :: σ)
def codeOK (l : VD) (f t : Nat) (b : Bool) : Prop := f < t ∧ ∃ ty : Nat → List Bool, ty f = [] ∧ ty t = [b] ∧ (∀ k, (ty k).length ≤ 32) ∧ ∀ k, f ≤ k → k < t → stepOK l ty t k
def WFL (l : VD) : Prop := l 0 0 ≤ 12 ∧ l 0 1 ≤ 160 ∧ ∀ c, c < l 0 0 → l 4 c ≤ l 5 c ∧ l 5 c ≤ l 6 c ∧ l 6 c ≤ l 0 1 ∧ (l 3 c = 110 ∨ l 3 c = 103 ∨ l 3 c = 120 ∨ l 3 c = 112) ∧ codeOK l (l 5 c) (l 6 c) true ∧ ((l 3 c = 103 ∨ l 3 c = 112) → codeOK l (l 4 c) (l 5 c) false)
/-! the state: 0 the valley, 1 what is kept, 2, 3 the laws, 4: row 0: kept or not, bytes of the tape, groups; row 1 the tape, row 2 the groups -/
abbrev SS : Type := Nat → VD
def WF (S : SS) : Prop := WFV (S 0) ∧ S 4 0 0 ≤ 1 ∧ (S 4 0 0 = 1 → WFV (S 1)) ∧ S 4 0 1 ≤ 200 ∧ (∀ j, j < S 4 0 1 → S 4 1 j < 256) ∧ S 4 0 2 ≤ 12 ∧ (∀ j, j < S 4 0 2 → 0 < S 4 2 j ∧ S 4 2 j < 4096) ∧ WFL (S 2) ∧ WFL (S 3)
def KM (M : Mem) (S : SS) : Prop := M 77 52 = nI (S 4 0 0) ∧ (S 4 0 0 = 1 → VK M (S 1))
def TM (M : Mem) (S : SS) : Prop := M 77 10 = nI (S 4 0 1) ∧ ∀ j, j < S 4 0 1 → M 83 j &&& 255 = nI (S 4 1 j)
def GM (M : Mem) (S : SS) : Prop := M 77 50 = nI (S 4 0 2) ∧ ∀ j, j < S 4 0 2 → M 110 j = nI (S 4 2 j)
def RM (M : Mem) (S : SS) : Prop := VM M (S 0) ∧ KM M S ∧ TM M S ∧ GM M S ∧ LM 0 M (S 2) ∧ LM 1 M (S 3)
def KC (M : Mem) (S : SS) : Prop := M 0 13 = nI (S 4 0 0) ∧ (S 4 0 0 = 1 → VC 12 M (S 1))
def TC (M : Mem) (S : SS) : Prop := M 34 1 = nI (S 4 0 1) ∧ ∀ j, j < S 4 0 1 → M 35 j = nI (S 4 1 j)
def GC (M : Mem) (S : SS) : Prop := M 0 12 = nI (S 4 0 2) ∧ ∀ j, j < S 4 0 2 → M 76 j = nI (S 4 2 j)
/-- in a valley's letters nobody is sworn to -/
def ZC (M : Mem) : Prop := ∀ v, isV v → ∀ j, 6 ≤ j → j ≤ 9 → M (v + 10) j = 0
def RC (M : Mem) (S : SS) : Prop := VC 1 M (S 0) ∧ KC M S ∧ TC M S ∧ GC M S ∧ LC 37 M (S 2) ∧ LC 45 M (S 3) ∧ ZC M
theorem VM.cg {M M' : Mem} {s : VD} (h : VM M s) (hf : FrM M M') : VM M' s := VRel.cg h (fun i _ => by rw [hf 77 (by omega)]) (fun r h1 h2 => hf _ (by revert r; decide))
theorem RM.cg {M M' : Mem} {S : SS} (h : RM M S) (hf : FrM M M') : RM M' S := by
  obtain ⟨h1, h2, h3, h4, h5, h6⟩ := h
  have e := fun k (hk : 77 ≤ k) => hf k hk
  refine ⟨h1.cg hf, ⟨by rw [e 77 (by omega)]; exact h2.1, fun q => VRel.cg (h2.2 q) (fun i _ => by rw [e 77 (by omega)]) (fun r h1 h2 => e _ (by revert r; decide))⟩, ?_, ?_, ?_, ?_⟩
  · rw [TM, e 77 (by omega), e 83 (by omega)]; exact h3
  · rw [GM, e 77 (by omega), e 110 (by omega)]; exact h4
  · rw [LM, e 91 (by omega), e 90 (by omega), e 92 (by omega), e 93 (by omega), e 94 (by omega), e 95 (by omega)]; exact h5
  · rw [LM, e 91 (by omega), e 90 (by omega), e 92 (by omega), e 93 (by omega), e 94 (by omega), e 95 (by omega)]; exact h6
theorem VC.cg {v : Nat} {M M' : Mem} {s : VD} (h : VC v M s) (ho : M' v = M v) (hr : ∀ r, 1 ≤ r → r ≤ 7 → M' (v + r) = M (v + r)) : VC v M' s := VRel.cg h (fun i _ => by rw [ho]) (fun r h1 h2 => hr r h2 (by omega))
theorem LC.cg {a : Nat} {M M' : Mem} {l : VD} (h : LC a M l) (hr : ∀ r, r ≤ 6 → M' (a + r) = M (a + r)) : LC a M' l := by
  have h0 := hr 0 (by omega)
  rw [LC, show M' a = M a from h0, hr 1 (by omega), hr 2 (by omega), hr 3 (by omega), hr 4 (by omega), hr 5 (by omega), hr 6 (by omega)]
  exact h
/-- the class's rows that last -/
def PCr (k : Nat) : Prop := k = 0 ∨ (1 ≤ k ∧ k ≤ 8) ∨ (12 ≤ k ∧ k ≤ 19) ∨ k = 34 ∨ k = 35 ∨ (37 ≤ k ∧ k ≤ 43) ∨ (45 ≤ k ∧ k ≤ 51) ∨ k = 76
theorem RC.cg {M M' : Mem} {S : SS} (h : RC M S) (hf : ∀ k, PCr k → M' k = M k) (hz : ZC M') : RC M' S := by
  obtain ⟨h1, h2, h3, h4, h5, h6, h7⟩ := h
  refine ⟨h1.cg (hf 1 (by unfold PCr; omega)) (fun r a b => hf _ (by unfold PCr; omega)), ⟨by rw [hf 0 (by unfold PCr; omega)]; exact h2.1, fun q => (h2.2 q).cg (hf 12 (by unfold PCr; omega)) (fun r a b => hf _ (by unfold PCr; omega))⟩, ?_, ?_, h5.cg (fun r hr => hf _ (by unfold PCr; omega)), h6.cg (fun r hr => hf _ (by unfold PCr; omega)), hz⟩
  · rw [TC, hf 34 (by unfold PCr; omega), hf 35 (by unfold PCr; omega)]; exact h3
  · rw [GC, hf 0 (by unfold PCr; omega), hf 76 (by unfold PCr; omega)]; exact h4
theorem ZC.cg {M M' : Mem} (h : ZC M) (h1 : M' 11 = M 11) (h2 : M' 22 = M 22) (h3 : M' 33 = M 33) : ZC M' := by
  intro v hv j a b
  have := h v hv j a b
  rcases hv with rfl | rfl | rfl
  · rw [show M' (1 + 10) = M (1 + 10) from h1]; exact this
  · rw [show M' (12 + 10) = M (12 + 10) from h2]; exact this
  · rw [show M' (23 + 10) = M (23 + 10) from h3]; exact this
theorem RC.frC {M M' : Mem} {S : SS} (h : RC M S) (hf : FrC M M') : RC M' S := h.cg (fun k hk => hf k (by unfold PCr at hk; omega)) (h.2.2.2.2.2.2.cg (hf 11 (by omega)) (hf 22 (by omega)) (hf 33 (by omega)))
/-- the model's frame: which parts of the state stay -/
theorem VM.fr {M M' : Mem} {s : VD} {ks js : List Nat} (h : VM M s) (hf : Fr 77 ks js M M') (hk : (ks.all fun k => decide (k ∉ [78, 79, 80, 81, 82, 99, 101])) = true) (hj : (js.all fun j => decide (j ∉ [0, 1, 34, 2, 3])) = true) : VM M' s := by
  refine VRel.cg h (fun i hi => hf.2 _ (fun z => ?_)) (fun r h1 h2 => hf.1 _ (fun z => ?_) (rowM_o r h1 h2))
  · have := of_decide_eq_true (List.all_eq_true.mp hj _ z)
    exact this (slM_mem i hi)
  · have := of_decide_eq_true (List.all_eq_true.mp hk _ z)
    exact this (rowM_mem r h1 h2)
theorem KM.fr {M M' : Mem} {S : SS} {ks js : List Nat} (h : KM M S) (hf : Fr 77 ks js M M') (hk : (ks.all fun k => decide (k ∉ [111, 112, 113, 114, 115, 116, 118])) = true) (hj : (js.all fun j => decide (j ∉ [52, 53, 54, 57, 55, 56])) = true) : KM M' S := by
  have hjn : ∀ j, j ∈ js → j ∉ [52, 53, 54, 57, 55, 56] := fun j z => of_decide_eq_true (List.all_eq_true.mp hj _ z)
  refine ⟨by rw [hf.2 52 (fun z => hjn _ z (by decide))]; exact h.1, fun q => VRel.cg (h.2 q) (fun i hi => hf.2 _ (fun z => ?_)) (fun r h1 h2 => hf.1 _ (fun z => ?_) (rowK_o r h1 h2))⟩
  · exact hjn _ z (slK_mem i hi)
  · have := of_decide_eq_true (List.all_eq_true.mp hk _ z)
    exact this (rowK_mem r h1 h2)
theorem TM.fr {M M' : Mem} {S : SS} {ks js : List Nat} (h : TM M S) (hf : Fr 77 ks js M M') (hk : decide (83 ∉ ks) = true) (hj : decide (10 ∉ js) = true) : TM M' S := by
  rw [TM, hf.2 10 (of_decide_eq_true hj), hf.1 83 (of_decide_eq_true hk) (by omega)]; exact h
theorem GM.fr {M M' : Mem} {S : SS} {ks js : List Nat} (h : GM M S) (hf : Fr 77 ks js M M') (hk : decide (110 ∉ ks) = true) (hj : decide (50 ∉ js) = true) : GM M' S := by
  rw [GM, hf.2 50 (of_decide_eq_true hj), hf.1 110 (of_decide_eq_true hk) (by omega)]; exact h
theorem LM.fr {w : Nat} {l : VD} {M M' : Mem} {ks js : List Nat} (h : LM w M l) (hf : Fr 77 ks js M M') (hk : (ks.all fun k => decide (k ∉ [90, 91, 92, 93, 94, 95])) = true) : LM w M' l := by
  have hkn : ∀ k, k ∈ [90, 91, 92, 93, 94, 95] → k ∉ ks := fun k z w => of_decide_eq_true (List.all_eq_true.mp hk _ w) z
  rw [LM, hf.1 91 (hkn _ (by decide)) (by omega), hf.1 90 (hkn _ (by decide)) (by omega), hf.1 92 (hkn _ (by decide)) (by omega), hf.1 93 (hkn _ (by decide)) (by omega), hf.1 94 (hkn _ (by decide)) (by omega), hf.1 95 (hkn _ (by decide)) (by omega)]; exact h
