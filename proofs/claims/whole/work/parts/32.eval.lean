/-! a law's signs reckoned: one way for both -/
def evS (l : VD) (f : Nat → Int32) (t : Nat) (go : Nat → List Int32 → Int32) (k : Nat) (st : List Int32) : Int32 :=
  if t ≤ k then st.headD 0 else if l 1 k = 48 then go (k + 1) (nI (l 2 k) :: st) else if l 1 k = 97 then go (k + 1) (f (l 2 k) :: st) else match st with
    | [] => 0
    | x :: r => if l 1 k = 33 then go (k + 1) ((1 - x) :: r) else if l 1 k = 38 ∨ l 1 k = 124 then (if (x = 0 ↔ ¬ l 1 k = 124) then go (l 2 k) (x :: r) else go (k + 1) r) else match r with
      | [] => 0
      | y :: r => if refV (nI (l 1 k)) x = 0 then go (k + 1) (combV (nI (l 1 k)) y x :: r) else 0
def evl (l : VD) (f : Nat → Int32) (t : Nat) : Nat → Nat → List Int32 → Int32
  | 0, _, _ => 0
  | n + 1, k, st => evS l f t (evl l f t n) k st
section EVR
variable {l : VD} {f : Nat → Int32} {t n k : Nat} {st r : List Int32} {x y : Int32}
theorem ev_end (h : t ≤ k) : evl l f t (n + 1) k st = st.headD 0 := if_pos h
theorem ev_num (h : ¬ t ≤ k) (hg : l 1 k = 48) : evl l f t (n + 1) k st = evl l f t n (k + 1) (nI (l 2 k) :: st) := by
  show evS _ _ _ _ _ _ = _
  unfold evS
  rw [if_neg h, if_pos hg]
theorem ev_let (h : ¬ t ≤ k) (hg : l 1 k = 97) : evl l f t (n + 1) k st = evl l f t n (k + 1) (f (l 2 k) :: st) := by
  show evS _ _ _ _ _ _ = _
  unfold evS
  rw [if_neg h, if_neg (by omega), if_pos hg]
theorem ev_not (h : ¬ t ≤ k) (hg : l 1 k = 33) : evl l f t (n + 1) k (x :: r) = evl l f t n (k + 1) ((1 - x) :: r) := by
  show evS _ _ _ _ _ _ = _
  unfold evS
  rw [if_neg h, if_neg (by omega), if_neg (by omega)]
  dsimp only
  rw [if_pos hg]
theorem ev_jmp (h : ¬ t ≤ k) (hg : l 1 k = 38 ∨ l 1 k = 124) : evl l f t (n + 1) k (x :: r) = if (x = 0 ↔ ¬ l 1 k = 124) then evl l f t n (l 2 k) (x :: r) else evl l f t n (k + 1) r := by
  show evS _ _ _ _ _ _ = _
  unfold evS
  rw [if_neg h, if_neg (by omega), if_neg (by omega)]
  dsimp only
  rw [if_neg (by omega), if_pos hg]
theorem ev_op (h : ¬ t ≤ k) (hg : (l 1 k = 43 ∨ l 1 k = 45 ∨ l 1 k = 42 ∨ l 1 k = 47 ∨ l 1 k = 37) ∨ (l 1 k = 60 ∨ l 1 k = 62 ∨ l 1 k = 61)) : evl l f t (n + 1) k (x :: y :: r) = if refV (nI (l 1 k)) x = 0 then evl l f t n (k + 1) (combV (nI (l 1 k)) y x :: r) else 0 := by
  show evS _ _ _ _ _ _ = _
  unfold evS
  rw [if_neg h, if_neg (by omega), if_neg (by omega)]
  show (if l 1 k = 33 then _ else if l 1 k = 38 ∨ l 1 k = 124 then _ else _) = _
  rw [if_neg (by omega), if_neg (by omega)]
end EVR
def ev (l : VD) (f : Nat → Int32) (a b : Nat) : Int32 := evl l f b 161 a []
def stOK : List Bool → List Int32 → Prop
  | [], [] => True
  | b :: σ, x :: st => (b = true → x = 0 ∨ x = 1) ∧ stOK σ st
  | _, _ => False
theorem stOK_len : ∀ {σ : List Bool} {st : List Int32}, stOK σ st → st.length = σ.length
  | [], [], _ => rfl
  | _ :: _, _ :: _, h => by rw [List.length_cons, List.length_cons, stOK_len h.2]
  | [], _ :: _, h => h.elim
  | _ :: _, [], h => h.elim
theorem stOK_cons {b : Bool} {σ : List Bool} {st : List Int32} (h : stOK (b :: σ) st) : ∃ x r, st = x :: r ∧ (b = true → x = 0 ∨ x = 1) ∧ stOK σ r := by
  cases st with
  | nil => exact h.elim
  | cons x r => exact ⟨x, r, rfl, h.1, h.2⟩
def stk (M : Mem) (row : Nat) : List Int32 → Prop
  | [] => True
  | x :: r => M row r.length = x ∧ stk M row r
theorem stk_wr {M : Mem} {row : Nat} {j : Nat} {x : Int32} : ∀ {st : List Int32}, stk M row st → st.length ≤ j → stk (wr M row j x) row st
  | [], _, _ => trivial
  | y :: r, h, hj => ⟨by rw [List.length_cons] at hj; rw [wr_el (by omega)]; exact h.1, stk_wr h.2 (by rw [List.length_cons] at hj; omega)⟩
theorem stk_push {M : Mem} {row : Nat} {st : List Int32} (h : stk M row st) (x : Int32) : stk (wr M row st.length x) row (x :: st) := ⟨wr_same _ _ _ _, stk_wr h (Nat.le_refl _)⟩
theorem one_sub (x : Int32) (h : x = 0 ∨ x = 1) : 1 - x = 0 ∨ 1 - x = 1 := by rcases h with rfl | rfl <;> decide
theorem comb_01 {g : Nat} (h : g = 60 ∨ g = 62 ∨ g = 61) (x y : Int32) : combV (nI g) x y = 0 ∨ combV (nI g) x y = 1 := by
  rcases h with rfl | rfl | rfl
  · show (if x < y then (1 : Int32) else 0) = 0 ∨ _ = (1 : Int32); by_cases q : x < y
    · right; exact if_pos q
    · left; exact if_neg q
  · show (if y < x then (1 : Int32) else 0) = 0 ∨ _ = (1 : Int32); by_cases q : y < x
    · right; exact if_pos q
    · left; exact if_neg q
  · show (if x = y then (1 : Int32) else 0) = 0 ∨ _ = (1 : Int32); by_cases q : x = y
    · right; exact if_pos q
    · left; exact if_neg q
/-- the kinds are kept: what comes out of a condition is 0 or 1 -/
theorem evl_01 {l : VD} {f : Nat → Int32} {ty : Nat → List Bool} {a t : Nat} (hty : ty t = [true]) (hst : ∀ k, a ≤ k → k < t → stepOK l ty t k) : ∀ n k st, a ≤ k → k ≤ t → t - k < n → stOK (ty k) st → evl l f t n k st = 0 ∨ evl l f t n k st = 1 := by
  intro n
  induction n with
  | zero => intro k st _ _ h; omega
  | succ n ih =>
    intro k st h1 h2 h3 h4
    by_cases hk : t ≤ k
    · rw [ev_end hk]
      have e : k = t := by omega
      rw [e, hty] at h4
      obtain ⟨x, r, rfl, q, -⟩ := stOK_cons h4
      exact q rfl
    · rcases hst k h1 (by omega) with ⟨hg, -, e, -⟩ | ⟨hg, -, σ, e1, e2⟩ | ⟨hg, -, σ, e1, e2⟩ | ⟨hg, -, σ, e1, e2⟩ | ⟨hg, g1, g2, σ, e1, e2, e3⟩
      · rcases hg with hg | ⟨hg, -⟩
        · rw [ev_num hk hg]; exact ih _ _ (by omega) (by omega) (by omega) (by rw [e]; exact ⟨fun z => (by cases z), h4⟩)
        · rw [ev_let hk hg]; exact ih _ _ (by omega) (by omega) (by omega) (by rw [e]; exact ⟨fun z => (by cases z), h4⟩)
      · rw [e1] at h4
        obtain ⟨x, r, rfl, -, h5⟩ := stOK_cons h4
        obtain ⟨y, r, rfl, -, h6⟩ := stOK_cons h5
        rw [ev_op hk (Or.inl hg)]
        split
        · exact ih _ _ (by omega) (by omega) (by omega) (by rw [e2]; exact ⟨fun z => (by cases z), h6⟩)
        · exact Or.inl rfl
      · rw [e1] at h4
        obtain ⟨x, r, rfl, -, h5⟩ := stOK_cons h4
        obtain ⟨y, r, rfl, -, h6⟩ := stOK_cons h5
        rw [ev_op hk (Or.inr hg)]
        split
        · exact ih _ _ (by omega) (by omega) (by omega) (by rw [e2]; exact ⟨fun _ => comb_01 hg _ _, h6⟩)
        · exact Or.inl rfl
      · rw [e1] at h4
        obtain ⟨x, r, rfl, hx, h5⟩ := stOK_cons h4
        rw [ev_not hk hg]
        exact ih _ _ (by omega) (by omega) (by omega) (by rw [e2]; exact ⟨fun _ => one_sub x (hx rfl), h5⟩)
      · rw [e1] at h4
        obtain ⟨x, r, rfl, hx, h5⟩ := stOK_cons h4
        rw [ev_jmp hk hg]
        split
        · exact ih _ _ (by omega) (by omega) (by omega) (by rw [e3]; exact ⟨fun _ => hx rfl, h5⟩)
        · exact ih _ _ (by omega) (by omega) (by omega) (by rw [e2]; exact h5)
theorem ev_01 {l : VD} {f : Nat → Int32} {a b : Nat} (h : codeOK l a b true) (hb : b ≤ 160) : ev l f a b = 0 ∨ ev l f a b = 1 := by
  obtain ⟨hlt, ty, t1, t2, -, t3⟩ := h
  exact evl_01 t2 t3 161 a [] (Nat.le_refl _) (by omega) (by omega) (by rw [t1]; trivial)
section WORTH
variable {d la q a b : Nat} {l : VD} {ty : Nat → List Bool} {tb : Bool} {M : Mem}
theorem isA_rows {la : Nat} (h : isA la) : 37 ≤ la ∧ la ≤ 53 := by rcases h with rfl | rfl | rfl <;> omega
theorem c_worth (h_la : isA la) (hk_q : q < K0) (hc_q : cellD q = .inr (.inl (false, 12))) (hq : q ≠ la + 7) (hL : LC la M l) (hl : l 0 1 ≤ 160) (hb : b ≤ l 0 1) (hc : codeOK l a b tb) : AMi (d + 1) iX2_worth [.ref la, .int (nI a), .int (nI b), .ref q] M (fun r M' => r = ev l (M q) a b ∧ ∀ k, k ≠ la + 7 → M' k = M k) := by
  obtain ⟨hab, ty, t1, t2, tl, t3⟩ := hc
  refine eX2_worth M _ _ (bX2_worth_0 h_la hk_q hc_q M _ _ ?_)
  have key : ∀ n k st dn M', a ≤ k → k ≤ b → b - k < n → stOK (ty k) st → stk M' (la + 7) st → (∀ k, k ≠ la + 7 → M' k = M k) → dn ≤ k → AX2_worth (d + 1) (fun r M' => ∃ x, r = some x ∧ x = evl l (M q) b n k st ∧ ∀ k, k ≠ la + 7 → M' k = M k) 9 [lR la, none, lI (nI b), lR q, lI (nI st.length), lI (nI k), lI (nI dn), none, none] [] M' := by
    intro n
    induction n with
    | zero => intro k st dn M' _ _ h; omega
    | succ n ih =>
      intro k st dn M' h1 h2 h3 h4 h5 h6 h7
      have hlen : st.length ≤ 32 := by rw [stOK_len h4]; exact tl k
      have r1 : M' (la + 1) = M (la + 1) := h6 _ (by omega)
      have r2 : M' (la + 2) = M (la + 2) := h6 _ (by omega)
      have rq : M' q = M q := h6 _ hq
      by_cases hk : b ≤ k
      · have e : k = b := by omega
        subst e
        rw [t2] at h4
        obtain ⟨x, r, rfl, -, h8⟩ := stOK_cons h4
        have hr : r = [] := by have := stOK_len h8; exact List.length_eq_zero_iff.mp this
        subst hr
        have fin : AX2_worth (d + 1) (fun r M' => ∃ y, r = some y ∧ y = evl l (M q) k (n + 1) k [x] ∧ ∀ k, k ≠ la + 7 → M' k = M k) 310 [lR la, none, none, none, lI (nI [x].length), none, none, none, none] [] M' := by
          refine bX2_worth_310 h_la M' _ (bq_le 1 0 rfl rfl (by omega) (by omega) (fun z => by omega) (fun _ => ⟨vp_n 0 (nI_pred 0) (by omega) (by omega), _, rfl, ?_, h6⟩))
          rw [ev_end (Nat.le_refl _), show nI [x].length - 1 = nI 0 from nI_pred 0, ix_nI (by omega)]
          exact h5.1
        exact bX2_worth_9 h_la hk_q hc_q M' _ _ _ _ ⟨fun _ => fin, fun _ => ⟨fun _ => fin, fun _ => bq_le _ _ rfl rfl (by omega) (by omega) (fun _ => fin) (fun z => by omega)⟩⟩
      · have hk : k < b := by omega
        obtain ⟨s1, s2⟩ := hL.2.2.1 k (by omega)
        have hlk : l 1 k < 2 ^ 31 := by rcases t3 k h1 hk with ⟨hg, -⟩ | ⟨hg, -⟩ | ⟨hg, -⟩ | ⟨hg, -⟩ | ⟨hg, -⟩ <;> omega
        have vk : vp_in (nI k) 160 := vp_in_nI (by omega) (by decide)
        -- to the sign's own row, with 'settled'
        have to79 : (∀ s0 : Int32, (∀ x r, st = x :: r → s0 = if (x = 0 ↔ ¬ l 1 k = 124) then 1 else 0) → AX2_worth (d + 1) (fun r M' => ∃ x, r = some x ∧ x = evl l (M q) b (n + 1) k st ∧ ∀ k, k ≠ la + 7 → M' k = M k) 79 [lR la, none, lI (nI b), lR q, lI (nI st.length), lI (nI k), lI (nI dn), lI (nI (l 1 k)), none] [.int s0] M') → AX2_worth (d + 1) (fun r M' => ∃ x, r = some x ∧ x = evl l (M q) b (n + 1) k st ∧ ∀ k, k ≠ la + 7 → M' k = M k) 9 [lR la, none, lI (nI b), lR q, lI (nI st.length), lI (nI k), lI (nI dn), none, none] [] M' := by
          intro K
          refine bX2_worth_9 h_la hk_q hc_q M' _ _ _ _ (bq_le 160 dn rfl rfl (by omega) (by omega) (fun z => by omega) (fun _ => ⟨fun z => absurd z (nI_pos (by omega)), fun _ => bq_le _ _ rfl rfl (by omega) (by omega) (fun z => by omega) (fun _ => ⟨vk, ?_⟩)⟩))
          rw [ix_nI (n := k) (by omega), r1, s1]
          refine bq_le _ 0 rfl rfl (by omega) (by omega) (fun z => ?_) (fun z => ?_)
          · refine bX2_worth_78 h_la hk_q hc_q M' _ _ _ _ _ (K 0 (fun x r e => by rw [e] at z; simp at z))
          · cases st with
            | nil => simp at z
            | cons x r =>
              have e1 : nI (x :: r).length - 1 = nI r.length := by rw [List.length_cons]; exact nI_pred _
              have hr : r.length < 32 := by rw [List.length_cons] at hlen; omega
              rw [e1, ix_nI (by omega), h5.1]
              refine ⟨vp_in_nI hr (by decide), fun q0 => ?_, fun q0 => ?_⟩
              · refine bX2_worth_59 h_la hk_q hc_q M' _ _ _ _ _ _ (bq_ne _ 124 rfl rfl hlk (by decide) (fun q1 => ?_) (fun q1 => ?_))
                · exact bX2_worth_71 h_la hk_q hc_q M' _ _ _ _ _ _ _ ⟨fun z => absurd rfl z, fun _ => K 1 (fun x' r' e => by cases e; rw [if_pos ⟨fun _ => q1, fun _ => q0⟩])⟩
                · exact bX2_worth_71 h_la hk_q hc_q M' _ _ _ _ _ _ _ ⟨fun _ => bX2_worth_78 h_la hk_q hc_q M' _ _ _ _ _ (K 0 (fun x' r' e => by cases e; rw [if_neg (fun w => w.mp q0 q1)])), fun z => absurd z (by decide)⟩
              · refine bX2_worth_59 h_la hk_q hc_q M' _ _ _ _ _ _ (bq_ne _ 124 rfl rfl hlk (by decide) (fun q1 => ?_) (fun q1 => ?_))
                · exact bX2_worth_71 h_la hk_q hc_q M' _ _ _ _ _ _ _ ⟨fun _ => bX2_worth_78 h_la hk_q hc_q M' _ _ _ _ _ (K 0 (fun x' r' e => by cases e; rw [if_neg (fun w => q0 (w.mpr q1))])), fun z => absurd z (by decide)⟩
                · exact bX2_worth_71 h_la hk_q hc_q M' _ _ _ _ _ _ _ ⟨fun z => absurd rfl z, fun _ => K 1 (fun x' r' e => by cases e; rw [if_pos ⟨fun w => absurd w q0, fun w => absurd q1 w⟩])⟩
        refine to79 (fun s0 hs0 => ?_)
        have n48 : ∀ {A B : Prop} {c : Nat}, c < 2 ^ 31 → (l 1 k = c → A) → (¬ l 1 k = c → B) → (nI (l 1 k) = nI c → A) ∧ (¬ nI (l 1 k) = nI c → B) := fun hc f g => bq_eq _ _ rfl rfl hlk hc f g
        rcases t3 k h1 hk with ⟨hg, hv, e, he⟩ | ⟨hg, -, σ, e1, e2⟩ | ⟨hg, -, σ, e1, e2⟩ | ⟨hg, -, σ, e1, e2⟩ | ⟨hg, g1, g2, σ, e1, e2, e3⟩
        · -- a number, a letter
          have hl32 : st.length < 32 := by rw [stOK_len h4]; exact he
          have emin : (if 32 < (nI st.length + 1) then 32 else (nI st.length + 1)) = nI (st.length + 1) := by
            rw [nI_1, if_neg]
            exact nI_nlt (a := 32) (by omega) (by omega)
          have evp : nI (st.length + 1) - 1 = nI st.length := nI_pred _
          have go95 : AX2_worth (d + 1) (fun r M' => ∃ x, r = some x ∧ x = evl l (M q) b (n + 1) k st ∧ ∀ k, k ≠ la + 7 → M' k = M k) 95 [lR la, none, lI (nI b), lR q, lI (nI st.length), lI (nI k), lI (nI dn), lI (nI (l 1 k)), none] [] M' := by
            refine bX2_worth_95 h_la hk_q hc_q M' _ _ _ _ _ ?_
            rw [emin, evp, ix_nI (n := st.length) (by omega), ix_nI (n := k) (by omega), r2, s2, nI_1, nI_1, rq]
            have hvp : vp_in (nI st.length) 32 := vp_in_nI hl32 (by decide)
            refine bq_ne _ 48 rfl rfl hlk (by decide) (fun z => ?_) (fun z => ?_)
            · rcases hg with hg | ⟨hg, hg2⟩
              · exact absurd hg z
              refine ⟨vk, vp_in_nI hg2 (by decide), hvp, ?_⟩
              rw [ix_nI (n := l 2 k) (by omega)]
              have := ih (k + 1) (M q (l 2 k) :: st) (dn + 1) (wr M' (la + 7) st.length (M q (l 2 k))) (by omega) (by omega) (by omega) (by rw [e]; exact ⟨fun z => (by cases z), h4⟩) (stk_push h5 _) (fun k' hk' => (wr_row hk').trans (h6 k' hk')) (by omega)
              rw [ev_let (by omega) hg]
              exact this
            · refine ⟨vk, hvp, ?_⟩
              have := ih (k + 1) (nI (l 2 k) :: st) (dn + 1) (wr M' (la + 7) st.length (nI (l 2 k))) (by omega) (by omega) (by omega) (by rw [e]; exact ⟨fun z => (by cases z), h4⟩) (stk_push h5 _) (fun k' hk' => (wr_row hk').trans (h6 k' hk')) (by omega)
              rw [ev_num (by omega) z]
              exact this
          refine bX2_worth_79 h_la hk_q hc_q M' _ _ _ _ _ _ (bq_eq _ 48 rfl rfl hlk (by decide) (fun _ => go95) (fun z => bq_ne _ 97 rfl rfl hlk (by decide) (fun z2 => by omega) (fun _ => go95)))
        · -- + - * / %
          rw [e1] at h4
          obtain ⟨x, r, rfl, -, h8⟩ := stOK_cons h4
          obtain ⟨y, r, rfl, -, h9⟩ := stOK_cons h8
          have hr : r.length + 2 ≤ 32 := by simp only [List.length_cons] at hlen; omega
          have E1 : nI (x :: y :: r).length - 1 = nI (r.length + 1) := by simp only [List.length_cons]; exact nI_pred _
          have E2 : nI (x :: y :: r).length + (-1) = nI (r.length + 1) := by simp only [List.length_cons]; exact pk_m1 _
          have E3 : nI (r.length + 1) - 1 = nI r.length := nI_pred _
          have hx : M' (la + 7) (r.length + 1) = x := h5.1
          have hy : M' (la + 7) r.length = y := h5.2.1
          have go243 : AX2_worth (d + 1) (fun r' M' => ∃ z, r' = some z ∧ z = evl l (M q) b (n + 1) k (x :: y :: r) ∧ ∀ k, k ≠ la + 7 → M' k = M k) 243 [lR la, none, lI (nI b), lR q, lI (nI (x :: y :: r).length), lI (nI k), lI (nI dn), lI (nI (l 1 k)), none] [] M' := by
            refine bX2_worth_243 h_la hk_q hc_q M' _ _ _ _ _ ?_
            rw [E1, E2, E3, ix_nI (n := r.length + 1) (by omega), ix_nI (n := r.length) (by omega), hx, hy, nI_1, nI_1, ev_op (by omega) (Or.inl hg)]
            refine bq_lt _ 2 rfl rfl (by simp only [List.length_cons]; omega) (by omega) (fun z => by simp only [List.length_cons] at z; omega) (fun _ => ⟨vp_in_nI (by omega) (by decide), fun z => ⟨vp_in_nI (by omega) (by decide), vp_in_nI (by omega) (by decide), vp_in_nI (by omega) (by decide), ?_⟩, fun z => ⟨_, rfl, by rw [if_neg z], h6⟩⟩)
            rw [if_pos z]
            have := ih (k + 1) (combV (nI (l 1 k)) y x :: r) (dn + 1) (wr M' (la + 7) r.length (combV (nI (l 1 k)) y x)) (by omega) (by omega) (by omega) (by rw [e2]; exact ⟨fun z => (by cases z), h9⟩) (stk_push h5.2.2 _) (fun k' hk' => (wr_row hk').trans (h6 k' hk')) (by omega)
            exact this
          refine bX2_worth_79 h_la hk_q hc_q M' _ _ _ _ _ _ (bq_eq _ 48 rfl rfl hlk (by decide) (fun z => by omega) (fun _ => bq_ne _ 97 rfl rfl hlk (by decide) (fun _ => bq_eq _ 124 rfl rfl hlk (by decide) (fun z => by omega) (fun _ => bq_ne _ 38 rfl rfl hlk (by decide) (fun _ => bq_ne _ 33 rfl rfl hlk (by decide) (fun _ => go243) (fun z => by omega)) (fun z => by omega))) (fun z => by omega)))
        · -- < > =
          rw [e1] at h4
          obtain ⟨x, r, rfl, -, h8⟩ := stOK_cons h4
          obtain ⟨y, r, rfl, -, h9⟩ := stOK_cons h8
          have hr : r.length + 2 ≤ 32 := by simp only [List.length_cons] at hlen; omega
          have E1 : nI (x :: y :: r).length - 1 = nI (r.length + 1) := by simp only [List.length_cons]; exact nI_pred _
          have E2 : nI (x :: y :: r).length + (-1) = nI (r.length + 1) := by simp only [List.length_cons]; exact pk_m1 _
          have E3 : nI (r.length + 1) - 1 = nI r.length := nI_pred _
          have hx : M' (la + 7) (r.length + 1) = x := h5.1
          have hy : M' (la + 7) r.length = y := h5.2.1
          have go243 : AX2_worth (d + 1) (fun r' M' => ∃ z, r' = some z ∧ z = evl l (M q) b (n + 1) k (x :: y :: r) ∧ ∀ k, k ≠ la + 7 → M' k = M k) 243 [lR la, none, lI (nI b), lR q, lI (nI (x :: y :: r).length), lI (nI k), lI (nI dn), lI (nI (l 1 k)), none] [] M' := by
            refine bX2_worth_243 h_la hk_q hc_q M' _ _ _ _ _ ?_
            rw [E1, E2, E3, ix_nI (n := r.length + 1) (by omega), ix_nI (n := r.length) (by omega), hx, hy, nI_1, nI_1, ev_op (by omega) (Or.inr hg)]
            refine bq_lt _ 2 rfl rfl (by simp only [List.length_cons]; omega) (by omega) (fun z => by simp only [List.length_cons] at z; omega) (fun _ => ⟨vp_in_nI (by omega) (by decide), fun z => ⟨vp_in_nI (by omega) (by decide), vp_in_nI (by omega) (by decide), vp_in_nI (by omega) (by decide), ?_⟩, fun z => ⟨_, rfl, by rw [if_neg z], h6⟩⟩)
            rw [if_pos z]
            have := ih (k + 1) (combV (nI (l 1 k)) y x :: r) (dn + 1) (wr M' (la + 7) r.length (combV (nI (l 1 k)) y x)) (by omega) (by omega) (by omega) (by rw [e2]; exact ⟨fun _ => comb_01 hg _ _, h9⟩) (stk_push h5.2.2 _) (fun k' hk' => (wr_row hk').trans (h6 k' hk')) (by omega)
            exact this
          refine bX2_worth_79 h_la hk_q hc_q M' _ _ _ _ _ _ (bq_eq _ 48 rfl rfl hlk (by decide) (fun z => by omega) (fun _ => bq_ne _ 97 rfl rfl hlk (by decide) (fun _ => bq_eq _ 124 rfl rfl hlk (by decide) (fun z => by omega) (fun _ => bq_ne _ 38 rfl rfl hlk (by decide) (fun _ => bq_ne _ 33 rfl rfl hlk (by decide) (fun _ => go243) (fun z => by omega)) (fun z => by omega))) (fun z => by omega)))
        · -- !
          rw [e1] at h4
          obtain ⟨x, r, rfl, hx01, h8⟩ := stOK_cons h4
          have hr : r.length + 1 ≤ 32 := by simp only [List.length_cons] at hlen; omega
          have E1 : nI (x :: r).length - 1 = nI r.length := by simp only [List.length_cons]; exact nI_pred _
          have hx : M' (la + 7) r.length = x := h5.1
          refine bX2_worth_79 h_la hk_q hc_q M' _ _ _ _ _ _ ?_
          rw [E1, ix_nI (n := r.length) (by omega), hx, nI_1, nI_1, ev_not (by omega) hg]
          have vr : vp_in (nI r.length) 32 := vp_in_nI (by omega) (by decide)
          have this := ih (k + 1) ((1 - x) :: r) (dn + 1) (wr M' (la + 7) r.length (1 - x)) (by omega) (by omega) (by omega) (by rw [e2]; exact ⟨fun _ => one_sub x (hx01 rfl), h8⟩) (stk_push h5.2 _) (fun k' hk' => (wr_row hk').trans (h6 k' hk')) (by omega)
          exact bq_eq _ 48 rfl rfl hlk (by decide) (fun z => by omega) (fun _ => bq_ne _ 97 rfl rfl hlk (by decide) (fun _ => bq_eq _ 124 rfl rfl hlk (by decide) (fun z => by omega) (fun _ => bq_ne _ 38 rfl rfl hlk (by decide) (fun _ => bq_ne _ 33 rfl rfl hlk (by decide) (fun z => by omega) (fun _ => bq_le _ 0 rfl rfl (by simp only [List.length_cons]; omega) (by omega) (fun z => by simp only [List.length_cons] at z; omega) (fun _ => ⟨vr, vr, this⟩))) (fun z => by omega))) (fun z => by omega))
        · -- & |
          rw [e1] at h4
          obtain ⟨x, r, rfl, hx01, h8⟩ := stOK_cons h4
          have hr : r.length + 1 ≤ 32 := by simp only [List.length_cons] at hlen; omega
          have E1 : nI (x :: r).length - 1 = nI r.length := by simp only [List.length_cons]; exact nI_pred _
          have hs := hs0 x r rfl
          have go161 : AX2_worth (d + 1) (fun r' M' => ∃ z, r' = some z ∧ z = evl l (M q) b (n + 1) k (x :: r) ∧ ∀ k, k ≠ la + 7 → M' k = M k) 161 [lR la, none, lI (nI b), lR q, lI (nI (x :: r).length), lI (nI k), lI (nI dn), none, lI s0] [] M' := by
            rw [ev_jmp (by omega) hg]
            by_cases w : (x = 0 ↔ ¬ l 1 k = 124)
            · rw [if_pos w] at hs ⊢
              subst hs
              refine bX2_worth_161 h_la hk_q hc_q M' _ _ _ _ _ ⟨fun z => absurd z (by decide), fun _ => bX2_worth_179 h_la hk_q hc_q M' _ _ _ _ _ ⟨fun z => absurd z (by decide), fun _ => ⟨vk, ?_⟩⟩⟩
              rw [ix_nI (n := k) (by omega), r2, s2, nI_1]
              exact ih (l 2 k) (x :: r) (dn + 1) M' (by omega) (by omega) (by omega) (by rw [e3]; exact ⟨fun _ => hx01 rfl, h8⟩) h5 h6 (by omega)
            · rw [if_neg w] at hs ⊢
              subst hs
              refine bX2_worth_161 h_la hk_q hc_q M' _ _ _ _ _ ⟨fun _ => bX2_worth_179 h_la hk_q hc_q M' _ _ _ _ _ ⟨fun _ => ?_, fun z => absurd rfl z⟩, fun z => absurd rfl z⟩
              rw [E1, if_neg (nI_pos (by omega)), nI_1, nI_1]
              exact ih (k + 1) r (dn + 1) M' (by omega) (by omega) (by omega) (by rw [e2]; exact h8) h5.2 h6 (by omega)
          exact bX2_worth_79 h_la hk_q hc_q M' _ _ _ _ _ _ (bq_eq _ 48 rfl rfl hlk (by decide) (fun z => by omega) (fun _ => bq_ne _ 97 rfl rfl hlk (by decide) (fun _ => bq_eq _ 124 rfl rfl hlk (by decide) (fun z => go161) (fun _ => bq_ne _ 38 rfl rfl hlk (by decide) (fun z => by omega) (fun _ => go161))) (fun z => by omega)))
  have := key 161 a [] 0 M (Nat.le_refl _) (by omega) (by omega) (by rw [t1]; trivial) trivial (fun _ _ => rfl) (by omega)
  exact this
end WORTH
