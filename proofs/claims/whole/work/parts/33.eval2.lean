theorem c_reckon {d g : Nat} {M : Mem} {x y : Int32} (hg : (g = 43 ∨ g = 45 ∨ g = 42 ∨ g = 47 ∨ g = 37) ∨ (g = 60 ∨ g = 62 ∨ g = 61)) (hr : refV (nI g) y = 0) : AMp d iX10_reckon [.int (nI (opN g)), .int x, .int y] M (combV (nI g) x y) := by
  have hz : ∀ c : Nat, (c = 47 ∨ c = 37) → g = c → ¬ y = 0 := by
    intro c hc e z
    subst e
    rw [refV, if_pos] at hr
    · cases hr
    · exact ⟨z, by rcases hc with rfl | rfl; exact Or.inl rfl; exact Or.inr rfl⟩
  refine eX10_reckon M _ _ _ (bX10_reckon_0 M _ _ _ ?_)
  rcases hg with (rfl | rfl | rfl | rfl | rfl) | (rfl | rfl | rfl)
  · exact ⟨fun h => absurd h (by decide), fun _ => ⟨rfl, rfl⟩, fun h => absurd h (by decide), fun h => absurd h (by decide), fun h => absurd h (by decide), fun h => absurd h (by decide), fun h => absurd h (by decide), fun h => absurd h (by decide)⟩
  · exact ⟨fun h => absurd h (by decide), fun h => absurd h (by decide), fun _ => ⟨rfl, rfl⟩, fun h => absurd h (by decide), fun h => absurd h (by decide), fun h => absurd h (by decide), fun h => absurd h (by decide), fun h => absurd h (by decide)⟩
  · exact ⟨fun h => absurd h (by decide), fun h => absurd h (by decide), fun h => absurd h (by decide), fun _ => ⟨rfl, rfl⟩, fun h => absurd h (by decide), fun h => absurd h (by decide), fun h => absurd h (by decide), fun h => absurd h (by decide)⟩
  · have z := hz 47 (Or.inl rfl) rfl
    refine ⟨fun h => absurd h (by decide), fun h => absurd h (by decide), fun h => absurd h (by decide), fun h => absurd h (by decide), fun _ => ⟨z, ?_, rfl⟩, fun h => absurd h (by decide), fun h => absurd h (by decide), fun h => absurd h (by decide)⟩
    show some (if y = 0 then 0 else x / y) = _
    rw [if_neg z]
  · have z := hz 37 (Or.inr rfl) rfl
    refine ⟨fun h => absurd h (by decide), fun h => absurd h (by decide), fun h => absurd h (by decide), fun h => absurd h (by decide), fun h => absurd h (by decide), fun _ => ⟨z, ?_, rfl⟩, fun h => absurd h (by decide), fun h => absurd h (by decide)⟩
    show some (if y = 0 then 0 else x - x / y * y) = _
    rw [if_neg z]
  · refine ⟨fun h => absurd h (by decide), fun h => absurd h (by decide), fun h => absurd h (by decide), fun h => absurd h (by decide), fun h => absurd h (by decide), fun h => absurd h (by decide), fun _ => ⟨fun h => ⟨?_, rfl⟩, fun h => ⟨?_, rfl⟩⟩, fun h => absurd h (by decide)⟩
    · show some (if x < y then 1 else 0) = _; rw [if_neg (Int32.not_lt.mpr h)]
    · show some (if x < y then 1 else 0) = _; rw [if_pos (Int32.not_le.mp h)]
  · refine ⟨fun h => absurd h (by decide), fun h => absurd h (by decide), fun h => absurd h (by decide), fun h => absurd h (by decide), fun h => absurd h (by decide), fun h => absurd h (by decide), fun h => absurd h (by decide), fun _ => ⟨fun h => ⟨?_, rfl⟩, fun h => ⟨?_, rfl⟩⟩⟩
    · show some (if y < x then 1 else 0) = _; rw [if_neg (Int32.not_lt.mpr h)]
    · show some (if y < x then 1 else 0) = _; rw [if_pos (Int32.not_le.mp h)]
  · refine ⟨fun _ => ⟨fun h => ⟨?_, rfl⟩, fun h => ⟨?_, rfl⟩⟩, fun h => absurd h (by decide), fun h => absurd h (by decide), fun h => absurd h (by decide), fun h => absurd h (by decide), fun h => absurd h (by decide), fun h => absurd h (by decide), fun h => absurd h (by decide)⟩
    · show some (if x = y then 1 else 0) = _; rw [if_neg h]
    · show some (if x = y then 1 else 0) = _; rw [if_pos h]
theorem opN_lt (g : Nat) : opN g ≤ 12 := by
  unfold opN
  repeat' split
  all_goals omega
theorem code_div {o v : Nat} (ho : o ≤ 12) (hv : v < 1048576) : nI (1048576 * o + v) / 1048576 = nI o ∧ nI (1048576 * o + v) - nI (1048576 * o + v) / 1048576 * 1048576 = nI v := by
  have h1 := pk_div (a := 1048576 * o + v) (d := 1048576) (by omega) (by omega) (by omega)
  have h2 := pk_rem (a := 1048576 * o + v) (d := 1048576) (by omega) (by omega) (by omega)
  rw [show (1048576 * o + v) / 1048576 = o by omega] at h1
  rw [show (1048576 * o + v) % 1048576 = v by omega] at h2
  exact ⟨h1, h2⟩
section COMES
variable {d w a b : Nat} {l : VD} {tb : Bool} {M : Mem}
theorem c_comesTo (hw : w ≤ 1) (hL : LM w M l) (hl : l 0 1 ≤ 160) (hb : b ≤ l 0 1) (hc : codeOK l a b tb) : AMi (d + 1) iX10_comesTo [.ref 77, .int (nI (180 * w + a)), .int (nI (180 * w + b))] M (fun r M' => r = ev l (M 97) a b ∧ ∀ k, k ≠ 96 → M' k = M k) := by
  obtain ⟨hab, ty, t1, t2, tl, t3⟩ := hc
  refine eX10_comesTo M _ _ (bX10_comesTo_0 M _ _ ?_)
  have ebase : (180 : Int32) * (nI (180 * w + a) / 180) = nI (180 * w) := by
    rw [show (180 : Int32) = nI 180 from rfl, pk_div (by omega) (by omega) (by omega), pk_mul]
    congr 1
    omega
  rw [ebase]
  have key : ∀ n k st M', a ≤ k → k ≤ b → b - k < n → stOK (ty k) st → stk M' 96 st → (∀ k, k ≠ 96 → M' k = M k) → AX10_comesTo (d + 1) (fun r M' => ∃ x, r = some x ∧ x = evl l (M 97) b n k st ∧ ∀ k, k ≠ 96 → M' k = M k) 16 [lR 77, none, lI (nI (180 * w + b)), lI (nI st.length), lI (nI (180 * w)), lI (nI (180 * w + k)), none, none] [] M' := by
    intro n
    induction n with
    | zero => intro k st M' _ _ h; omega
    | succ n ih =>
      intro k st M' h1 h2 h3 h4 h5 h6
      have hlen : st.length ≤ 32 := by rw [stOK_len h4]; exact tl k
      have r90 : M' 90 = M 90 := h6 _ (by omega)
      have r97 : M' 97 = M 97 := h6 _ (by omega)
      by_cases hk : b ≤ k
      · have e : k = b := by omega
        subst e
        rw [t2] at h4
        obtain ⟨x, r, rfl, -, h8⟩ := stOK_cons h4
        have hr : r = [] := by have := stOK_len h8; exact List.length_eq_zero_iff.mp this
        subst hr
        refine bX10_comesTo_16 M' _ _ _ _ (bq_le _ _ rfl rfl (by omega) (by omega) (fun _ => ⟨_, rfl, ?_, h6⟩) (fun z => by omega))
        rw [ev_end (Nat.le_refl _)]
        exact h5.1
      · have hk' : ¬ b ≤ k := hk
        have hk : k < b := by omega
        have sk := hL.2.1 k (by omega)
        have hv : l 2 k < 1048576 := by rcases t3 k h1 hk with ⟨-, hv, -⟩ | ⟨-, hv, -⟩ | ⟨-, hv, -⟩ | ⟨-, hv, -⟩ | ⟨-, -, hv, -⟩ <;> omega
        obtain ⟨dv1, dv2⟩ := code_div (opN_lt (l 1 k)) hv
        have ho := opN_lt (l 1 k)
        have vk : vp_in (nI (180 * w + k)) 360 := vp_in_nI (by omega) (by decide)
        refine bX10_comesTo_16 M' _ _ _ _ (bq_le _ _ rfl rfl (by omega) (by omega) (fun z => by omega) (fun _ => ⟨vk, vk, ?_⟩))
        rw [ix_nI (n := 180 * w + k) (by omega), r90, sk, dv2, dv1, nI_1]
        rcases t3 k h1 hk with ⟨hg, -, e, he⟩ | ⟨hg, -, σ, e1, e2⟩ | ⟨hg, -, σ, e1, e2⟩ | ⟨hg, -, σ, e1, e2⟩ | ⟨hg, g1, g2, σ, e1, e2, e3⟩
        · have hl32 : st.length < 32 := by rw [stOK_len h4]; exact he
          have go63 : AX10_comesTo (d + 1) (fun r M' => ∃ x, r = some x ∧ x = evl l (M 97) b (n + 1) k st ∧ ∀ k, k ≠ 96 → M' k = M k) 63 [lR 77, none, lI (nI (180 * w + b)), lI (nI st.length), lI (nI (180 * w)), lI (nI (180 * w + k + 1)), lI (nI (opN (l 1 k))), lI (nI (l 2 k))] [] M' := by
            refine bX10_comesTo_63 M' _ _ _ _ _ _ ?_
            rw [ix_nI (n := st.length) (by omega), ix_nI (n := l 2 k) (by omega), r97, nI_1]
            have vs : vp_in (nI st.length) 180 := vp_in_nI (by omega) (by decide)
            rcases hg with hg | ⟨hg, hg2⟩
            · have o0 : opN (l 1 k) = 0 := by rw [hg]; rfl
              rw [o0]
              refine ⟨fun z => absurd rfl z, fun _ => ⟨vs, ?_⟩⟩
              rw [ev_num hk' hg]
              exact ih (k + 1) (nI (l 2 k) :: st) _ (by omega) (by omega) (by omega) (by rw [e]; exact ⟨fun z => (by cases z), h4⟩) (stk_push h5 _) (fun k' hk' => (wr_row hk').trans (h6 k' hk'))
            · have o1 : opN (l 1 k) = 1 := by rw [hg]; rfl
              rw [o1]
              refine ⟨fun _ => ⟨vp_in_nI hg2 (by decide), vs, ?_⟩, fun z => absurd z (by decide)⟩
              rw [ev_let hk' hg]
              exact ih (k + 1) (M 97 (l 2 k) :: st) _ (by omega) (by omega) (by omega) (by rw [e]; exact ⟨fun z => (by cases z), h4⟩) (stk_push h5 _) (fun k' hk' => (wr_row hk').trans (h6 k' hk'))
          refine ⟨fun _ => go63, fun z0 => ⟨fun z1 => ?_, fun _ => go63⟩⟩
          exfalso
          rcases hg with hg | ⟨hg, hg2⟩
          · exact z0 (by rw [hg]; rfl)
          · exact z1 (by rw [hg]; rfl)
        · rw [e1] at h4
          obtain ⟨x, r, rfl, -, h8⟩ := stOK_cons h4
          obtain ⟨y, r, rfl, -, h9⟩ := stOK_cons h8
          have hr : r.length + 2 ≤ 32 := by simp only [List.length_cons] at hlen; omega
          have E1 : nI (x :: y :: r).length - 1 = nI (r.length + 1) := by simp only [List.length_cons]; exact nI_pred _
          have E3 : nI (r.length + 1) - 1 = nI r.length := nI_pred _
          have hx : M' 96 (r.length + 1) = x := h5.1
          have hy : M' 96 r.length = y := h5.2.1
          rw [E1]
          have go203 : refV (nI (l 1 k)) x = 0 → AX10_comesTo (d + 1) (fun r' M' => ∃ z, r' = some z ∧ z = evl l (M 97) b (n + 1) k (x :: y :: r) ∧ ∀ k, k ≠ 96 → M' k = M k) 203 [lR 77, none, lI (nI (180 * w + b)), lI (nI (r.length + 1)), lI (nI (180 * w)), lI (nI (180 * w + k + 1)), lI (nI (opN (l 1 k))), none] [] M' := by
            intro hrf
            refine bX10_comesTo_203 M' _ _ _ _ _ ?_
            rw [E3, ix_nI (n := r.length + 1) (by omega), ix_nI (n := r.length) (by omega), hx, hy]
            refine ⟨vp_in_nI (by omega) (by decide), vp_in_nI (by omega) (by decide), (c_reckon (Or.inl hg) hrf).i ⟨vp_in_nI (by omega) (by decide), ?_⟩⟩
            rw [ev_op hk' (Or.inl hg), if_pos hrf]
            exact ih (k + 1) (combV (nI (l 1 k)) y x :: r) _ (by omega) (by omega) (by omega) (by rw [e2]; exact ⟨fun z => (by cases z), h9⟩) (stk_push h5.2.2 _) (fun k' hk' => (wr_row hk').trans (h6 k' hk'))
          have go192 : (l 1 k = 47 ∨ l 1 k = 37) → AX10_comesTo (d + 1) (fun r' M' => ∃ z, r' = some z ∧ z = evl l (M 97) b (n + 1) k (x :: y :: r) ∧ ∀ k, k ≠ 96 → M' k = M k) 192 [lR 77, none, lI (nI (180 * w + b)), lI (nI (r.length + 1)), lI (nI (180 * w)), lI (nI (180 * w + k + 1)), lI (nI (opN (l 1 k))), none] [] M' := by
            intro hdv
            refine bX10_comesTo_192 M' _ _ _ _ _ ?_
            rw [ix_nI (n := r.length + 1) (by omega), hx]
            refine ⟨vp_in_nI (by omega) (by decide), fun z => go203 (by rw [refV, if_neg (fun q => z q.1)]), fun z => ⟨_, rfl, ?_, h6⟩⟩
            rw [ev_op hk' (Or.inl hg), if_neg]
            rw [refV, if_pos ⟨z, by rcases hdv with q | q <;> rw [q]; exact Or.inl rfl; exact Or.inr rfl⟩]
            decide
          have nodv : ¬ (l 1 k = 47 ∨ l 1 k = 37) → refV (nI (l 1 k)) x = 0 := by
            intro q
            rw [refV, if_neg]
            rintro ⟨-, q2 | q2⟩
            · exact q (Or.inl ((nI_eq (b := 47) (by omega) (by omega)).mp q2))
            · exact q (Or.inr ((nI_eq (b := 37) (by omega) (by omega)).mp q2))
          have ho5 : opN (l 1 k) = 5 ↔ l 1 k = 47 := by rcases hg with h | h | h | h | h <;> rw [h] <;> decide
          have ho6 : opN (l 1 k) = 6 ↔ l 1 k = 37 := by rcases hg with h | h | h | h | h <;> rw [h] <;> decide
          have hol : 2 ≤ opN (l 1 k) ∧ opN (l 1 k) ≤ 6 := by rcases hg with h | h | h | h | h <;> rw [h] <;> decide
          refine bq_eq _ 0 rfl rfl (by omega) (by omega) (fun z => by omega) (fun _ => bq_ne _ 1 rfl rfl (by omega) (by omega) (fun _ => bq_ne _ 10 rfl rfl (by omega) (by omega) (fun _ => bq_eq _ 11 rfl rfl (by omega) (by omega) (fun z => by omega) (fun _ => bq_ne _ 12 rfl rfl (by omega) (by omega) (fun _ => bq_eq _ 5 rfl rfl (by omega) (by omega) (fun z => go192 (Or.inl (ho5.mp z))) (fun z5 => bq_ne _ 6 rfl rfl (by omega) (by omega) (fun z6 => go203 (nodv (fun q => q.elim (fun q => z5 (ho5.mpr q)) (fun q => z6 (ho6.mpr q))))) (fun z => go192 (Or.inr (ho6.mp z))))) (fun z => by omega))) (fun z => by omega)) (fun z => by omega))
        · rw [e1] at h4
          obtain ⟨x, r, rfl, -, h8⟩ := stOK_cons h4
          obtain ⟨y, r, rfl, -, h9⟩ := stOK_cons h8
          have hr : r.length + 2 ≤ 32 := by simp only [List.length_cons] at hlen; omega
          have E1 : nI (x :: y :: r).length - 1 = nI (r.length + 1) := by simp only [List.length_cons]; exact nI_pred _
          have E3 : nI (r.length + 1) - 1 = nI r.length := nI_pred _
          have hx : M' 96 (r.length + 1) = x := h5.1
          have hy : M' 96 r.length = y := h5.2.1
          rw [E1]
          have hrf : refV (nI (l 1 k)) x = 0 := by
            rw [refV, if_neg]
            rintro ⟨-, q2 | q2⟩
            · have := (nI_eq (b := 47) (by omega) (by omega)).mp q2; omega
            · have := (nI_eq (b := 37) (by omega) (by omega)).mp q2; omega
          have go203 : AX10_comesTo (d + 1) (fun r' M' => ∃ z, r' = some z ∧ z = evl l (M 97) b (n + 1) k (x :: y :: r) ∧ ∀ k, k ≠ 96 → M' k = M k) 203 [lR 77, none, lI (nI (180 * w + b)), lI (nI (r.length + 1)), lI (nI (180 * w)), lI (nI (180 * w + k + 1)), lI (nI (opN (l 1 k))), none] [] M' := by
            refine bX10_comesTo_203 M' _ _ _ _ _ ?_
            rw [E3, ix_nI (n := r.length + 1) (by omega), ix_nI (n := r.length) (by omega), hx, hy]
            refine ⟨vp_in_nI (by omega) (by decide), vp_in_nI (by omega) (by decide), (c_reckon (Or.inr hg) hrf).i ⟨vp_in_nI (by omega) (by decide), ?_⟩⟩
            rw [ev_op hk' (Or.inr hg), if_pos hrf]
            exact ih (k + 1) (combV (nI (l 1 k)) y x :: r) _ (by omega) (by omega) (by omega) (by rw [e2]; exact ⟨fun _ => comb_01 hg _ _, h9⟩) (stk_push h5.2.2 _) (fun k' hk' => (wr_row hk').trans (h6 k' hk'))
          have hol : 7 ≤ opN (l 1 k) ∧ opN (l 1 k) ≤ 9 := by rcases hg with h | h | h <;> rw [h] <;> decide
          refine bq_eq _ 0 rfl rfl (by omega) (by omega) (fun z => by omega) (fun _ => bq_ne _ 1 rfl rfl (by omega) (by omega) (fun _ => bq_ne _ 10 rfl rfl (by omega) (by omega) (fun _ => bq_eq _ 11 rfl rfl (by omega) (by omega) (fun z => by omega) (fun _ => bq_ne _ 12 rfl rfl (by omega) (by omega) (fun _ => bq_eq _ 5 rfl rfl (by omega) (by omega) (fun z => by omega) (fun z5 => bq_ne _ 6 rfl rfl (by omega) (by omega) (fun z6 => go203) (fun z => by omega))) (fun z => by omega))) (fun z => by omega)) (fun z => by omega))
        · rw [e1] at h4
          obtain ⟨x, r, rfl, hx01, h8⟩ := stOK_cons h4
          have hr : r.length + 1 ≤ 32 := by simp only [List.length_cons] at hlen; omega
          have E1 : nI (x :: r).length - 1 = nI r.length := by simp only [List.length_cons]; exact nI_pred _
          have hx : M' 96 r.length = x := h5.1
          rw [E1, ix_nI (n := r.length) (by omega), hx]
          have ho10 : opN (l 1 k) = 10 := by rw [hg]; rfl
          have vr : vp_in (nI r.length) 180 := vp_in_nI (by omega) (by decide)
          have fin := ih (k + 1) ((1 - x) :: r) (wr M' 96 r.length (1 - x)) (by omega) (by omega) (by omega) (by rw [e2]; exact ⟨fun _ => one_sub x (hx01 rfl), h8⟩) (stk_push h5.2 _) (fun k' hk' => (wr_row hk').trans (h6 k' hk'))
          rw [ev_not hk' hg]
          refine bq_eq _ 0 rfl rfl (by omega) (by omega) (fun z => by omega) (fun _ => bq_ne _ 1 rfl rfl (by omega) (by omega) (fun _ => bq_ne _ 10 rfl rfl (by omega) (by omega) (fun z => by omega) (fun _ => ⟨vr, vr, fin⟩)) (fun z => by omega))
        · rw [e1] at h4
          obtain ⟨x, r, rfl, hx01, h8⟩ := stOK_cons h4
          have hr : r.length + 1 ≤ 32 := by simp only [List.length_cons] at hlen; omega
          have E1 : nI (x :: r).length - 1 = nI r.length := by simp only [List.length_cons]; exact nI_pred _
          have hx : M' 96 r.length = x := h5.1
          have go135 : AX10_comesTo (d + 1) (fun r' M' => ∃ z, r' = some z ∧ z = evl l (M 97) b (n + 1) k (x :: r) ∧ ∀ k, k ≠ 96 → M' k = M k) 135 [lR 77, none, lI (nI (180 * w + b)), lI (nI (x :: r).length), lI (nI (180 * w)), lI (nI (180 * w + k + 1)), lI (nI (opN (l 1 k))), lI (nI (l 2 k))] [] M' := by
            refine bX10_comesTo_135 M' _ _ _ _ _ _ ?_
            rw [E1, ix_nI (n := r.length) (by omega), hx, ev_jmp hk' hg]
            have stay : ¬ (x = 0 ↔ ¬ l 1 k = 124) → ∀ s0 : Int32, ¬ x = s0 → AX10_comesTo (d + 1) (fun r' M' => ∃ z, r' = some z ∧ z = (if (x = 0 ↔ ¬ l 1 k = 124) then evl l (M 97) b n (l 2 k) (x :: r) else evl l (M 97) b n (k + 1) r) ∧ ∀ k, k ≠ 96 → M' k = M k) 155 [lR 77, none, lI (nI (180 * w + b)), lI (nI (x :: r).length), lI (nI (180 * w)), lI (nI (180 * w + k + 1)), none, lI (nI (l 2 k))] [.int s0, .int x] M' := by
              intro w0 s0 hs
              rw [if_neg w0]
              refine bX10_comesTo_155 M' _ _ _ _ _ _ _ ⟨fun _ => ?_, fun z => absurd z hs⟩
              rw [E1]
              exact ih (k + 1) r M' (by omega) (by omega) (by omega) (by rw [e2]; exact h8) h5.2 h6
            have leap : (x = 0 ↔ ¬ l 1 k = 124) → ∀ s0 : Int32, x = s0 → AX10_comesTo (d + 1) (fun r' M' => ∃ z, r' = some z ∧ z = (if (x = 0 ↔ ¬ l 1 k = 124) then evl l (M 97) b n (l 2 k) (x :: r) else evl l (M 97) b n (k + 1) r) ∧ ∀ k, k ≠ 96 → M' k = M k) 155 [lR 77, none, lI (nI (180 * w + b)), lI (nI (x :: r).length), lI (nI (180 * w)), lI (nI (180 * w + k + 1)), none, lI (nI (l 2 k))] [.int s0, .int x] M' := by
              intro w0 s0 hs
              rw [if_pos w0]
              refine bX10_comesTo_155 M' _ _ _ _ _ _ _ ⟨fun z => absurd hs z, fun _ => ?_⟩
              rw [nI_add]
              exact ih (l 2 k) (x :: r) M' (by omega) (by omega) (by omega) (by rw [e3]; exact ⟨fun _ => hx01 rfl, h8⟩) h5 h6
            refine ⟨vp_in_nI (by omega) (by decide), ?_⟩
            rcases hg with hg | hg
            · have ho : opN (l 1 k) = 11 := by rw [hg]; rfl
              rw [ho]
              refine ⟨fun _ => ?_, fun z => absurd z (by decide)⟩
              rcases hx01 rfl with rfl | rfl
              · exact leap ⟨fun _ => by omega, fun _ => rfl⟩ 0 rfl
              · exact stay (fun q => absurd (q.mpr (by omega)) (by decide)) 0 (by decide)
            · have ho : opN (l 1 k) = 12 := by rw [hg]; rfl
              rw [ho]
              refine ⟨fun z => absurd rfl z, fun _ => ?_⟩
              rcases hx01 rfl with rfl | rfl
              · exact stay (fun q => q.mp rfl hg) 1 (by decide)
              · exact leap ⟨fun z => absurd z (by decide), fun z => absurd hg z⟩ 1 rfl
          have hol : opN (l 1 k) = 11 ∨ opN (l 1 k) = 12 := by rcases hg with h | h <;> rw [h]; exact Or.inl rfl; exact Or.inr rfl
          refine bq_eq _ 0 rfl rfl (by omega) (by omega) (fun z => by omega) (fun _ => bq_ne _ 1 rfl rfl (by omega) (by omega) (fun _ => bq_ne _ 10 rfl rfl (by omega) (by omega) (fun _ => bq_eq _ 11 rfl rfl (by omega) (by omega) (fun z => go135) (fun _ => bq_ne _ 12 rfl rfl (by omega) (by omega) (fun z => by omega) (fun _ => go135))) (fun z => by omega)) (fun z => by omega))
  have := key 161 a [] M (Nat.le_refl _) (by omega) (by omega) (by rw [t1]; trivial) trivial (fun _ _ => rfl)
  exact this
end COMES
