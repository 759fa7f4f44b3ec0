/-! a TEXT read: one way for both. T its bytes, n how many; what comes out: a fault, or a place and the signs so far -/
abbrev PR : Type := Nat ⊕ (Nat × VD)
def pb (r : PR) (f : Nat → VD → PR) : PR := match r with
  | .inl e => .inl e
  | .inr q => f q.1 q.2
theorem pb_l {r : PR} {f : Nat → VD → PR} {e : Nat} (h : r = .inl e) : pb r f = .inl e := by rw [h]; rfl
theorem pb_r {r : PR} {f : Nat → VD → PR} {a : Nat} {l : VD} (h : r = .inr (a, l)) : pb r f = f a l := by rw [h]; rfl
theorem pb_inr {r : PR} {f : Nat → VD → PR} {q : Nat × VD} (h : pb r f = .inr q) : ∃ a l, r = .inr (a, l) ∧ f a l = .inr q := by
  match r, h with
  | .inr (a, l), h => exact ⟨a, l, rfl, h⟩
  | .inl e, h => cases h
def emit (l : VD) (g v : Nat) : VD := wrN (wrN (wrN l 1 (l 0 1) g) 2 (l 0 1) v) 0 1 (l 0 1 + 1)
def patch (l : VD) (p : Nat) : VD := wrN l 2 p (l 0 1)
section EM
variable {l : VD} {g v p k r : Nat}
theorem em_n : emit l g v 0 1 = l 0 1 + 1 := wrN_same _ _ _ _
theorem em_g : emit l g v 1 (l 0 1) = g := by rw [emit, wrN_ne (by omega), wrN_ne (by omega), wrN_same]
theorem em_v : emit l g v 2 (l 0 1) = v := by rw [emit, wrN_ne (by omega), wrN_same]
theorem em_o1 (h : k ≠ l 0 1) : emit l g v 1 k = l 1 k := by rw [emit, wrN_ne (by omega), wrN_ne (by omega), wrN_ne (by omega)]
theorem em_o2 (h : k ≠ l 0 1) : emit l g v 2 k = l 2 k := by rw [emit, wrN_ne (by omega), wrN_ne (by omega), wrN_ne (by omega)]
theorem em_c : emit l g v 0 0 = l 0 0 := by rw [emit, wrN_ne (by omega), wrN_ne (by omega), wrN_ne (by omega)]
theorem em_r (h : 3 ≤ r) : emit l g v r k = l r k := by rw [emit, wrN_ne (by omega), wrN_ne (by omega), wrN_ne (by omega)]
theorem pt_n : patch l p 0 1 = l 0 1 := wrN_ne (by omega)
theorem pt_g : patch l p 1 k = l 1 k := wrN_ne (by omega)
theorem pt_v : patch l p 2 p = l 0 1 := wrN_same _ _ _ _
theorem pt_o (h : k ≠ p) : patch l p 2 k = l 2 k := wrN_ne (by omega)
theorem pt_c : patch l p 0 0 = l 0 0 := wrN_ne (by omega)
theorem pt_r (h : 3 ≤ r) : patch l p r k = l r k := wrN_ne (by omega)
end EM
def LB (l : VD) : Prop := ∀ k, k < l 0 1 → l 2 k < 1048576
/-- what stood before stands -/
def Ag (l l' : VD) : Prop := (∀ k, k < l 0 1 → l' 1 k = l 1 k ∧ l' 2 k = l 2 k) ∧ l' 0 0 = l 0 0 ∧ ∀ r k, 3 ≤ r → l' r k = l r k
theorem Ag.rf (l : VD) : Ag l l := ⟨fun _ _ => ⟨rfl, rfl⟩, rfl, fun _ _ _ => rfl⟩
theorem Ag.tr {l l1 l2 : VD} (h : Ag l l1) (hn : l 0 1 ≤ l1 0 1) (h2 : Ag l1 l2) : Ag l l2 := ⟨fun k hk => ⟨(h2.1 k (by omega)).1.trans (h.1 k hk).1, (h2.1 k (by omega)).2.trans (h.1 k hk).2⟩, h2.2.1.trans h.2.1, fun r k hr => (h2.2.2 r k hr).trans (h.2.2 r k hr)⟩
theorem Ag.em (l : VD) (g v : Nat) : Ag l (emit l g v) := ⟨fun k hk => ⟨em_o1 (by omega), em_o2 (by omega)⟩, em_c, fun r k hr => em_r hr⟩
theorem Ag.pt {l l1 : VD} (h : Ag l l1) {p : Nat} (hp : l 0 1 ≤ p) : Ag l (patch l1 p) := ⟨fun k hk => ⟨pt_g.trans (h.1 k hk).1, (pt_o (by omega)).trans (h.1 k hk).2⟩, pt_c.trans h.2.1, fun r k hr => (pt_r hr).trans (h.2.2 r k hr)⟩
theorem LB.em {l : VD} (h : LB l) {g v : Nat} (hv : v < 1048576) : LB (emit l g v) := by
  intro k hk
  rw [em_n] at hk
  by_cases e : k = l 0 1
  · subst e; rw [em_v]; exact hv
  · rw [em_o2 e]; exact h k (by omega)
theorem LB.pt {l : VD} (h : LB l) (hn : l 0 1 < 1048576) {p : Nat} : LB (patch l p) := by
  intro k hk
  rw [pt_n] at hk
  by_cases e : k = p
  · subst e; rw [pt_v]; exact hn
  · rw [pt_o e]; exact h k hk
/-! the kinds -/
def Ty (l : VD) (f t : Nat) (σ τ : List Bool) : Prop := f ≤ t ∧ ∃ ty : Nat → List Bool, ty f = σ ∧ ty t = τ ∧ (∀ k, f ≤ k → k ≤ t → (ty k).length ≤ 32) ∧ ∀ k, f ≤ k → k < t → stepOK l ty t k
theorem stepOK.cg {l : VD} {ty ty1 : Nat → List Bool} {m t k : Nat} (h : stepOK l ty1 m k) (hk : k < m) (hm : m ≤ t) (e : ∀ j, k ≤ j → j ≤ m → ty j = ty1 j) : stepOK l ty t k := by
  have e1 := e k (by omega) (by omega)
  have e2 := e (k + 1) (by omega) (by omega)
  rcases h with h | h | h | h | ⟨g, h1, h2, σ, h3, h4, h5⟩
  · exact Or.inl (by rw [e1, e2]; exact h)
  · exact Or.inr (Or.inl (by rw [e1, e2]; exact h))
  · exact Or.inr (Or.inr (Or.inl (by rw [e1, e2]; exact h)))
  · exact Or.inr (Or.inr (Or.inr (Or.inl (by rw [e1, e2]; exact h))))
  · exact Or.inr (Or.inr (Or.inr (Or.inr ⟨g, h1, by omega, σ, e1.trans h3, e2.trans h4, (e _ (by omega) h2).trans h5⟩)))
theorem Ty.cg {l l' : VD} {f t : Nat} {σ τ : List Bool} (h : Ty l f t σ τ) (e : ∀ k, f ≤ k → k < t → l' 1 k = l 1 k ∧ l' 2 k = l 2 k) : Ty l' f t σ τ := by
  obtain ⟨h0, ty, h1, h2, h3, h4⟩ := h
  refine ⟨h0, ty, h1, h2, h3, fun k a b => ?_⟩
  have := h4 k a b
  unfold stepOK at this ⊢
  rw [(e k a b).1, (e k a b).2]
  exact this
theorem Ty.rf {l : VD} {f : Nat} {σ : List Bool} (h : σ.length ≤ 32) : Ty l f f σ σ := ⟨Nat.le_refl _, fun _ => σ, rfl, rfl, fun _ _ _ => h, fun k a b => by omega⟩
theorem Ty.app {l : VD} {f m t : Nat} {σ τ ρ : List Bool} (h : Ty l f m σ τ) (g : Ty l m t τ ρ) : Ty l f t σ ρ := by
  obtain ⟨h0, t1, h1, h2, h3, h4⟩ := h
  obtain ⟨g0, t2, g1, g2, g3, g4⟩ := g
  have e1 : ∀ j, j ≤ m → (if j ≤ m then t1 j else t2 j) = t1 j := fun j hj => if_pos hj
  have e2 : ∀ j, m ≤ j → (if j ≤ m then t1 j else t2 j) = t2 j := fun j hj => by
    by_cases q : j ≤ m
    · have : j = m := by omega
      subst this
      rw [if_pos q, h2, g1]
    · exact if_neg q
  refine ⟨by omega, fun j => if j ≤ m then t1 j else t2 j, (e1 f h0).trans h1, (e2 t g0).trans g2, fun k a b => ?_, fun k a b => ?_⟩
  · show (if k ≤ m then t1 k else t2 k).length ≤ 32
    by_cases q : k ≤ m
    · rw [e1 k q]; exact h3 k a q
    · rw [e2 k (by omega)]; exact g3 k (by omega) b
  · by_cases q : k < m
    · exact (h4 k a q).cg q g0 (fun j _ hj => e1 j hj)
    · exact (g4 k (by omega) b).cg b (Nat.le_refl _) (fun j hj _ => e2 j (by omega))
section TY1
variable {l : VD} {k : Nat} {σ τ : List Bool}
theorem Ty.one (h1 : σ.length ≤ 32) (h2 : τ.length ≤ 32) (h : ∀ ty : Nat → List Bool, ty k = σ → ty (k + 1) = τ → stepOK l ty (k + 1) k) : Ty l k (k + 1) σ τ := by
  have e1 : (fun j => if j ≤ k then σ else τ) k = σ := if_pos (Nat.le_refl _)
  have e2 : (fun j => if j ≤ k then σ else τ) (k + 1) = τ := if_neg (by omega)
  refine ⟨by omega, fun j => if j ≤ k then σ else τ, e1, e2, fun j a b => ?_, fun j a b => ?_⟩
  · show (if j ≤ k then σ else τ).length ≤ 32
    split
    · exact h1
    · exact h2
  · have : j = k := by omega
    subst this
    exact h _ e1 e2
theorem Ty.num (hg : l 1 k = 48 ∨ l 1 k = 97 ∧ l 2 k < 12) (hv : l 2 k < 1048576) (hs : σ.length < 32) : Ty l k (k + 1) σ (false :: σ) := Ty.one (by omega) (by rw [List.length_cons]; omega) (fun ty a b => Or.inl ⟨hg, hv, by rw [a, b], by rw [a]; exact hs⟩)
theorem Ty.opr (hg : l 1 k = 43 ∨ l 1 k = 45 ∨ l 1 k = 42 ∨ l 1 k = 47 ∨ l 1 k = 37) (hv : l 2 k = 0) (hs : σ.length + 2 ≤ 32) : Ty l k (k + 1) (false :: false :: σ) (false :: σ) := Ty.one (by simp only [List.length_cons]; omega) (by simp only [List.length_cons]; omega) (fun ty a b => Or.inr (Or.inl ⟨hg, hv, σ, a, b⟩))
theorem Ty.cmp (hg : l 1 k = 60 ∨ l 1 k = 62 ∨ l 1 k = 61) (hv : l 2 k = 0) (hs : σ.length + 2 ≤ 32) : Ty l k (k + 1) (false :: false :: σ) (true :: σ) := Ty.one (by simp only [List.length_cons]; omega) (by simp only [List.length_cons]; omega) (fun ty a b => Or.inr (Or.inr (Or.inl ⟨hg, hv, σ, a, b⟩)))
theorem Ty.nt (hg : l 1 k = 33) (hv : l 2 k = 0) (hs : σ.length + 1 ≤ 32) : Ty l k (k + 1) (true :: σ) (true :: σ) := Ty.one (by simp only [List.length_cons]; omega) (by simp only [List.length_cons]; omega) (fun ty a b => Or.inr (Or.inr (Or.inr (Or.inl ⟨hg, hv, σ, a, b⟩))))
theorem Ty.jmp {t : Nat} (hg : l 1 k = 38 ∨ l 1 k = 124) (hv : l 2 k = t) (hs : σ.length + 1 ≤ 32) (h : Ty l (k + 1) t σ (true :: σ)) : Ty l k t (true :: σ) (true :: σ) := by
  obtain ⟨h0, ty, h1, h2, h3, h4⟩ := h
  have e1 : (fun j => if j = k then true :: σ else ty j) k = true :: σ := if_pos rfl
  have e2 : ∀ j, k + 1 ≤ j → (fun j => if j = k then true :: σ else ty j) j = ty j := fun j hj => if_neg (by omega)
  refine ⟨by omega, fun j => if j = k then true :: σ else ty j, e1, (e2 t h0).trans h2, fun j a b => ?_, fun j a b => ?_⟩
  · by_cases q : j = k
    · subst q; rw [e1]; simp only [List.length_cons]; omega
    · rw [e2 j (by omega)]; exact h3 j (by omega) b
  · by_cases q : j = k
    · subst q
      exact Or.inr (Or.inr (Or.inr (Or.inr ⟨hg, by omega, by omega, σ, e1, (e2 _ (Nat.le_refl _)).trans h1, by rw [hv]; exact (e2 t h0).trans h2⟩)))
    · exact (h4 j (by omega) b).cg b (Nat.le_refl _) (fun i hi _ => e2 i (by omega))
theorem Ty.code {f t : Nat} {b : Bool} (h : Ty l f t [] [b]) (hlt : f < t) : codeOK l f t b := by
  obtain ⟨h0, ty, h1, h2, h3, h4⟩ := h
  have e : ∀ j, f ≤ j → j ≤ t → (fun j => if f ≤ j ∧ j ≤ t then ty j else []) j = ty j := fun j a b => if_pos ⟨a, b⟩
  refine ⟨hlt, fun j => if f ≤ j ∧ j ≤ t then ty j else [], (e f (by omega) h0).trans h1, (e t h0 (by omega)).trans h2, fun k => ?_, fun k a b => ?_⟩
  · show (if f ≤ k ∧ k ≤ t then ty k else []).length ≤ 32
    split
    · rename_i q; exact h3 k q.1 q.2
    · exact Nat.zero_le _
  · exact (h4 k a b).cg b (Nat.le_refl _) (fun j hj hj2 => e j (by omega) hj2)
end TY1
/-! the reading -/
def dgN (c : Nat) : Bool := decide (48 ≤ c ∧ c ≤ 57)
def mulN (c : Nat) : Bool := decide (c = 42 ∨ c = 47 ∨ c = 37)
def addN (c : Nat) : Bool := decide (c = 43 ∨ c = 45)
def letN (c : Nat) : Nat := ([97, 105, 121, 104, 107, 113, 98, 106, 122, 108, 116, 114] : List Nat).idxOf c
section TX
variable (T : Nat → Nat) (n : Nat)
def hr (a : Nat) : Nat := if a < n then T a else 300
def numS : Nat → Nat → Nat → Nat ⊕ (Nat × Nat)
  | 0, a, x => if dgN (hr T n a) then .inl (2000 + a) else .inr (a, x)
  | k + 1, a, x => if dgN (hr T n a) then numS k (a + 1) (10 * x + hr T n a - 48) else .inr (a, x)
def clo (c b : Nat) (l : VD) : PR := if hr T n b = c then .inr (b + 1, l) else .inl (1000 + b)
/-- k: how many more of ( [ ! may be begun -/
def facS (k : Nat) (sub : Nat → VD → PR) (a : Nat) (l : VD) : PR :=
  if hr T n a = 91 then (if k = 0 then .inl (5000 + a) else pb (sub (a + 1) l) (clo T n 93))
  else if dgN (hr T n a) then (match numS T n 5 a 0 with
    | .inl e => .inl e
    | .inr q => .inr (q.1, emit l 48 q.2))
  else if letN (hr T n a) < 12 then .inr (a + 1, emit l 97 (letN (hr T n a)))
  else .inl (1000 + a)
def opsS (p : Nat → Bool) (it : Nat → VD → PR) : Nat → Nat → VD → PR
  | 0, a, l => .inr (a, l)
  | k + 1, a, l => if p (hr T n a) then pb (it (a + 1) l) (fun b l' => opsS p it k b (emit l' (hr T n a) 0)) else .inr (a, l)
def termS (fac : Nat → VD → PR) (a : Nat) (l : VD) : PR := pb (fac a l) (opsS T n mulN fac 161)
def sumOf (fac : Nat → VD → PR) (a : Nat) (l : VD) : PR := pb (termS T n fac a l) (opsS T n addN (termS T n fac) 161)
def sumS : Nat → Nat → VD → PR
  | 0 => sumOf T n (facS T n 0 (fun a l => .inr (a, l)))
  | k + 1 => sumOf T n (facS T n (k + 1) (sumS k))
def facK : Nat → Nat → VD → PR
  | 0 => facS T n 0 (fun a l => .inr (a, l))
  | k + 1 => facS T n (k + 1) (sumS T n k)
theorem sumS_eq (k : Nat) : sumS T n k = sumOf T n (facK T n k) := by cases k <;> rfl
def lpsS (g : Nat) (it : Nat → VD → PR) : Nat → Nat → VD → PR
  | 0, a, l => .inr (a, l)
  | k + 1, a, l => if hr T n a = g then pb (it (a + 1) (emit l g 0)) (fun b l' => lpsS g it k b (patch l' (l 0 1))) else .inr (a, l)
def partOf (pc : Nat → VD → PR) (a : Nat) (l : VD) : PR := pb (pc a l) (lpsS T n 38 pc 161)
def choOf (pc : Nat → VD → PR) (a : Nat) (l : VD) : PR := pb (partOf T n pc a l) (lpsS T n 124 (partOf T n pc) 161)
def cmpS (k a : Nat) (l : VD) : PR := pb (sumS T n k a l) (fun b l' => if hr T n b = 60 ∨ hr T n b = 62 ∨ hr T n b = 61 then pb (sumS T n k (b + 1) l') (fun c l2 => .inr (c, emit l2 (hr T n b) 0)) else .inl (1000 + b))
def pieS : Nat → Nat → VD → PR
  | 0, a, l => if hr T n a = 33 ∨ hr T n a = 40 then .inl (5000 + a) else cmpS T n 0 a l
  | k + 1, a, l => if hr T n a = 33 then pb (pieS k (a + 1) l) (fun b l' => .inr (b, emit l' 33 0)) else if hr T n a = 40 then pb (choOf T n (pieS k) (a + 1) l) (clo T n 41) else cmpS T n (k + 1) a l
def claS (a : Nat) (l : VD) : PR :=
  if hr T n a = 110 ∨ hr T n a = 103 ∨ hr T n a = 120 ∨ hr T n a = 112 then
    if 12 ≤ l 0 0 then .inl (4000 + a) else
      pb (if hr T n a = 103 ∨ hr T n a = 112 then sumS T n 6 (a + 1) (wrN (wrN l 3 (l 0 0) (hr T n a)) 4 (l 0 0) (l 0 1)) else .inr (a + 1, wrN (wrN l 3 (l 0 0) (hr T n a)) 4 (l 0 0) (l 0 1))) (fun b l2 =>
        pb (clo T n 40 b (wrN l2 5 (l2 0 0) (l2 0 1))) (fun b l3 => pb (choOf T n (pieS T n 5) b l3) (fun c l4 => pb (clo T n 41 c l4) (fun c l5 => .inr (c, wrN (wrN l5 6 (l5 0 0) (l5 0 1)) 0 0 (l5 0 0 + 1))))))
  else .inl (1000 + a)
def txtS : Nat → Nat → VD → PR
  | 0, a, l => .inr (a, l)
  | k + 1, a, l => if a < n then pb (clo T n 59 a l) (fun b l' => pb (claS T n b l') (txtS k)) else .inr (a, l)
/-- what a reading keeps, and of which kind its signs are -/
def GP (P : Nat → VD → PR) (h : Nat) (tb : Bool) : Prop := ∀ a l b l', a ≤ n → l 0 1 ≤ a → LB l → P a l = .inr (b, l') → a < b ∧ b ≤ n ∧ l' 0 1 + a ≤ b + l 0 1 ∧ l 0 1 < l' 0 1 ∧ LB l' ∧ Ag l l' ∧ ∀ σ : List Bool, σ.length + h ≤ 32 → Ty l' (l 0 1) (l' 0 1) σ (tb :: σ)
variable {T} {n}
theorem hr_lt {a : Nat} (h : hr T n a < 300) : a < n := by
  by_cases q : a < n
  · exact q
  · rw [hr, if_neg q] at h; omega
theorem numS_ok : ∀ k a x b y, numS T n k a x = .inr (b, y) → a ≤ n → x < 10 ^ (5 - k) → k ≤ 5 → a ≤ b ∧ b ≤ n ∧ y < 100000
  | 0, a, x, b, y, h, ha, hx, hk => by
    rw [numS] at h
    split at h
    · cases h
    · cases h; exact ⟨Nat.le_refl _, ha, hx⟩
  | k + 1, a, x, b, y, h, ha, hx, hk => by
    rw [numS] at h
    split at h
    · rename_i q
      have q2 : 48 ≤ hr T n a ∧ hr T n a ≤ 57 := of_decide_eq_true q
      have q1 := hr_lt (T := T) (n := n) (a := a) (by omega)
      have e : 10 ^ (5 - k) = 10 ^ (5 - (k + 1)) * 10 := by rw [← Nat.pow_succ]; congr 1; omega
      have := numS_ok k (a + 1) _ b y h (by omega) (by rw [e]; omega) (by omega)
      exact ⟨by omega, this.2⟩
    · cases h
      refine ⟨Nat.le_refl _, ha, Nat.lt_of_lt_of_le hx ?_⟩
      exact Nat.le_trans (Nat.pow_le_pow_right (by omega) (show 5 - (k + 1) ≤ 5 by omega)) (by decide)
theorem numS_lt {k a x b y : Nat} (h : numS T n (k + 1) a x = .inr (b, y)) (hd : dgN (hr T n a) = true) (ha : a ≤ n) (hx : x < 10 ^ (5 - (k + 1))) (hk : k + 1 ≤ 5) : a < b := by
  rw [numS, if_pos hd] at h
  have q2 : 48 ≤ hr T n a ∧ hr T n a ≤ 57 := of_decide_eq_true hd
  have q1 := hr_lt (T := T) (n := n) (a := a) (by omega)
  have e : 10 ^ (5 - k) = 10 ^ (5 - (k + 1)) * 10 := by rw [← Nat.pow_succ]; congr 1; omega
  have := numS_ok k (a + 1) _ b y h (by omega) (by rw [e]; omega) (by omega)
  omega
/-- one sign set down -/
theorem G_em {a b : Nat} {l : VD} {g v : Nat} (hab : a < b) (hb : b ≤ n) (hl : l 0 1 ≤ a) (hB : LB l) (hv : v < 1048576) (hg : g = 48 ∨ g = 97 ∧ v < 12) : a < b ∧ b ≤ n ∧ emit l g v 0 1 + a ≤ b + l 0 1 ∧ l 0 1 < emit l g v 0 1 ∧ LB (emit l g v) ∧ Ag l (emit l g v) ∧ ∀ σ : List Bool, σ.length + 1 ≤ 32 → Ty (emit l g v) (l 0 1) (emit l g v 0 1) σ (false :: σ) := by
  refine ⟨hab, hb, by rw [em_n]; omega, by rw [em_n]; omega, hB.em hv, Ag.em _ _ _, fun σ hs => ?_⟩
  rw [em_n]
  exact Ty.num (by rw [em_g, em_v]; exact hg) (by rw [em_v]; exact hv) (by omega)
theorem clo_G {c b b' : Nat} {l l' : VD} (hc : c < 300) (e : clo T n c b l = .inr (b', l')) : b < n ∧ b' = b + 1 ∧ l' = l := by
  unfold clo at e
  split at e
  · rename_i q
    cases e
    exact ⟨hr_lt (T := T) (n := n) (a := b) (by omega), rfl, rfl⟩
  · cases e
theorem facS_G {k h : Nat} {sub : Nat → VD → PR} (h1 : 1 ≤ h) (hs : k = 0 ∨ GP n sub h false) : GP n (facS T n k sub) h false := by
  intro a l b l' ha hl hB e
  unfold facS at e
  split at e
  · rename_i q
    have qa := hr_lt (T := T) (n := n) (a := a) (by omega)
    split at e
    · cases e
    · rename_i hk
      obtain ⟨c, l2, e1, e2⟩ := pb_inr e
      obtain ⟨g1, g2, g3, g4, g5, g6, g7⟩ := (hs.resolve_left hk) (a + 1) l c l2 (by omega) (by omega) hB e1
      obtain ⟨qc, rfl, rfl⟩ := clo_G (by omega) e2
      exact ⟨by omega, by omega, by omega, g4, g5, g6, g7⟩
  · split at e
    · rename_i hd
      split at e
      · cases e
      · rename_i q eq
        cases e
        obtain ⟨b, y⟩ := q
        have := numS_ok 5 a 0 b y eq ha (by decide) (by omega)
        have h2 := numS_lt (k := 4) eq hd ha (by decide) (by omega)
        have := G_em (v := y) (g := 48) h2 this.2.1 hl hB (by omega) (Or.inl rfl)
        exact ⟨this.1, this.2.1, this.2.2.1, this.2.2.2.1, this.2.2.2.2.1, this.2.2.2.2.2.1, fun σ hσ => this.2.2.2.2.2.2 σ (by omega)⟩
    · split at e
      · rename_i q
        cases e
        have qa : a < n := by
          by_cases z : a < n
          · exact z
          · rw [hr, if_neg z] at q; exact absurd q (by decide)
        have := G_em (v := letN (hr T n a)) (g := 97) (Nat.lt_succ_self a) qa hl hB (by omega) (Or.inr ⟨rfl, q⟩)
        exact ⟨this.1, this.2.1, this.2.2.1, this.2.2.2.1, this.2.2.2.2.1, this.2.2.2.2.2.1, fun σ hσ => this.2.2.2.2.2.2 σ (by omega)⟩
      · cases e
theorem opsS_G {p : Nat → Bool} {it : Nat → VD → PR} {h : Nat} (h1 : 1 ≤ h) (hit : GP n it h false) (hp : ∀ c, p c = true → c = 43 ∨ c = 45 ∨ c = 42 ∨ c = 47 ∨ c = 37) : ∀ k a l b l', a ≤ n → l 0 1 ≤ a → LB l → opsS T n p it k a l = .inr (b, l') → a ≤ b ∧ b ≤ n ∧ l' 0 1 + a ≤ b + l 0 1 ∧ l 0 1 ≤ l' 0 1 ∧ LB l' ∧ Ag l l' ∧ ∀ (f : Nat) (σ : List Bool), f ≤ l 0 1 → σ.length + 1 + h ≤ 32 → Ty l f (l 0 1) σ (false :: σ) → Ty l' f (l' 0 1) σ (false :: σ) := by
  intro k
  induction k with
  | zero =>
    intro a l b l' ha hl hB e
    cases e
    exact ⟨Nat.le_refl _, ha, by omega, Nat.le_refl _, hB, Ag.rf _, fun f σ _ _ t => t⟩
  | succ k ih =>
    intro a l b l' ha hl hB e
    rw [opsS] at e
    split at e
    · rename_i q
      have hc := hp _ q
      have qa := hr_lt (T := T) (n := n) (a := a) (by omega)
      obtain ⟨c, l2, e1, e2⟩ := pb_inr e
      obtain ⟨g1, g2, g3, g4, g5, g6, g7⟩ := hit (a + 1) l c l2 (by omega) (by omega) hB e1
      obtain ⟨i1, i2, i3, i4, i5, i6, i7⟩ := ih c (emit l2 (hr T n a) 0) b l' g2 (by rw [em_n]; omega) (g5.em (by omega)) e2
      rw [em_n] at i3 i4
      refine ⟨by omega, i2, by omega, by omega, i5, ((g6.tr (by omega) (Ag.em _ _ _)).tr (by rw [em_n]; omega) i6), fun f σ hf hσ t => ?_⟩
      refine i7 f σ (by rw [em_n]; omega) hσ ?_
      have t1 : Ty l2 f (l 0 1) σ (false :: σ) := t.cg (fun k a b => g6.1 k b)
      have t2 := t1.app (g7 (false :: σ) (by rw [List.length_cons]; omega))
      have t3 : Ty (emit l2 (hr T n a) 0) f (l2 0 1) σ (false :: false :: σ) := t2.cg (fun k a b => (Ag.em l2 _ _).1 k b)
      rw [em_n]
      exact t3.app (Ty.opr (by rw [em_g]; exact hc) em_v (by omega))
    · cases e
      exact ⟨Nat.le_refl _, ha, by omega, Nat.le_refl _, hB, Ag.rf _, fun f σ _ _ t => t⟩
theorem termS_G {fac : Nat → VD → PR} {h : Nat} (h1 : 1 ≤ h) (hf : GP n fac h false) : GP n (termS T n fac) (h + 1) false := by
  intro a l b l' ha hl hB e
  obtain ⟨c, l2, e1, e2⟩ := pb_inr e
  obtain ⟨g1, g2, g3, g4, g5, g6, g7⟩ := hf a l c l2 ha hl hB e1
  obtain ⟨i1, i2, i3, i4, i5, i6, i7⟩ := opsS_G (T := T) h1 hf (p := mulN) (fun c h => by have := of_decide_eq_true h; omega) 161 c l2 b l' g2 (by omega) g5 e2
  exact ⟨by omega, i2, by omega, by omega, i5, g6.tr (by omega) i6, fun σ hσ => i7 _ σ (by omega) (by omega) (g7 σ (by omega))⟩
theorem sumOf_G {fac : Nat → VD → PR} {h : Nat} (h1 : 1 ≤ h) (hf : GP n fac h false) : GP n (sumOf T n fac) (h + 2) false := by
  intro a l b l' ha hl hB e
  obtain ⟨c, l2, e1, e2⟩ := pb_inr e
  obtain ⟨g1, g2, g3, g4, g5, g6, g7⟩ := termS_G h1 hf a l c l2 ha hl hB e1
  obtain ⟨i1, i2, i3, i4, i5, i6, i7⟩ := opsS_G (T := T) (by omega) (termS_G (T := T) h1 hf) (p := addN) (fun c h => by have := of_decide_eq_true h; omega) 161 c l2 b l' g2 (by omega) g5 e2
  exact ⟨by omega, i2, by omega, by omega, i5, g6.tr (by omega) i6, fun σ hσ => i7 _ σ (by omega) (by omega) (g7 σ (by omega))⟩
theorem sumS_G : ∀ k, GP n (sumS T n k) (2 * k + 3) false
  | 0 => sumOf_G (Nat.le_refl _) (facS_G (h := 1) (Nat.le_refl _) (Or.inl rfl))
  | k + 1 => sumOf_G (by omega) (facS_G (h := 2 * k + 3) (by omega) (Or.inr (sumS_G k)))
theorem facK_G : ∀ k, GP n (facK T n k) (2 * k + 1) false
  | 0 => facS_G (h := 1) (sub := fun a l => .inr (a, l)) (Nat.le_refl _) (Or.inl rfl)
  | k + 1 => facS_G (h := 2 * k + 3) (sub := sumS T n k) (by omega) (Or.inr (sumS_G k))
theorem lpsS_G (hn : n ≤ 160) {g : Nat} {it : Nat → VD → PR} {h : Nat} (hg : g = 38 ∨ g = 124) (h1 : 1 ≤ h) (hit : GP n it h true) : ∀ k a l b l', a ≤ n → l 0 1 ≤ a → LB l → lpsS T n g it k a l = .inr (b, l') → a ≤ b ∧ b ≤ n ∧ l' 0 1 + a ≤ b + l 0 1 ∧ l 0 1 ≤ l' 0 1 ∧ LB l' ∧ Ag l l' ∧ ∀ (f : Nat) (σ : List Bool), f ≤ l 0 1 → σ.length + h ≤ 32 → Ty l f (l 0 1) σ (true :: σ) → Ty l' f (l' 0 1) σ (true :: σ) := by
  intro k
  induction k with
  | zero =>
    intro a l b l' ha hl hB e
    cases e
    exact ⟨Nat.le_refl _, ha, by omega, Nat.le_refl _, hB, Ag.rf _, fun f σ _ _ t => t⟩
  | succ k ih =>
    intro a l b l' ha hl hB e
    rw [lpsS] at e
    split at e
    · rename_i q
      have qa := hr_lt (T := T) (n := n) (a := a) (by omega)
      obtain ⟨c, l2, e1, e2⟩ := pb_inr e
      have en : emit l g 0 0 1 = l 0 1 + 1 := em_n
      obtain ⟨g1, g2, g3, g4, g5, g6, g7⟩ := hit (a + 1) (emit l g 0) c l2 (by omega) (by rw [en]; omega) (hB.em (by omega)) e1
      rw [en] at g3 g4 g7
      have ag : Ag l (patch l2 (l 0 1)) := Ag.pt ((Ag.em l g 0).tr (by rw [en]; omega) g6) (Nat.le_refl _)
      obtain ⟨i1, i2, i3, i4, i5, i6, i7⟩ := ih c (patch l2 (l 0 1)) b l' g2 (by rw [pt_n]; omega) (g5.pt (by omega)) e2
      rw [pt_n] at i3 i4
      refine ⟨by omega, i2, by omega, by omega, i5, ag.tr (by rw [pt_n]; omega) i6, fun f σ hf hσ t => ?_⟩
      refine i7 f σ (by rw [pt_n]; omega) hσ ?_
      rw [pt_n]
      have t1 : Ty (patch l2 (l 0 1)) f (l 0 1) σ (true :: σ) := t.cg (fun k a b => ag.1 k b)
      have t2 : Ty (patch l2 (l 0 1)) (l 0 1 + 1) (l2 0 1) σ (true :: σ) := (g7 σ hσ).cg (fun k a b => ⟨pt_g, pt_o (by omega)⟩)
      have hs := (g6.1 (l 0 1) (by rw [en]; omega)).1
      rw [em_g] at hs
      exact t1.app (Ty.jmp (by rw [pt_g, hs]; exact hg) pt_v (by omega) t2)
    · cases e
      exact ⟨Nat.le_refl _, ha, by omega, Nat.le_refl _, hB, Ag.rf _, fun f σ _ _ t => t⟩
theorem partOf_G (hn : n ≤ 160) {pc : Nat → VD → PR} {h : Nat} (h1 : 1 ≤ h) (hp : GP n pc h true) : GP n (partOf T n pc) h true := by
  intro a l b l' ha hl hB e
  obtain ⟨c, l2, e1, e2⟩ := pb_inr e
  obtain ⟨g1, g2, g3, g4, g5, g6, g7⟩ := hp a l c l2 ha hl hB e1
  obtain ⟨i1, i2, i3, i4, i5, i6, i7⟩ := lpsS_G (T := T) hn (Or.inl rfl) h1 hp 161 c l2 b l' g2 (by omega) g5 e2
  exact ⟨by omega, i2, by omega, by omega, i5, g6.tr (by omega) i6, fun σ hσ => i7 _ σ (by omega) (by omega) (g7 σ (by omega))⟩
theorem choOf_G (hn : n ≤ 160) {pc : Nat → VD → PR} {h : Nat} (h1 : 1 ≤ h) (hp : GP n pc h true) : GP n (choOf T n pc) h true := by
  intro a l b l' ha hl hB e
  obtain ⟨c, l2, e1, e2⟩ := pb_inr e
  obtain ⟨g1, g2, g3, g4, g5, g6, g7⟩ := partOf_G hn h1 hp a l c l2 ha hl hB e1
  obtain ⟨i1, i2, i3, i4, i5, i6, i7⟩ := lpsS_G (T := T) hn (Or.inr rfl) h1 (partOf_G (T := T) hn h1 hp) 161 c l2 b l' g2 (by omega) g5 e2
  exact ⟨by omega, i2, by omega, by omega, i5, g6.tr (by omega) i6, fun σ hσ => i7 _ σ (by omega) (by omega) (g7 σ (by omega))⟩
theorem cmpS_G (k : Nat) : GP n (cmpS T n k) (2 * k + 4) true := by
  intro a l b l' ha hl hB e
  obtain ⟨c, l2, e1, e2⟩ := pb_inr e
  obtain ⟨g1, g2, g3, g4, g5, g6, g7⟩ := sumS_G k a l c l2 ha hl hB e1
  split at e2
  · rename_i q
    have qc := hr_lt (T := T) (n := n) (a := c) (by omega)
    obtain ⟨c2, l3, e3, e4⟩ := pb_inr e2
    obtain ⟨i1, i2, i3, i4, i5, i6, i7⟩ := sumS_G k (c + 1) l2 c2 l3 (by omega) (by omega) g5 e3
    cases e4
    refine ⟨by omega, i2, by rw [em_n]; omega, by rw [em_n]; omega, i5.em (by omega), (g6.tr (by omega) i6).tr (by omega) (Ag.em _ _ _), fun σ hσ => ?_⟩
    have t1 : Ty l3 (l 0 1) (l2 0 1) σ (false :: σ) := (g7 σ (by omega)).cg (fun k a b => i6.1 k b)
    have t2 := t1.app (i7 (false :: σ) (by rw [List.length_cons]; omega))
    have t3 : Ty (emit l3 (hr T n c) 0) (l 0 1) (l3 0 1) σ (false :: false :: σ) := t2.cg (fun k a b => (Ag.em l3 _ _).1 k b)
    rw [em_n]
    exact t3.app (Ty.cmp (by rw [em_g]; exact q) em_v (by omega))
  · cases e2
theorem GP.up {P : Nat → VD → PR} {h h' : Nat} {tb : Bool} (g : GP n P h tb) (hh : h ≤ h') : GP n P h' tb := by
  intro a l b l' ha hl hB e
  obtain ⟨g1, g2, g3, g4, g5, g6, g7⟩ := g a l b l' ha hl hB e
  exact ⟨g1, g2, g3, g4, g5, g6, fun σ hσ => g7 σ (by omega)⟩
theorem pieS_G (hn : n ≤ 160) : ∀ k, GP n (pieS T n k) (2 * k + 4) true
  | 0 => by
    intro a l b l' ha hl hB e
    rw [pieS] at e
    split at e
    · cases e
    · exact cmpS_G 0 a l b l' ha hl hB e
  | k + 1 => by
    intro a l b l' ha hl hB e
    rw [pieS] at e
    split at e
    · rename_i q
      have qa := hr_lt (T := T) (n := n) (a := a) (by omega)
      obtain ⟨c, l2, e1, e2⟩ := pb_inr e
      obtain ⟨g1, g2, g3, g4, g5, g6, g7⟩ := pieS_G hn k (a + 1) l c l2 (by omega) (by omega) hB e1
      cases e2
      refine ⟨by omega, g2, by rw [em_n]; omega, by rw [em_n]; omega, g5.em (by omega), g6.tr (by omega) (Ag.em _ _ _), fun σ hσ => ?_⟩
      have t1 : Ty (emit l2 33 0) (l 0 1) (l2 0 1) σ (true :: σ) := (g7 σ (by omega)).cg (fun k a b => (Ag.em l2 _ _).1 k b)
      rw [em_n]
      exact t1.app (Ty.nt em_g em_v (by omega))
    · split at e
      · rename_i q
        have qa := hr_lt (T := T) (n := n) (a := a) (by omega)
        obtain ⟨c, l2, e1, e2⟩ := pb_inr e
        obtain ⟨g1, g2, g3, g4, g5, g6, g7⟩ := choOf_G hn (by omega) (pieS_G hn k) (a + 1) l c l2 (by omega) (by omega) hB e1
        obtain ⟨qc, rfl, rfl⟩ := clo_G (by omega) e2
        exact ⟨by omega, by omega, by omega, g4, g5, g6, fun σ hσ => g7 σ (by omega)⟩
      · exact cmpS_G (k + 1) a l b l' ha hl hB e
end TX
