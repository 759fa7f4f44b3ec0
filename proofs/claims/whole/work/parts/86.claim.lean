/-! THE CLAIM OUT OF ONE WALK OF THE LAW'S BODY. Your part is whole_start (and what it stands on); all else here is the same for every law, but numbers. -/
def R_law : String := "TallerWitnessLaw"
def lw_P (b : Addr) (xs : List Int32) (args : Array Value) (s : State) : Prop := args = #[.ref b] ∧ s.IntsAt b xs ∧ xs.length ≤ 3072 ∧ (Jvm.Cond.and given_1 narrow_1).before args s = true
def lw_Q (_ : Array Value) (s : State) (o : Outcome) (t : State) : Prop := o = .returned (some (.int 1)) ∧ Framed s o t [] 600000 7302250
def lw_Z (below : List Frame) (a : Array Value) (s : State) : State → Prop := fun t => ∃ o, t.status = .running ∧ Ended t below o ∧ lw_Q a s o t
/-- the law's own end, with 1 on the stack, nothing written that was there before, its room as the claim has it -/
theorem lw_ret {p : Program} {l : Launch} {e : Env} {s : State} {m : MethodId} {below : List Frame} {meth : Method} {c : Code} {b : Nat} (hx : p.tables.exec = Jvm.exec) (hb : c.code = code) (hr : meth.sig.returnType = ret) (hlocks : meth.locks = false) {pc : Nat} {H : Heap} {ls : Array Slot} (hdg : decode code pc = .ok (.ireturn, 1)) : W p l e room_1 s m #[Value.ref b] below meth c H [] 600000 7302250 (lw_Z below #[Value.ref b] s) (F0 m pc ls [.int 1]) := by
  intro T hT X
  obtain ⟨fs, hret, hrun, hended, hW, hframe⟩ := X.leave (v := some (.int 1)) (hlocks := hlocks) (fun h => by rw [hr] at h; cases h)
  have hmeth' : T.vm.method? m = some meth := X.method'
  refine ⟨T.setFrames fs, ?_, .returned (some (.int 1)), hrun, hended, rfl, ⟨_, rfl⟩, hW, hframe⟩
  jvm_step X.here [X.here.top, hx, hb, hdg, hmeth', hr, ret, narrow_b1]
  (try refine ⟨rfl, ?_⟩); (try refine ⟨rfl, ?_⟩)
  first | (intro acts; rw [hret _ acts rfl rfl rfl]) | rw [hret _ _ rfl rfl rfl]
  exact Steps.refl _
/-- what holds at the law's entry: the machine, the code, the tables' words (any of lw_tbl by 'hts w (by decide +kernel)'), the script of L ints xs at the cell b, what the Statement gives of the start (any of its parts by flat_of_before) -/
def lw_At (p : Program) (s : State) (m : MethodId) (meth : Method) (c : Code) (b L : Nat) (xs : Nat → Int32) : Prop :=
  p.tables.exec = Jvm.exec ∧ c.code = code ∧ meth.sig.returnType = ret ∧ c.maxLocals = 4 ∧ s.vm.findClass R_law = some m.cls ∧ (∀ w ∈ lw_tbl, w.before #[Value.ref b] s = true) ∧ va_X b L xs s s.heap ∧ b < s.heap.size ∧ meth.locks = false ∧ (Jvm.Cond.and given_1 narrow_1).before #[Value.ref b] s = true
theorem wsP_new {args : Array Value} {s : State} {D : va_G} {g : G3} {base ci N : Nat} {cs : List PCl} {H H1 : Heap} {C0 : String} {F : u_T} {ty : Nat → FieldType} {fs : List Value} {kC : Class} {tys : List (ClassId × FieldType)} (hts : ∀ w ∈ TT, w.before args s = true) (hcl : CLk ci C0 F N ty) (hK : va_K D vwCl tys s) (hP : va_P D vwCl (wsP g base cs) H) (hz : H.size = base + cs.length) (hfs : ∀ j, j < N → defaultValue (ty j) = vp_V fs j) (hfn : fs.all (fun v => match v with | .ref _ => false | _ => true) = true) (hkC : s.vm.classes[D.1 ci]? = some kC) (e1 : H1[base + cs.length]? = some (blank (D.1 ci) kC)) (o1 : ∀ q, q < base + cs.length → H1[q]? = H[q]?) : va_P D vwCl (wsP g base (cs ++ [.inl (ci, fs)])) H1 := by
  have hKn := hK.1 ci _ hcl.1
  have hfm : fs.map (cvv (bA base)) = fs := by
    have : ∀ v ∈ fs, cvv (bA base) v = v := fun v hv => by
      have := List.all_eq_true.mp hfn v hv
      cases v <;> first | rfl | cases this
    rw [List.map_congr_left this, List.map_id']
  have hk : ∀ (k : Nat) (x : Nat × va_E), (wsP g base cs)[k]? = some x → H1[x.1]? = H[x.1]? := fun k x hx => o1 x.1 (by rw [← hz]; exact (hP k x hx).lt)
  rw [wsP_app]
  refine (hP.kept hk).app (fun k x hx => ?_)
  have hz : k < 1 := (List.getElem?_eq_some_iff.mp hx).1
  rw [show k = 0 by omega] at hx
  cases hx
  refine ⟨_, hcl.1, ?_⟩
  rw [hfm]
  exact (u_born ty hts hcl.2.1 hKn hkC e1 hcl.2.2.1).to hfs
set_option maxHeartbeats 4000000 in
/-- THE LAW, from its entry -/
theorem whole_start {p : Program} {e : Env} {s : State} {m : MethodId} {below : List Frame} {meth : Method} {c : Code} (l : Launch) {b L : Nat} {xs : Nat → Int32} (hL : L ≤ 3072) (C0 : lw_At p s m meth c b L xs) : W p l e room_1 s m #[Value.ref b] below meth c s.heap [] 0 0 (lw_Z below #[Value.ref b] s) (entryFrame m ([Value.ref b] : List Value).toArray 4) := by
  obtain ⟨hx, hb, hr, hml, hown, hts, hX, hbl, hlocks, hgv⟩ := id C0
  obtain ⟨D, g, aK, aV, aS, aL, hC, hN, hR, hSv⟩ := start_facts hts hgv
  have hTT : ∀ w ∈ TT, w.before #[Value.ref b] s = true := fun w hw => hts w (tt_in hw)
  have hl := lv_entry ([.ref b]) (n := 4) (Nat.le_of_ble_eq_true rfl)
  rw [lg_entry_eq]
  generalize (lg_sl ([.ref b]) ++ List.replicate (4 - (lg_sl ([.ref b])).length) Slot.unset).toArray = ls at hl ⊢
  have hl : lv_has ls 4 [(0, .ref b)] := hl
  have hP0 : va_P D vwCl (wsP g s.heap.size []) s.heap := fun k q h => by cases h
  -- the class's object
  refine W.newcK hx hb hown (hTT _ kl_L_7) (hTT _ ki_X9) (hTT _ kI_X9.1.1) rfl dL_law_0 (Nat.le_of_ble_eq_true rfl) (Nat.le_of_ble_eq_true rfl) (hC.1.1 9 _ clX9.1).2.1 (h := s.heap.size + 0) rfl fun H1 kC hkC e1 z1 o1 => ?_
  have hP1 := wsP_new (cs := []) (fs := [.null, .null, .null, .null, .null, .null, .null, .null, .null, .null, .null, .null, .int 0, .int 0]) hTT clX9 hC.1 hP0 rfl (by decide +kernel) rfl hkC e1 o1
  have hS1 : va_S (fun q => s.heap.size ≤ q) s.heap H1 [] := ⟨by rw [z1]; exact Nat.le_succ _, fun q h1 _ => o1 q h1, fun q hq => by cases hq⟩
  have z1 : H1.size = s.heap.size + 1 := z1
  refine lv_dup hx hb dL_law_3 rfl ?_
  obtain ⟨⟨i1, i2, ⟨i3, i4, i5⟩, i6, i7⟩, i8⟩ := kI_X9
  have hrun := va_runI (p := p) (l := l) (e := e) (R := room_1) (s := s) (m := m) (args := #[Value.ref b]) (below := below) (meth := meth) (c := c) (H := H1) (locs := []) (cells := 0 + 1) (slots := 0 + 14) (mc := 76) (ms := 2278) (g := F0 m 4 ls [.ref (s.heap.size + 0), .ref (s.heap.size + 0)]) (As := []) (rest := [.ref (s.heap.size + 0)]) (n := 0) (own := R_law) (index := 9) (y := iX9_init.1) (b := s.heap.size + 0) (bytes := iX9_init.2.1) (maxL := iX9_init.2.2.1) ⟨hx, hb, hml, hown, hTT⟩ (m_tw (d := 10) l D g s.heap.size aS aL) ⟨⟨rfl, rfl, Nat.le_of_ble_eq_true rfl, Nat.le_of_ble_eq_true rfl, tt_ws hTT i2, List.mem_cons_self, hTT _ i2, hTT _ i1, ⟨i3, i4⟩, (fun sig h => by rw [h] at i5; exact (Option.some.inj i5).symm), hTT _ ml_L_9⟩, rfl, hTT _ i8⟩ ⟨ci_blind (av := [.ref 0]), fun U hU hW => ⟨rfl, hC.go hS1 hU hW, by rw [hU]; exact hP1, by rw [hU]; exact z1⟩⟩ rfl rfl hl.1 rfl (lv_room (Nat.le_of_ble_eq_true rfl)) dL_law_4 ⟨Nat.le_of_ble_eq_true rfl, Nat.le_of_ble_eq_true rfl⟩
  refine ci_cont hrun hS1 (fun H2 locs2 hP2 z2 hS2 => ?_)
  have z2 : H2.size = s.heap.size + 77 := by rw [z2, show twC.length = 77 by decide +kernel]
  refine lv_astore_n (lv' := [(1, .ref (s.heap.size + 0)), (0, .ref b)]) hx hb dL_law_7 rfl hl (by decide) rfl (fun ls hl => ?_)
  -- the model's object
  refine W.newcK hx hb hown (hTT _ kl_L_10) (hTT _ ki_X10) (hTT _ kI_X10.1.1) rfl dL_law_8 (Nat.le_of_ble_eq_true rfl) (Nat.le_of_ble_eq_true rfl) (hC.1.1 10 _ clX10.1).2.1 (h := s.heap.size + 77) z2 fun H3 kD hkD e3 z3 o3 => ?_
  have tl : s.heap.size + 77 = s.heap.size + twC.length := by rw [show twC.length = 77 by decide +kernel]
  have hP3 := wsP_new (cs := twC) (fs := [.int 0, .int 0, .int 0, .int 0, .null, .null, .null, .null, .null, .null, .int 0, .int 0, .int 0, .int 0, .int 0, .int 0, .int 0, .int 0, .int 0, .null, .null, .null, .null, .null, .null, .null, .null, .null, .null, .null, .null, .null, .null, .null, .int 0, .null, .null, .null, .null, .int 0, .int 0, .int 0, .null, .null, .null, .null, .null, .null, .null, .int 0, .int 0, .null, .int 0, .int 0, .int 0, .int 0, .int 0, .int 0, .null, .null, .null, .null, .null, .null, .null, .null]) hTT clX10 hC.1 hP2 (by rw [← tl]; exact z2) (by decide +kernel) rfl hkD (by rw [← tl]; exact e3) (by rw [← tl]; exact o3)
  have hS3 : va_S (fun q => s.heap.size ≤ q) s.heap H3 locs2 := ⟨by have := hS2.1; omega, fun q h1 h2 => (o3 q (by omega)).trans (hS2.2.1 q h1 h2), hS2.2.2⟩
  refine lv_dup hx hb dL_law_11 rfl ?_
  obtain ⟨⟨j1, j2, ⟨j3, j4, j5⟩, j6, j7⟩, j8⟩ := kI_X10
  have hmd := m_model (d := 10) twC
  rw [show twC.length = 77 by decide +kernel] at hmd
  have hrun2 := va_runI (p := p) (l := l) (e := e) (R := room_1) (s := s) (m := m) (args := #[Value.ref b]) (below := below) (meth := meth) (c := c) (H := H3) (locs := locs2) (cells := 0 + 1 + 76 + 1) (slots := 0 + 14 + 2278 + 66) (mc := 41) (ms := 1842) (g := F0 m 12 ls [.ref (s.heap.size + 77), .ref (s.heap.size + 77)]) (As := []) (rest := [.ref (s.heap.size + 77)]) (n := 0) (own := R_law) (index := 12) (y := iX10_init.1) (b := s.heap.size + 77) (bytes := iX10_init.2.1) (maxL := iX10_init.2.2.1) ⟨hx, hb, hml, hown, hTT⟩ (hmd l D g s.heap.size aS aL) ⟨⟨rfl, rfl, Nat.le_of_ble_eq_true rfl, Nat.le_of_ble_eq_true rfl, tt_ws hTT j2, List.mem_cons_self, hTT _ j2, hTT _ j1, ⟨j3, j4⟩, (fun sig h => by rw [h] at j5; exact (Option.some.inj j5).symm), hTT _ ml_L_12⟩, rfl, hTT _ j8⟩ ⟨ci_blind (av := [.ref 77]), fun U hU hW => ⟨rfl, hC.go hS3 hU hW, by rw [hU]; exact hP3, by rw [hU, z3, List.length_append, show twC.length = 77 by decide +kernel]; rfl⟩⟩ rfl rfl hl.1 rfl (lv_room (Nat.le_of_ble_eq_true rfl)) dL_law_12 ⟨Nat.le_of_ble_eq_true rfl, Nat.le_of_ble_eq_true rfl⟩
  refine ci_cont hrun2 hS3 (fun H4 locs4 hP4 z4 hS4 => ?_)
  refine lv_astore_n (lv' := [(2, .ref (s.heap.size + 77)), (1, .ref (s.heap.size + 0)), (0, .ref b)]) hx hb dL_law_15 rfl hl (by decide) rfl (fun ls hl => ?_)
  refine lv_iconst (v := 0) hx hb dL_law_16 (by decide) ?_
  refine lv_istore_n (lv' := [(3, .int 0), (2, .ref (s.heap.size + 77)), (1, .ref (s.heap.size + 0)), (0, .ref b)]) hx hb dL_law_17 rfl hl (by decide) rfl (fun ls hl => ?_)
  refine va_forget (fun q hq => hS4.2.2 q hq) ?_
  -- the loop
  have ha : ∀ q, AD (adF s.heap.size aK aV b) q → s.heap.size ≤ q := fun q h => AD_base h
  have hST : STc D g (adF s.heap.size aK aV b) (fun _ => 0) s := by
    refine ⟨hC.1, fun i j hi hj e => ?_, hN, fun i q hq => ?_, ?_, hC.2.2.2.2.2.narrow ha⟩
    · have hi : i < 119 := hi
      have hj : j < 119 := hj
      rw [adF_c (by omega), adF_c (by omega)] at e
      omega
    · have hi : i < 12 := by have := (List.getElem?_eq_some_iff.mp hq).1; rwa [st_len] at this
      rw [adF_k (by omega)]
      exact hR i q hq
    · have := hSv.narrow (B := AD (adF s.heap.size aK aV b)) ha
      refine ⟨fun i hi => ?_, fun i j hi hj e => ?_⟩
      · have h12 : i < 12 := hi
        have ek : adF s.heap.size aK aV b (1000 + i) = aK i := adF_k (by omega)
        have ev : adF s.heap.size aK aV b (2000 + i) = aV i := adF_v (by omega)
        dsimp only
        rw [ek, ev]
        exact this.1 i hi
      · have hi12 : i < 12 := hi
        have hj12 : j < 12 := hj
        have ek : adF s.heap.size aK aV b (1000 + i) = aK i := adF_k (by omega)
        have ej : adF s.heap.size aK aV b (1000 + j) = aK j := adF_k (by omega)
        dsimp only at e
        rw [ek, ej] at e
        exact this.2 i j hi hj e
  have hP5 : va_P D vwCl (wsD g (adF s.heap.size aK aV b) M00) H4 := by
    rw [← world_eq]; exact hP4
  have hS5 : va_S (AD (adF s.heap.size aK aV b)) s.heap H4 [] := ⟨hS4.1, fun q h1 _ => hS4.2.1 q h1 (Nat.not_le.mpr h1), fun q hq => by cases hq⟩
  have hlh : lhas (adF s.heap.size aK aV b) ls 4 [lR 3000, lR 0, lR 77, lI (nI 0)] := by
    refine ⟨hl.1, hl.2.1, fun i v hv => ?_⟩
    match i, hv with
    | 0, hv => cases hv; exact ⟨rfl, by show ls[0]? = some (.val (.ref (adF _ _ _ _ 3000))); rw [adF_b]; exact hl.2.2 (0, .ref b) (by simp)⟩
    | 1, hv => cases hv; exact ⟨rfl, by show ls[1]? = some (.val (.ref (adF _ _ _ _ 0))); rw [adF_c (by omega)]; exact hl.2.2 (1, .ref (s.heap.size + 0)) (by simp)⟩
    | 2, hv => cases hv; exact ⟨rfl, by show ls[2]? = some (.val (.ref (adF _ _ _ _ 77))); rw [adF_c (by omega)]; exact hl.2.2 (2, .ref (s.heap.size + 77)) (by simp)⟩
    | 3, hv => cases hv; exact ⟨rfl, hl.2.2 (3, .int 0) (by simp)⟩
  have lp := law_loop (xs := xs) hL (L + 1) 0 S00 M00 (by omega) (by omega) WF00 RC00 RM00
  refine lp p l e room_1 s m #[Value.ref b] below meth c D g (adF s.heap.size aK aV b) (fun _ => 0) (0 + 1 + 76 + 1 + 41) (0 + 14 + 2278 + 66 + 1842) _ H4 [] ls ⟨hx, hb, hml, hown, hTT, hr, hST, ⟨Nat.le_of_ble_eq_true rfl, Nat.le_of_ble_eq_true rfl, Nat.le_of_ble_eq_true rfl, Nat.le_of_ble_eq_true rfl⟩, fun N ys hE => ?_⟩ (fun r M' H' locs' pc' ls' hq hRD hP' hS' => ?_) hP5 hS5 hlh
  · cases hE
    rw [adF_b]
    exact ⟨hX, hbl, fun z => absurd (ha b z) (Nat.not_le.mpr hbl)⟩
  · have hq : r = some 1 := hq
    subst hq
    refine va_forget (fun q hq => ha _ (hS'.2.2 q hq)) ?_
    refine W.widen (k := 600000) (n := 7302250) (Nat.le_of_ble_eq_true rfl) (Nat.le_of_ble_eq_true rfl) ?_
    exact lw_ret hx hb hr hlocks hRD.1
