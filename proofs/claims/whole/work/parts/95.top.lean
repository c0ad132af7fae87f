/-! THE CLAIM OUT OF ONE WALK OF THE LAW'S BODY. Your part is whole_start (and what it stands on); all else here is the same for every law, but numbers. -/
def R_law : String := "RunCutsLaw"
def lw_P (b : Addr) (xs : List Int32) (args : Array Value) (s : State) : Prop := args = #[.ref b] ∧ s.IntsAt b xs ∧ xs.length ≤ 2560 ∧ (Jvm.Cond.and given_1 narrow_1).before args s = true
def lw_Q (_ : Array Value) (s : State) (o : Outcome) (t : State) : Prop := o = .returned (some (.int 1)) ∧ Framed s o t [] 94 12024
def lw_Z (below : List Frame) (a : Array Value) (s : State) : State → Prop := fun t => ∃ o, t.status = .running ∧ Ended t below o ∧ lw_Q a s o t
/-- the law's own end, with 1 on the stack, nothing written that was there before, its room as the claim has it -/
theorem lw_ret {p : Program} {l : Launch} {e : Env} {s : State} {m : MethodId} {below : List Frame} {meth : Method} {c : Code} {b : Nat} (hx : p.tables.exec = Jvm.exec) (hb : c.code = code) (hr : meth.sig.returnType = ret) (hlocks : meth.locks = false) {pc : Nat} {H : Heap} {ls : Array Slot} (hdg : decode code pc = .ok (.ireturn, 1)) : W p l e room_1 s m #[Value.ref b] below meth c H [] 94 12024 (lw_Z below #[Value.ref b] s) (F0 m pc ls [.int 1]) := by
  intro T hT X
  obtain ⟨fs, hret, hrun, hended, hW, hframe⟩ := X.leave (v := some (.int 1)) (hlocks := hlocks) (fun h => by rw [hr] at h; cases h)
  have hmeth' : T.vm.method? m = some meth := X.method'
  refine ⟨T.setFrames fs, ?_, .returned (some (.int 1)), hrun, hended, rfl, ⟨_, rfl⟩, hW, hframe⟩
  jvm_step X.here [X.here.top, hx, hb, hdg, hmeth', hr, ret, narrow_b1]
  (try refine ⟨rfl, ?_⟩); (try refine ⟨rfl, ?_⟩)
  first | (intro acts; rw [hret _ acts rfl rfl rfl]) | rw [hret _ _ rfl rfl rfl]
  exact Steps.refl _
/-- what holds at the law's entry: the machine, the code, the tables' words (any of lw_tbl by 'hts w (by decide +kernel)'), the script of L ints xs at the cell b, what the Statement gives of the start (any of its parts by flat_of_before) -/
def lw_At (p : Program) (s : State) (m : MethodId) (meth : Method) (c : Code) (b L : Nat) (xs : Nat → Int32) : Prop :=
  p.tables.exec = Jvm.exec ∧ c.code = code ∧ meth.sig.returnType = ret ∧ c.maxLocals = 4 ∧ s.vm.findClass R_law = some m.cls ∧ (∀ w ∈ lw_tbl, w.before #[Value.ref b] s = true) ∧ va_X b L xs s s.heap ∧ b < s.heap.size ∧ meth.locks = false ∧ (Jvm.Cond.and given_1 narrow_1).before #[Value.ref b] s = true
theorem mv_sz97 : mvSz 97 - mvSz 3 = 12024 := by decide +kernel
set_option maxRecDepth 20000 in
theorem mv_lawq : mvMd[255]? = some ({ cls := "RunCutsLaw", name := "law", desc := "([I)Z" }, code, 4, ret, 11, 8, 1, 1) := rfl
set_option maxHeartbeats 4000000 in
theorem whole_start {p : Program} {e : Env} {s : State} {m : MethodId} {below : List Frame} {meth : Method} {c : Code} (l : Launch) (hflags : l.flags = flags0) {b L : Nat} {xs : Nat → Int32} (hL : L ≤ 2560) (C0 : lw_At p s m meth c b L xs) : W p l e room_1 s m #[Value.ref b] below meth c s.heap [] 0 0 (lw_Z below #[Value.ref b] s) (entryFrame m ([Value.ref b] : List Value).toArray 4) := by
  obtain ⟨hx, hb, hr, hml, hown, hts, hX, hbl, hlocks, hgv⟩ := id C0
  have hflat := flat_of_before _ hgv
  have hA : ∀ a : Nat, a < s.heap.size → ¬ (fun q : Nat => s.heap.size ≤ q) a := fun a h => Nat.not_le.mpr h
  obtain ⟨c0, i0, k0⟩ := u_known (C := "RunCuts") (T := mvT0) (N := 12) (n := 12) hts mv_u0 (hts _ (mv_inst _ (List.mem_map_of_mem (List.mem_of_getElem? (l := mvTab) (i := 0) rfl))))
  obtain ⟨c1, i1, k1⟩ := u_known (C := "RunCuts$Page") (T := mvT1) (N := 2) (n := 2) hts mv_u1 (hts _ (mv_inst _ (List.mem_map_of_mem (List.mem_of_getElem? (l := mvTab) (i := 1) rfl))))
  obtain ⟨c2, i2, k2⟩ := u_known (C := "RunCuts$Events") (T := mvT2) (N := 10) (n := 10) hts mv_u2 (hts _ (mv_inst _ (List.mem_map_of_mem (List.mem_of_getElem? (l := mvTab) (i := 2) rfl))))
  obtain ⟨c3, i3, k3⟩ := u_known (C := "RunCuts$Lattice") (T := mvT3) (N := 10) (n := 10) hts mv_u3 (hts _ (mv_inst _ (List.mem_map_of_mem (List.mem_of_getElem? (l := mvTab) (i := 3) rfl))))
  obtain ⟨c4, i4, k4⟩ := u_known (C := "RunCuts$Predicate") (T := mvT4) (N := 3) (n := 3) hts mv_u4 (hts _ (mv_inst _ (List.mem_map_of_mem (List.mem_of_getElem? (l := mvTab) (i := 4) rfl))))
  obtain ⟨c5, i5, k5⟩ := u_known (C := "RunCuts$Search") (T := mvT5) (N := 6) (n := 6) hts mv_u5 (hts _ (mv_inst _ (List.mem_map_of_mem (List.mem_of_getElem? (l := mvTab) (i := 5) rfl))))
  obtain ⟨c6, i6, k6⟩ := u_known (C := "RunCuts$Intervals") (T := mvT6) (N := 4) (n := 4) hts mv_u6 (hts _ (mv_inst _ (List.mem_map_of_mem (List.mem_of_getElem? (l := mvTab) (i := 6) rfl))))
  obtain ⟨c7, i7, k7⟩ := u_known (C := "RunCuts$Lean") (T := mvT7) (N := 3) (n := 3) hts mv_u7 (hts _ (mv_inst _ (List.mem_map_of_mem (List.mem_of_getElem? (l := mvTab) (i := 7) rfl))))
  obtain ⟨c8, i8, k8⟩ := u_known (C := "RunCuts$Play") (T := mvT8) (N := 2) (n := 2) hts mv_u8 (hts _ (mv_inst _ (List.mem_map_of_mem (List.mem_of_getElem? (l := mvTab) (i := 8) rfl))))
  obtain ⟨c9, i9, k9⟩ := u_known (C := "RunCuts$Snapshot") (T := mvT9) (N := 9) (n := 9) hts mv_u9 (hts _ (mv_inst _ (List.mem_map_of_mem (List.mem_of_getElem? (l := mvTab) (i := 9) rfl))))
  obtain ⟨c10, i10, k10⟩ := u_known (C := "RunCutsModel") (T := mvT10) (N := 45) (n := 45) hts mv_u10 (hts _ (mv_inst _ (List.mem_map_of_mem (List.mem_of_getElem? (l := mvTab) (i := 10) rfl))))
  obtain ⟨dC, dI, hKc⟩ : ∃ (dC : Nat → ClassId) (dI : Nat → Nat → Nat), ∀ (k : Nat) (q : vw_C), mvTab[k]? = some q → u_Kn s q.1 q.2.1 q.2.2 (dC k) (dI k) := by
    refine ⟨fun k => if k = 0 then c0 else if k = 1 then c1 else if k = 2 then c2 else if k = 3 then c3 else if k = 4 then c4 else if k = 5 then c5 else if k = 6 then c6 else if k = 7 then c7 else if k = 8 then c8 else if k = 9 then c9 else c10, fun k => if k = 0 then i0 else if k = 1 then i1 else if k = 2 then i2 else if k = 3 then i3 else if k = 4 then i4 else if k = 5 then i5 else if k = 6 then i6 else if k = 7 then i7 else if k = 8 then i8 else if k = 9 then i9 else i10, ?_⟩
    intro k q hq
    match k, hq with
    | 0, hq => cases hq; exact k0
    | 1, hq => cases hq; exact k1
    | 2, hq => cases hq; exact k2
    | 3, hq => cases hq; exact k3
    | 4, hq => cases hq; exact k4
    | 5, hq => cases hq; exact k5
    | 6, hq => cases hq; exact k6
    | 7, hq => cases hq; exact k7
    | 8, hq => cases hq; exact k8
    | 9, hq => cases hq; exact k9
    | 10, hq => cases hq; exact k10
    | k + 11, hq => simp [mvTab] at hq
  obtain ⟨cA0, kA0, cp0, a1, a2, a3⟩ := Cond.arrayClass_spec (hts _ mv_arrI)
  obtain ⟨cA1, kA1, cp1, a4, a5, a6⟩ := Cond.arrayClass_spec (hts _ mv_arrB)
  have hK : va_K (dC, dI) mvTab [(cA0, .int), (cA1, .boolean)] s := by
    refine ⟨hKc, fun k q hq => ?_⟩
    match k, hq with
    | 0, hq => cases hq; exact ⟨fun n z => ⟨fun k h => (by cases h), kA0, a2, cp0, a3⟩, a1⟩
    | 1, hq => cases hq; exact ⟨fun n z => ⟨fun k h => (by cases h), kA1, a5, cp1, a6⟩, a4⟩
    | k + 2, hq => simp at hq
  -- the constants' row
  obtain ⟨bT, ht1, hT⟩ := va_Tof (args := #[Value.ref b]) (s := s) (tm := Term.static "RunCuts" "TENS" "[I") (ty := .int) (N := 4) (f := fun j => .int (Int32.ofInt ((mvS0 L xs).2.2 1 (j : Int)))) (A := fun q : Nat => s.heap.size ≤ q) (by decide) (hflat _ (by decide +kernel)) (va_eqt (hflat _ (by decide +kernel))) (by
    intro j hj
    match j, hj with
    | 0, _ => exact va_eqt (hflat (Cond.eq (Term.elem (Term.static "RunCuts" "TENS" "[I") (Term.int (0 : Int32))) (Term.int (1 : Int32))) (by decide +kernel))
    | 1, _ => exact va_eqt (hflat (Cond.eq (Term.elem (Term.static "RunCuts" "TENS" "[I") (Term.int (1 : Int32))) (Term.int (10 : Int32))) (by decide +kernel))
    | 2, _ => exact va_eqt (hflat (Cond.eq (Term.elem (Term.static "RunCuts" "TENS" "[I") (Term.int (2 : Int32))) (Term.int (100 : Int32))) (by decide +kernel))
    | 3, _ => exact va_eqt (hflat (Cond.eq (Term.elem (Term.static "RunCuts" "TENS" "[I") (Term.int (3 : Int32))) (Term.int (1000 : Int32))) (by decide +kernel))
    | k + 4, hj => exact absurd hj (by omega)) hA
  have hZ : va_Z "RunCuts" "TENS" "[I" (.ref bT) (fun q : Nat => s.heap.size ≤ q) s s.heap := va_Zref (hts _ mv_tensL) (hts _ (mv_ini2 _ (List.mem_map_of_mem (List.mem_of_getElem? (l := mvTab) (i := 0) rfl)))) ht1 hA
  have hbT : bT < s.heap.size := by obtain ⟨cell, y1, -⟩ := hT; exact (Array.getElem?_eq_some_iff.mp y1).1
  have h2 : ∀ j : Nat, (mvS0 L xs).2.2 2 (j : Int) = (xs j).toInt := by
    intro j
    have e0 : (mvS0 L xs).2.2 2 (j : Int) = (if (j : Int) = -1 then (L : Int) else if 0 ≤ (j : Int) then (xs (j : Int).toNat).toInt else 0) := rfl
    rw [e0, if_neg (by omega), if_pos (by omega)]
    rfl
  have hE : mvEnv (s.heap.size, bT, b) (dC, dI) cA0 cA1 ((mvS0 L xs).2.2 1) ((mvS0 L xs).2.2 2) L s := by
    refine ⟨hK, hZ, hT, ?_, hbT, hbl, Nat.le_refl _, rfl, by omega, ⟨fun z hz => va_Nw.of rfl (hts _ (mv_mn _ (List.mem_map_of_mem hz))), va_Nw.of rfl (hts _ mv_tens)⟩⟩
    have e : (fun j : Nat => Int32.ofInt ((mvS0 L xs).2.2 2 (j : Int))) = xs := by
      funext j
      rw [h2, Int32.ofInt_toInt]
    rw [e]
    exact hX
  obtain ⟨n, σ', hrun, hn'⟩ := mv_goal L xs hL
  have Cx : mvCx p room_1 s m #[Value.ref b] meth c (s.heap.size, bT, b) (dC, dI) cA0 cA1 ((mvS0 L xs).2.2 1) ((mvS0 L xs).2.2 2) L 11 8 false code :=
    ⟨hx, hb, hown, fun h => (by cases h), fun w hw => hts w (mvTb_in hw), by decide, by decide, hE⟩
  have hP : va_P (dC, dI) mvTab (mvWd (s.heap.size, bT, b) cA0 cA1 (mvS0 L xs)) s.heap := fun k q h => by
    obtain ⟨h, -⟩ := mvWd_at h
    exact absurd h (by show ¬ k < 3 - 3; omega)
  have hoks : mvOks ((mvS0 L xs).2.2 1) ((mvS0 L xs).2.2 2) (mvS0 L xs) := by
    refine ⟨Nat.le_refl _, fun a i => ?_, rfl, rfl⟩
    have key : mv32 ((mvS0 L xs).2.2 a i) := by
      show mv32 (if a = 1 then _ else if a = 2 then _ else _)
      have h0 := mv_i32 (xs i.toNat)
      unfold mv32 at h0 ⊢
      repeat' split
      all_goals omega
    exact ⟨key.to64, fun _ => key⟩
  have hl := mvEntry_lr (s.heap.size, bT, b) (n := 4) (as := [mvR 2]) (by decide)
  have K := mv_sim (l := l) (b := (s.heap.size, bT, b)) (D := (dC, dI)) (cA0 := cA0) (cA1 := cA1) (t1 := (mvS0 L xs).2.2 1) (t2 := (mvS0 L xs).2.2 2) (Ls := L) n p e room_1 s m #[Value.ref b] below meth c (lw_Z below #[Value.ref b] s) 3 255 _ 0 [some (mvR 2), none, none, none] [] (mvS0 L xs) (some (mvI 1)) σ' mv_lawq Cx (by rw [hml]; rfl) (Nat.le_refl _) (by rw [hn']; exact ⟨by decide, by rw [mv_sz97]; decide⟩) hrun ?_
  · have K2 := K s.heap [] _ ⟨hoks, fun _ h => absurd h List.not_mem_nil, mvEntry_ok (n := 4) (as := [mvR 2]) (by intro v hv; rw [List.mem_singleton] at hv; subst hv; trivial), rfl, hP, va_S.rf, hl⟩
    rw [lg_entry_eq]
    exact K2
  · intro pc' L' S' ins len hd ht H locs ls h
    unfold mvRet at ht
    split at ht
    · split at ht
      · rename_i x
        split at ht
        · cases ht
          rw [hn', mv_sz97]
          refine va_forget (fun q hq => h.2.2.2.2.2.1.2.2 q hq) ?_
          exact lw_ret hx hb hr hlocks hd
        · cases ht
      · cases ht
    · split at ht
      · split at ht <;> cases ht
      · cases ht
    · split at ht
      · split at ht <;> cases ht
      · cases ht
    · cases ht
-- ===== YOUR PART ENDS =====
set_option maxHeartbeats 4000000 in
theorem lw_walk (l : Launch) (hflags : l.flags = flags0) (b : Addr) (xs : List Int32) : MetFree l x (headSpec (Jvm.Cond.code x code maxLocals ret :: tables_1) room_1) (lw_P b xs) (fun _ _ _ _ _ => True) lw_Q := by
  refine MetFree.of_bodyS (code := code) (maxLocals := maxLocals) (ret := ret) (by decide) ?_ ?_
  · intro args s m h hn
    obtain ⟨meth, c, h1, h2, h3, h4, h5, h6, -, -⟩ := Cond.code_spec hn (atoms_spec (ws := Jvm.Cond.code x code maxLocals ret :: tables_1) h _ List.mem_cons_self)
    exact ⟨meth, c, h1, h2, h3, h4, h5, h6⟩
  · intro p e s m args below meth c s₁ B hml0 hP _
    obtain ⟨rfl, hx, hbd, hgv⟩ := hP
    obtain ⟨scr, harrAt, hlist, hof, hsmall⟩ := hx
    obtain ⟨hcb, hkn, -, -⟩ := State.arrayAt?_spec harrAt
    have hown : s.vm.findClass R_law = some m.cls := findClass_of_methodNamed B.named
    have hts0 : ∀ c ∈ (Jvm.Cond.code x code maxLocals ret :: tables_1), c.before #[Value.ref b] s = true := atoms_spec (ws := Jvm.Cond.code x code maxLocals ret :: tables_1) B.pre
    have hts : ∀ w ∈ lw_tbl, w.before #[Value.ref b] s = true := k2_hts_sels lw_privs (fun w hw => hts0 w (List.mem_cons_of_mem _ hw)) lw_privs_ok
    have hml : c.maxLocals = 4 := B.maxLocals_eq (hts0 _ List.mem_cons_self)
    have X₀ : Stand p l e room_1 s m #[Value.ref b] below meth c s₁ [] 0 0 := Stand.of_body B
    have hh0 : s₁.heap = s.heap := by rw [B.state]; rfl
    have hsz : scr.slots.size = xs.length := by rw [← Array.length_toList, hlist, List.length_map]
    have hval : ∀ j : Nat, j < xs.length → scr.slots[j]? = some (.int (xs.getD j 0)) := fun j hj => by
      rw [← Array.getElem?_toList, hlist]
      simp [hj]
    have hbl : b < s.heap.size := (Array.getElem?_eq_some_iff.mp hcb).1
    have hX : va_X b xs.length (fun j => xs.getD j 0) s s.heap := ⟨scr, hcb, hof, hkn, hsz, hval⟩
    have K : W p l e room_1 s m #[Value.ref b] below meth c s₁.heap [] 0 0 (lw_Z below #[Value.ref b] s) (entryFrame m ([Value.ref b] : List Value).toArray 4) := by
      rw [hh0]
      exact whole_start l hflags hbd ⟨B.exec, B.bytes, B.returns, hml, hown, hts, hX, hbl, B.notSynchronized, hgv⟩
    obtain ⟨t, a1, o, b1, b2, b3⟩ := K s₁ rfl X₀
    exact ⟨t, o, a1, b1, b2, b3⟩
theorem lw_pre_spec {args : Array Value} {s : State} (h : (Jvm.Cond.and given_1 narrow_1).before args s = true) (hr : rest_1_c.before args s = true) : ∃ (b : Addr) (xs : List Int32), lw_P b xs args s := by
  have hs := flat_of_before _ h
  have hq := flat_of_before _ hr
  have hc : (Cond.count 1).before args s = true := hs _ (by decide +kernel)
  have harr : (Cond.arrayOf (.arg 0) .int).before args s = true := hs _ (by decide +kernel)
  have hle : (Cond.le (.length (.arg 0)) (.int 2560)).before args s = true := hs _ (by decide +kernel)
  have hlen : (Cond.isInt (.length (.arg 0))).before args s = true := hq _ (by decide +kernel)
  have hall : (Cond.all (.arg 0) (.isInt (.elem (.arg 0) (.index 0)))).before args s = true := hq _ (by decide +kernel)
  obtain ⟨b, xs, hb, hx⟩ := State.ints_of_pre rfl harr hlen hall
  have hsm : xs.length < 2 ^ 31 := hx.choose_spec.2.2.2
  have hev : (Term.length (.arg 0)).eval args s none [] s = some (.int xs.length.toInt32) := hx.length_eval hb
  have hv := Cond.le_ints hev (show (Term.int 2560).eval args s none [] s = some (.int 2560) from rfl)
  have hd : xs.length.toInt32 ≤ 2560 := by
    simpa [Cond.before, Cond.holds, hv] using hle
  have hN : xs.length ≤ 2560 := (Int32.ofNat_le_ofNat hsm (by decide)).mp (show Int32.ofNat xs.length ≤ Int32.ofNat 2560 from hd)
  exact ⟨b, xs, Cond.one_arg hc (show args[0]? = some (.ref b) from hb), hx, hN, h⟩
theorem lw_comes (l : Launch) (hflags : l.flags = flags0) : Comes l x (Jvm.Cond.code x code maxLocals ret :: tables_1) room_1 (fun tb e args s => Calls_1 tb e args s ∧ rest_1 tb e args s ∧ Pre_1 tb e args s)
    (fun _ _ args s o t => lw_Q args s o t) := by
  intro p e ha hc hk s m args below hf hfit hheap happ hpre
  obtain ⟨b, xs, hP⟩ := lw_pre_spec hpre.2.2 hpre.2.1
  obtain ⟨k, o, h1, h2, h3, hQ⟩ := lw_walk l hflags b xs p e ha hc hk s m args below hf ((Spec.applies_iff_loose hf).mp happ).1 hP trivial
  exact ⟨k, o, h1, h2, h3, hQ⟩
theorem lw_frame {s t : State} {o : Outcome} {args : Array Value} (h : Framed s o t [] 94 12024) :
    Framed s o t (fieldLocs frame_1_writes args s ++ arrayLocs frame_1_arrays args s ++ staticLocs frame_1_statics s) 94 12024 := h
theorem lw_limb (L : Cond) (hL : ∀ (args : Array Value) (s t : State), L.after args s (.returned (some (.int 1))) t = true) :
    ArmFor flags0 classFile x code maxLocals ret World_1 tables_1 room_1 Calls_1 rest_1 Pre_1
      (fun tb e a s o t => postC L tb e a s o t ∧ Framed s o t (fieldLocs frame_1_writes a s ++ arrayLocs frame_1_arrays a s ++ staticLocs frame_1_statics s) 94 12024) := by
  intro l hflags _ _ p e ha hc hk s m args below hf hfit hheap happ hpre
  obtain ⟨k, o, h1, h2, h3, rfl, hF⟩ := lw_comes l hflags p e ha hc hk s m args below hf hfit hheap happ hpre
  exact ⟨k, _, h1, h2, h3, hL args s _, lw_frame hF⟩
theorem i_vc : Claimed_1_1 ∧ Claimed_1_2 := ⟨lw_limb limb_1_1 (fun args s t => by simp [limb_1_1, Cond.after, Cond.holds, Cond.value]), lw_limb limb_1_2 (fun args s t => Cond.after_iff.mpr (by
  first | (rw [show limb_1_2 = Cond.eq .result (.int 1) from rfl, Cond.eq_ints (x := 1) (y := 1) rfl rfl]; simp; done) | (simp [limb_1_2, Cond.value, Term.eval]; done)))⟩
