section MVS
variable {p : Program} {l : Launch} {e : Env} {R : Room} {s : State} {m : MethodId} {args : Array Value} {below : List Frame} {meth : Method} {c : Code} {Q : State → Prop}
variable {b : mvBs} {D : va_G} {cA0 cA1 : ClassId} {t1 t2 : Int → Int} {Ls n0 own rk : Nat} {ini : Bool} {cc : ByteArray}
/-- a run of the mini machine from a frame is one of the machine, to its return -/
def mvSim (l : Launch) (b : mvBs) (D : va_G) (cA0 cA1 : ClassId) (t1 t2 : Int → Int) (Ls n : Nat) : Prop :=
  ∀ (p : Program) (e : Env) (R : Room) (s : State) (m : MethodId) (args : Array Value) (below : List Frame) (meth : Method) (c : Code) (Q : State → Prop) (n0 j : Nat) (q : mvMt) (pc : Nat) (L : mvL) (S : List mvV) (σ : mvS) (r : Option mvV) (σ' : mvS),
    mvMd[j]? = some q → mvCx p R s m args meth c b D cA0 cA1 t1 t2 Ls (mvOwn q) (mvRk q) (mvKd q == 2) q.2.1 → L.length = c.maxLocals → n0 ≤ σ.1 → mvRoom R n0 σ'.1 → mvRun n j pc L S σ = some (r, σ') →
    (∀ (pc' : Nat) (L' : mvL) (S' : List mvV) (ins : Instr) (len : Nat), decode q.2.1 pc' = .ok (ins, len) → mvRet q.2.2.2.1 ins len S' = some r → mvW p l e R s m args below meth c Q b D cA0 cA1 t1 t2 n0 pc' L' S' σ') →
    mvW p l e R s m args below meth c Q b D cA0 cA1 t1 t2 n0 pc L S σ
theorem mv_ret_end {q : mvMt} {r : Option mvV} {σ' : mvS} {n0 pc : Nat} {L : mvL} {S : List mvV} {ins : Instr} {len : Nat} (Cx : mvCx p R s m args meth c b D cA0 cA1 t1 t2 Ls (mvOwn q) (mvRk q) (mvKd q == 2) q.2.1) (hr : meth.sig.returnType = q.2.2.2.1) (hlocks : meth.locks = false)
    (hd : decode q.2.1 pc = .ok (ins, len)) (ht : mvRet q.2.2.2.1 ins len S = some r) : mvW p l e R s m args below meth c (MQ below (mvQc b D cA0 cA1 t1 t2 Ls r σ') args s (σ'.1 - n0) (mvSz σ'.1 - mvSz n0) (fun q => b.1 ≤ q)) b D cA0 cA1 t1 t2 n0 pc L S σ' := by
  intro H locs ls h
  obtain ⟨g1, g2, g3, g4, g5, g6, g7⟩ := h
  obtain ⟨hx, hb, -, -, -, -, -, hE⟩ := Cx
  have fin : (∀ v, r = some v → mvOk v) → ∀ t : State, t.heap = H → s.WarmedH t.vm → mvQc b D cA0 cA1 t1 t2 Ls r σ' args s (.returned (r.map (mvRv b))) t := fun hok t ht hW =>
    ⟨⟨rfl, hok, g1, mvEnv_to hW.alike (mvNs_warm hW) (by rw [ht]; exact g6.1) (fun q h1 h2 => by rw [ht]; exact g6.2.1 q h1 h2) hE, by rw [ht]; exact g4, by rw [ht]; exact g5⟩, va_S.F g6 ht⟩
  unfold mvRet at ht
  split at ht
  · split at ht
    · rename_i x
      split at ht
      · rename_i hh
        cases ht
        have hx1 : mv32 x := g2 (mvI x) List.mem_cons_self
        rcases hh with hh | ⟨hh, h01⟩
        · exact W.zret hx hb (hr.trans hh) rfl (fin (fun v hv => by cases hv; exact hx1)) g6.2.2 hd hlocks
        · exact W.zret hx hb (hr.trans hh) (by rcases h01 with rfl | rfl <;> rfl) (fin (fun v hv => by cases hv; exact hx1)) g6.2.2 hd hlocks
      · cases ht
    · cases ht
  · split at ht
    · rename_i x
      split at ht
      · rename_i hh
        cases ht
        have hx1 : mv64 x := g2 (mvJ x) List.mem_cons_self
        exact W.lret hx hb (hr.trans hh) (fin (fun v hv => by cases hv; exact hx1)) g6.2.2 hd hlocks
      · cases ht
    · cases ht
  · split at ht
    · split at ht
      · rename_i hh
        cases ht
        exact W.vret hx hb (hr.trans hh) (fin (fun v hv => by cases hv)) g6.2.2 hd hlocks
      · cases ht
    · cases ht
  · cases ht
/-- a method's contract out of its run -/
theorem mv_met {n : Nat} (IH : mvSim l b D cA0 cA1 t1 t2 Ls n) {j : Nat} {q : mvMt} {as : List mvV} {σ σ' : mvS} {r : Option mvV} (hq : mvMd[j]? = some q) (hrun : mvRun n j 0 (mvEntry q.2.2.1 as) [] σ = some (r, σ')) (hok : ∀ v ∈ as, mvOk v) (hfl : (mvFlat as).length ≤ q.2.2.1) :
    Met l q.1 (mvWs q) (mvRm q σ.1 σ'.1) (mvPc b D cA0 cA1 t1 t2 Ls as σ) (mvQc b D cA0 cA1 t1 t2 Ls r σ') (σ'.1 - σ.1) (mvSz σ'.1 - mvSz σ.1) (fun q => b.1 ≤ q) := by
  have hmem := List.mem_of_getElem? hq
  obtain ⟨k1, k2, k3, k4, k5⟩ := mv_md_ok q hmem
  refine Met.ofW (cc := q.2.1) (maxL := q.2.2.1) (ret := q.2.2.2.1) k1 rfl ?_
  intro p e s m args below meth c s₁ B hml hv
  obtain ⟨rfl, g1, hE, g4, g5⟩ := hv
  have hts0 := atoms_spec (ws := mvWs q) B.pre
  have hts : ∀ w ∈ mvTb, w.before (as.map (mvRv b)).toArray s = true := fun w hw => hts0 w (List.mem_cons_of_mem _ hw)
  have hown : s.vm.findClass (mvCn (mvOwn q)) = some m.cls := by rw [k2]; exact findClass_of_methodNamed B.named
  have hnm := (name_of_methodNamed B.named B.method).1
  have Cx : mvCx p (headSpec (mvWs q) (mvRm q σ.1 σ'.1)).room s m (as.map (mvRv b)).toArray meth c b D cA0 cA1 t1 t2 Ls (mvOwn q) (mvRk q) (mvKd q == 2) q.2.1 :=
    ⟨B.exec, B.bytes, hown, fun hk => hnm.trans (k4 (beq_iff_eq.mp hk)).1, hts, Nat.le_refl _, Nat.le_refl _, hE⟩
  have K := IH p e (headSpec (mvWs q) (mvRm q σ.1 σ'.1)).room s m (as.map (mvRv b)).toArray below meth c (MQ below (mvQc b D cA0 cA1 t1 t2 Ls r σ') (as.map (mvRv b)).toArray s (σ'.1 - σ.1) (mvSz σ'.1 - mvSz σ.1) (fun q => b.1 ≤ q)) σ.1 j q 0 (mvEntry q.2.2.1 as) [] σ r σ' hq Cx (by rw [mvEntry_len hfl, hml]) (Nat.le_refl _) ⟨Nat.le_refl _, Nat.le_refl _⟩ hrun
    (fun pc' L' S' ins len hd ht => mv_ret_end Cx B.returns B.notSynchronized hd ht)
  have K2 := K s.heap [] _ ⟨g1, fun _ h => absurd h List.not_mem_nil, mvEntry_ok hok, g4, g5, va_S.rf, mvEntry_lr b hfl⟩
  rw [Nat.sub_self, Nat.sub_self] at K2
  rw [lg_entry_eq]
  exact K2
theorem mv_rev {α : Type} {S : List α} {n : Nat} : S = (S.take n).reverse.reverse ++ S.drop n := by rw [List.reverse_reverse, List.take_append_drop]
theorem mv_sum_cat {S : List mvV} : ((S.map (mvRv b)).map fun v => v.category).sum = mvCats S := by
  unfold mvCats
  rw [List.map_map]
  congr 1
  exact List.map_congr_left fun v _ => mvRv_cat b v
theorem mvCallN_spec {k j j' : Nat} {S as S' : List mvV} (h : mvCallN rk k j S = some (j', as, S')) : ∃ q, mvMd[j]? = some q ∧ j' = j ∧ mvRk q < rk ∧ as.length = k + mvNa q ∧ S = as.reverse ++ S' ∧ mvCats S' ≤ 8 ∧ (mvFlat as).length ≤ q.2.2.1 ∧ (if k = 1 then ¬ mvKd q = 1 else mvKd q = 1) := by
  unfold mvCallN at h
  split at h
  · rename_i q hq
    by_cases hh : mvRk q < rk ∧ k + mvNa q ≤ S.length ∧ mvCats (S.drop (k + mvNa q)) ≤ 8 ∧ (mvFlat (S.take (k + mvNa q)).reverse).length ≤ q.2.2.1 ∧ (if k = 1 then ¬ mvKd q = 1 else mvKd q = 1)
    · rw [if_pos hh] at h
      obtain ⟨h1, h2, h3, h4, h5⟩ := hh
      cases h
      refine ⟨q, hq, rfl, h1, ?_, mv_rev, h3, h4, h5⟩
      rw [List.length_reverse, List.length_take]
      omega
    · rw [if_neg hh] at h; cases h
  · cases h
/-- the call itself, by its kind -/
theorem mvs_call {n : Nat} (IH : mvSim l b D cA0 cA1 t1 t2 Ls n) {j' : Nat} {q' : mvMt} {L : mvL} {S as S' : List mvV} {σ σ1 : mvS} {r1 : Option mvV} {pc len : Nat} {ins : Instr} (Cx : mvCx p R s m args meth c b D cA0 cA1 t1 t2 Ls own rk ini cc) (hd : decode cc pc = .ok (ins, len)) (hc : mvCall own rk ins len S σ = some (j', as, S')) (hq : mvMd[j']? = some q')
    (hln : L.length = c.maxLocals) (hrun : mvRun n j' 0 (mvEntry q'.2.2.1 as) [] σ = some (r1, σ1)) (hn0 : n0 ≤ σ.1) (hR : mvRoom R n0 σ1.1) (kk : mvW p l e R s m args below meth c Q b D cA0 cA1 t1 t2 n0 (pc + 3) L (r1.toList ++ S') σ1) : mvW p l e R s m args below meth c Q b D cA0 cA1 t1 t2 n0 pc L S σ := by
  intro H locs ls h
  have h01 : σ.1 ≤ σ1.1 := mvRun_mono _ _ _ _ _ _ _ _ hrun
  have hx := Cx.1
  have hb := Cx.2.1
  have hown := Cx.2.2.1
  have hts := Cx.2.2.2.2.1
  have hfr := Cx.2.2.2.2.2.1
  have hlo := Cx.2.2.2.2.2.2.1
  have hE := Cx.2.2.2.2.2.2.2
  have hlsz : ls.size = c.maxLocals := h.2.2.2.2.2.2.1.trans hln
  have hmem := List.mem_of_getElem? hq
  obtain ⟨k1, k2, k3, k4, k5⟩ := mv_md_ok q' hmem
  have hcells : (σ.1 - n0) + (σ1.1 - σ.1) ≤ R.cells ∧ (mvSz σ.1 - mvSz n0) + (mvSz σ1.1 - mvSz σ.1) ≤ R.slots := by
    have a1 := hR.1
    have a2 := hR.2
    have a3 := mvSz_mono hn0
    have a4 := mvSz_mono h01
    exact ⟨by omega, by omega⟩
  have Sx : CallFix p m c cc ls.size s args mvTb (mvCn own) := ⟨hx, hb, hlsz.symm, hown, hts⟩
  -- what every kind has in common
  have common : ∀ (jj k : Nat) (hj : jj < 255), mvCallN rk k jj S = some (j', as, S') → mvWcode q' ∈ mvTb ∧ q' ∈ mvMt0 ∧ mvRk q' + 1 ≤ R.frames ∧ 8 + (q'.2.2.1 + 11) + 40 * mvRk q' ≤ R.locals ∧ as.length = k + mvNa q' ∧ S = as.reverse ++ S' ∧ mvCats S' ≤ 8 ∧ (mvFlat as).length ≤ q'.2.2.1 ∧ (if k = 1 then ¬ mvKd q' = 1 else mvKd q' = 1) ∧ jj = j' := by
    intro jj k hj hN
    obtain ⟨q, hq2, rfl, c1, c2, c3, c4, c5, c6⟩ := mvCallN_spec hN
    cases hq.symm.trans hq2
    have hm0 := mv_take hj hq
    exact ⟨mt_code hmem (mv_md_own q' hm0), hm0, by omega, by omega, c2, c3, c4, c5, c6, rfl⟩
  have hok : S = as.reverse ++ S' → (∀ v ∈ as, mvOk v) ∧ ∀ v ∈ S', mvOk v := fun e => ⟨fun v hv => h.2.1 v (by rw [e]; exact List.mem_append_left _ (List.mem_reverse.mpr hv)), fun v hv => h.2.1 v (by rw [e]; exact List.mem_append_right _ hv)⟩
  have hroom : mvCats S' ≤ 8 → ∀ st, 2 * (F0 m pc ls st).monitorRoom + ((S'.map (mvRv b)).map fun v => v.category).sum ≤ 8 := fun hc8 st => lv_room (by rw [mv_sum_cat]; exact hc8)
  have hyj : mvY j' = q'.1 := by unfold mvY; rw [hq]; rfl
  -- calls on an object
  have onobj : ∀ (jj : Nat) (hj : jj < 255) (hN : mvCallN rk 1 jj S = some (j', as, S')) (hrc : mvRecvB σ j' as = true), ∃ (a : Nat) (as' : List mvV), as = mvR a :: as' ∧ as'.length = mvNa q' ∧ (∃ cell : Cell, H[mvB b a]? = some cell ∧ cell.vm.isStatics = false ∧ s.vm.findClass q'.1.cls = some cell.cls) ∧ (S.map (mvRv b)) = (as'.map (mvRv b)).reverse ++ .ref (mvB b a) :: S'.map (mvRv b) := by
    intro jj hj hN hrc
    obtain ⟨-, -, -, -, e1, e2, -, -, -, rfl⟩ := common jj 1 hj hN
    unfold mvRecvB at hrc
    split at hrc
    · rename_i a as'
      have hrc := of_decide_eq_true hrc
      rw [hq] at hrc
      simp only [Option.map_some, Option.getD_some] at hrc
      obtain ⟨i1, i2, i3⟩ := mvIs_spec hrc (by decide)
      have hg := mvWd_get (b := b) (cA0 := cA0) (cA1 := cA1) i1 i2
      obtain ⟨tq, htq⟩ := (mvSH_ok a).1 (by rw [i3])
      rw [i3] at htq
      simp only at htq
      have hce : mvCe b cA0 cA1 σ a = .inr (mvOwn q', (List.range (mvNf (mvOwn q'))).map (fun f => mvFv b σ a (mvOwn q') f)) := by
        unfold mvCe
        rw [i3]
        rfl
      rw [hce] at hg
      have hre := va_recv hE.1 h.2.2.2.2.1 htq hg
      have hf1 := (mv_fact _ _ htq).1
      refine ⟨a, as', rfl, ?_, ?_, ?_⟩
      · have e1' : as'.length + 1 = 1 + mvNa q' := e1
        omega
      · rw [← k2, ← hf1]; exact hre
      · rw [e2, List.reverse_cons]
        simp [mvRv]
    · cases hrc
  unfold mvCall at hc
  split at hc
  · -- invokevirtual
    rename_i ix
    split at hc
    · rename_i jj hl
      have hm := mv_lookup hl
      obtain ⟨z1, z2, z3, z4⟩ := mv_ml_lt _ hm
      simp only at z1 z2
      split at hc
      · rename_i j2 as2 S2 hN
        split at hc
        · rename_i hrc
          cases hc
          obtain ⟨c1, c2, c3, c4, c5, c6, c7, c8, c9, rfl⟩ := common jj 1 z1 hN
          obtain ⟨a, as', rfl, e1, e2, e3⟩ := onobj jj z1 hN hrc
          have hkd : mvKd q' = 0 := by have := z2 trivial; rw [hq] at this; simpa using this
          have hw := mt_ml _ (List.mem_map_of_mem (List.mem_filter.mpr ⟨hm, by simp⟩))
          simp only [hyj] at hw
          have hi := mt_in _ (List.mem_map_of_mem (List.mem_filter.mpr ⟨c2, by
            have : q'.2.2.2.2.2.2.1 = 0 := hkd
            simp [this]⟩))
          have hse := mt_se _ (List.mem_map_of_mem (List.mem_filter.mpr ⟨c2, by
            have : q'.2.2.2.2.2.2.1 = 0 := hkd
            simp [this]⟩))
          have hini := mt_ini _ (List.mem_map_of_mem c2)
          have hM := mv_met IH hq hrun (hok c6).1 c8
          refine mvs_back (r := r1) h (hok c6).2 hn0 h01 (va_runV (As := as'.map (mvRv b)) (b := mvB b a) Sx hM ⟨callB_of (mvNa q') hts (mvWs_good c1) rfl rfl rfl (hts _ hini) (hts _ hw) k3 ⟨c3, c4⟩, hts _ hi, hts _ hse⟩ ⟨mvPc_blind, e2, fun U hU hW => ?_⟩ rfl (by rw [List.length_map]; exact e1) rfl e3 (hroom c7 _) hd hcells) kk
          exact mvPc_at (as := mvR a :: as') hE h U hU hW
        · cases hc
      · cases hc
    · cases hc
  · -- invokespecial
    rename_i ix
    split at hc
    · rename_i jj hl
      have hm := mv_lookup hl
      obtain ⟨z1, z2, z3, z4⟩ := mv_ml_lt _ hm
      simp only at z1 z3
      split at hc
      · rename_i j2 as2 S2 hN
        split at hc
        · rename_i hrc
          cases hc
          obtain ⟨c1, c2, c3, c4, c5, c6, c7, c8, c9, rfl⟩ := common jj 1 z1 hN
          obtain ⟨a, as', rfl, e1, e2, e3⟩ := onobj jj z1 hN hrc
          have hkd : mvKd q' = 2 := by have := z3 (Or.inl trivial); rw [hq] at this; simpa using this
          have hw := mt_ml _ (List.mem_map_of_mem (List.mem_filter.mpr ⟨hm, by simp⟩))
          simp only [hyj] at hw
          have hi := mt_in _ (List.mem_map_of_mem (List.mem_filter.mpr ⟨c2, by
            have : q'.2.2.2.2.2.2.1 = 2 := hkd
            simp [this]⟩))
          have hini := mt_ini _ (List.mem_map_of_mem c2)
          have hM := mv_met IH hq hrun (hok c6).1 c8
          have hB := callB_of (R := R) (rm := mvRm q' σ.1 σ1.1) (mvNa q') hts (mvWs_good c1) rfl rfl rfl (hts _ hini) (hts _ hw) k3 ⟨c3, c4⟩
          rw [(k4 hkd).2] at hB
          refine mvs_back (r := r1) h (hok c6).2 hn0 h01 (va_runI (As := as'.map (mvRv b)) (b := mvB b a) Sx hM ⟨hB, (k4 hkd).1, hts _ hi⟩ ⟨mvPc_blind, fun U hU hW => ?_⟩ rfl (by rw [List.length_map]; exact e1) rfl e3 (hroom c7 _) hd hcells) kk
          exact mvPc_at (as := mvR a :: as') hE h U hU hW
        · cases hc
      · cases hc
    · rename_i jj hl
      have hm := mv_lookup hl
      obtain ⟨z1, z2, z3, z4⟩ := mv_ml_lt _ hm
      simp only at z1 z3
      split at hc
      · rename_i j2 as2 S2 hN
        split at hc
        · rename_i hrc
          cases hc
          obtain ⟨c1, c2, c3, c4, c5, c6, c7, c8, c9, rfl⟩ := common jj 1 z1 hN
          obtain ⟨a, as', rfl, e1, e2, e3⟩ := onobj jj z1 hN hrc
          have hkd : mvKd q' = 2 := by have := z3 (Or.inr trivial); rw [hq] at this; simpa using this
          have hw := hE.2.2.2.2.2.2.2.2.2.1 _ (List.mem_filter.mpr ⟨hm, by simp⟩)
          simp only [hyj] at hw
          have hi := mt_in _ (List.mem_map_of_mem (List.mem_filter.mpr ⟨c2, by
            have : q'.2.2.2.2.2.2.1 = 2 := hkd
            simp [this]⟩))
          have hini := mt_ini _ (List.mem_map_of_mem c2)
          have hM := mv_met IH hq hrun (hok c6).1 c8
          have hB := va_cnB (R := R) (rm := mvRm q' σ.1 σ1.1) (mvNa q') hts (mvWs_good c1) rfl rfl rfl hw (hts _ hini) k3 ⟨c3, c4⟩
          rw [(k4 hkd).2] at hB
          refine mvs_back (r := r1) h (hok c6).2 hn0 h01 (va_runIN (As := as'.map (mvRv b)) (b := mvB b a) Sx hM ⟨hB, (k4 hkd).1, hts _ hi⟩ ⟨mvPc_blind, fun U hU hW => ?_⟩ rfl (by rw [List.length_map]; exact e1) rfl e3 (hroom c7 _) hd hcells) kk
          exact mvPc_at (as := mvR a :: as') hE h U hU hW
        · cases hc
      · cases hc
    · cases hc
  · -- invokestatic
    rename_i ix
    split at hc
    · rename_i jj hl
      have hm := mv_lookup hl
      obtain ⟨z1, z2, z3, z4⟩ := mv_ml_lt _ hm
      simp only at z1 z4
      obtain ⟨c1, c2, c3, c4, c5, c6, c7, c8, c9, rfl⟩ := common jj 0 z1 hc
      have hkd : mvKd q' = 1 := by have := z4 (Or.inl trivial); rw [hq] at this; simpa using this
      have hw := mt_ml _ (List.mem_map_of_mem (List.mem_filter.mpr ⟨hm, by simp⟩))
      simp only [hyj] at hw
      have hi := mt_st _ (List.mem_map_of_mem (List.mem_filter.mpr ⟨c2, by
        have : q'.2.2.2.2.2.2.1 = 1 := hkd
        simp [this]⟩))
      have hini := mt_ini _ (List.mem_map_of_mem c2)
      have hM := mv_met IH hq hrun (hok c6).1 c8
      refine mvs_back (r := r1) h (hok c6).2 hn0 h01 (va_runS (As := as.map (mvRv b)) Sx hM ⟨callB_of (mvNa q') hts (mvWs_good c1) rfl rfl rfl (hts _ hini) (hts _ hw) k3 ⟨c3, c4⟩, hts _ hi⟩ ⟨mvPc_blind, fun U hU hW => mvPc_at hE h U hU hW⟩ rfl (by rw [List.length_map]; omega) rfl (by rw [c6]; simp) (hroom c7 _) hd hcells) kk
    · rename_i jj hl
      have hm := mv_lookup hl
      obtain ⟨z1, z2, z3, z4⟩ := mv_ml_lt _ hm
      simp only at z1 z4
      obtain ⟨c1, c2, c3, c4, c5, c6, c7, c8, c9, rfl⟩ := common jj 0 z1 hc
      have hkd : mvKd q' = 1 := by have := z4 (Or.inr trivial); rw [hq] at this; simpa using this
      have hw := hE.2.2.2.2.2.2.2.2.2.1 _ (List.mem_filter.mpr ⟨hm, by simp⟩)
      simp only [hyj] at hw
      have hi := mt_st _ (List.mem_map_of_mem (List.mem_filter.mpr ⟨c2, by
        have : q'.2.2.2.2.2.2.1 = 1 := hkd
        simp [this]⟩))
      have hini := mt_ini _ (List.mem_map_of_mem c2)
      have hM := mv_met IH hq hrun (hok c6).1 c8
      refine mvs_back (r := r1) h (hok c6).2 hn0 h01 (va_runSN (As := as.map (mvRv b)) Sx hM ⟨va_cnB (mvNa q') hts (mvWs_good c1) rfl rfl rfl hw (hts _ hini) k3 ⟨c3, c4⟩, hts _ hi, trivial⟩ ⟨mvPc_blind, fun U hU hW => mvPc_at hE h U hU hW⟩ rfl (by rw [List.length_map]; omega) rfl (by rw [c6]; simp) (hroom c7 _) hd hcells) kk
    · cases hc
  · cases hc
theorem mv_sim : ∀ n : Nat, mvSim l b D cA0 cA1 t1 t2 Ls n := by
  intro n
  induction n with
  | zero => intro p e R s m args below meth c Q n0 j q pc L S σ r σ' _ _ _ _ _ hrun; cases hrun
  | succ n IH =>
    intro p e R s m args below meth c Q n0 j q pc L S σ r σ' hq Cx hln hn0 hR hrun hret
    unfold mvRun at hrun
    rw [hq] at hrun
    split at hrun
    · rename_i q2 ins len e1 e2
      cases e1
      have hd := mv_dec hq e2
      split at hrun
      · rename_i pc' L' S' σ1 hs
        have h1 := mvStep_len hs
        have h2 := mvRun_mono _ _ _ _ _ _ _ _ hrun
        have hR1 : mvRoom R n0 σ1.1 := ⟨by have := hR.1; omega, by have := hR.2; have := mvSz_mono h2; omega⟩
        exact mvs_step Cx hd hs hln hn0 hR1 (IH p e R s m args below meth c Q n0 j _ pc' L' S' σ1 r σ' hq Cx (h1.1.trans hln) (Nat.le_trans hn0 h1.2) hR hrun hret)
      · split at hrun
        · rename_i j' as S' hc
          split at hrun
          · rename_i q' hq'
            split at hrun
            · rename_i r1 σ1 hr1
              have h1 := mvRun_mono _ _ _ _ _ _ _ _ hr1
              have h2 := mvRun_mono _ _ _ _ _ _ _ _ hrun
              have hR1 : mvRoom R n0 σ1.1 := ⟨by have := hR.1; omega, by have := hR.2; have := mvSz_mono h2; omega⟩
              exact mvs_call IH Cx hd hc hq' hln hr1 hn0 hR1 (IH p e R s m args below meth c Q n0 j _ (pc + 3) L (r1.toList ++ S') σ1 r σ' hq Cx hln (Nat.le_trans hn0 h1) hR hrun hret)
            · cases hrun
          · cases hrun
        · split at hrun
          · rename_i r1 ht
            cases hrun
            exact hret pc L S ins len hd ht
          · cases hrun
    · cases hrun
end MVS
