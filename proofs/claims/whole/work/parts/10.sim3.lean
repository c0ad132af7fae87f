section MVS
variable {p : Program} {l : Launch} {e : Env} {R : Room} {s : State} {m : MethodId} {args : Array Value} {below : List Frame} {meth : Method} {c : Code} {Q : State → Prop}
variable {b : mvBs} {D : va_G} {cA0 cA1 : ClassId} {t1 t2 : Int → Int} {Ls n0 own rk : Nat} {ini : Bool} {cc : ByteArray}
theorem mvWd_new {σ : mvS} (h3 : 3 ≤ σ.1) : mvWd b cA0 cA1 (mvNew σ) = mvWd b cA0 cA1 σ ++ [(mvB b σ.1, mvCe b cA0 cA1 (mvNew σ) σ.1)] := by
  unfold mvWd
  show List.map _ (List.range (σ.1 + 1 - 3)) = _
  rw [show σ.1 + 1 - 3 = (σ.1 - 3) + 1 by omega, List.range_succ, List.map_append]
  congr 1
  · refine List.map_congr_left fun i hi => ?_
    rw [List.mem_range] at hi
    rw [mvCe_congr (σ := σ) (σ' := mvNew σ) (k := i + 3)]
    · funext f; show (if i + 3 = σ.1 then 0 else σ.2.1 (i + 3) f) = _; rw [if_neg (by omega)]
    · funext f; show (if i + 3 = σ.1 then 0 else σ.2.2 (i + 3) f) = _; rw [if_neg (by omega)]
  · simp only [List.map_cons, List.map_nil]
    rw [show σ.1 - 3 + 3 = σ.1 by omega]
    unfold mvB
    rw [if_neg (by omega), if_neg (by omega)]
theorem mvNew_ok {σ : mvS} (h : mvOks t1 t2 σ) : mvOks t1 t2 (mvNew σ) := by
  obtain ⟨h1, h2, h3, h4⟩ := h
  refine ⟨Nat.le_succ_of_le h1, fun a i => ?_, ?_, ?_⟩
  · show mv64 (if a = σ.1 then 0 else σ.2.2 a i) ∧ (_ → mv32 (if a = σ.1 then 0 else σ.2.2 a i))
    split
    · exact ⟨mv64_0, fun _ => mv32_0⟩
    · exact h2 a i
  · funext i; show (if 1 = σ.1 then 0 else σ.2.2 1 i) = _; rw [if_neg (by omega), h3]
  · funext i; show (if 2 = σ.1 then 0 else σ.2.2 2 i) = _; rw [if_neg (by omega), h4]
/-- the world behind a new cell -/
theorem mvs_fresh {L : mvL} {S : List mvV} {σ : mvS} {pc' : Nat} {H H1 : Heap} {locs : List Loc} {ls : Array Slot} {S0 : List mvV} (h : mvRel b D cA0 cA1 t1 t2 s σ L S0 H locs ls) (hS : ∀ v ∈ S, mvOk v) (hn0 : n0 ≤ σ.1) (z1 : H1.size = H.size + 1) (o1 : ∀ q, q < H.size → H1[q]? = H[q]?) (hB : b.1 ≤ s.heap.size)
    (he : va_at D mvTab (H.size, mvCe b cA0 cA1 (mvNew σ) σ.1) H1) (kk : mvW p l e R s m args below meth c Q b D cA0 cA1 t1 t2 n0 pc' L (mvR σ.1 :: S) (mvNew σ)) : W p l e R s m args below meth c H1 locs (σ.1 - n0 + 1) (mvSz σ.1 - mvSz n0 + mvSl σ.1) Q (F0 m pc' ls (.ref H.size :: S.map (mvRv b))) := by
  obtain ⟨g1, g2, g3, g4, g5, g6, g7⟩ := h
  have hadr : mvB b σ.1 = H.size := by
    unfold mvB
    have := g1.1
    rw [if_neg (by omega), if_neg (by omega), g4]
  have hk : ∀ (k : Nat) (x : Nat × va_E), (mvWd b cA0 cA1 σ)[k]? = some x → H1[x.1]? = H[x.1]? := fun k x hx => o1 x.1 ((g5 k x hx).lt)
  have K := kk H1 locs ls ⟨mvNew_ok g1, List.forall_mem_cons.mpr ⟨trivial, hS⟩, g3, by rw [z1, g4]; show _ = b.1 + (σ.1 + 1 - 3); have := g1.1; omega, by
    rw [mvWd_new g1.1]
    refine (g5.kept hk).app (fun k x hx => ?_)
    have hz : k < 1 := (List.getElem?_eq_some_iff.mp hx).1
    rw [show k = 0 by omega] at hx
    cases hx
    rw [hadr]
    exact he, ⟨Nat.le_trans g6.1 (by omega), fun x h1 h2 => (o1 x (Nat.lt_of_lt_of_le h1 g6.1)).trans (g6.2.1 x h1 h2), g6.2.2⟩, g7⟩
  have e1 : (mvNew σ).1 - n0 = σ.1 - n0 + 1 := by show σ.1 + 1 - n0 = _; omega
  have e2 : mvSz (mvNew σ).1 - mvSz n0 = mvSz σ.1 - mvSz n0 + mvSl σ.1 := by
    show mvSz σ.1 + mvSl σ.1 - mvSz n0 = _
    have := mvSz_mono hn0
    omega
  rw [e1, e2] at K
  have e3 : (mvR σ.1 :: S).map (mvRv b) = .ref H.size :: S.map (mvRv b) := by rw [← hadr]; rfl
  rw [e3] at K
  exact K
theorem mvs_newarr {L : mvL} {S : List mvV} {σ : mvS} {pc : Nat} {n : Int} {ty : ClassFile.ArrayType} (Cx : mvCx p R s m args meth c b D cA0 cA1 t1 t2 Ls own rk ini cc) (hd : decode cc pc = .ok (.newarray ty, 2)) (h1 : (mvSH σ.1).1 = 1) (h2 : n = ((mvSH σ.1).2.2 : Int)) (h3 : ty = .int ∧ (mvSH σ.1).2.1 = 0 ∨ ty = .boolean ∧ (mvSH σ.1).2.1 = 1)
    (hn0 : n0 ≤ σ.1) (hR : mvRoom R n0 (σ.1 + 1)) (kk : mvW p l e R s m args below meth c Q b D cA0 cA1 t1 t2 n0 (pc + 2) L (mvR σ.1 :: S) (mvNew σ)) : mvW p l e R s m args below meth c Q b D cA0 cA1 t1 t2 n0 pc L (mvI n :: S) σ := by
  intro H locs ls h
  have hn : mv32 n := h.2.1 (mvI n) List.mem_cons_self
  have hS : ∀ v ∈ S, mvOk v := fun v hv => h.2.1 v (List.mem_cons_of_mem _ hv)
  obtain ⟨hx, hb, hown, hin, hts, -, -, hE⟩ := Cx
  have hlen := (mvSH_ok σ.1).2
  have hsl : mvSl σ.1 = (mvSH σ.1).2.2 := by unfold mvSl; rw [if_neg (by omega)]
  have hRs : mvSz σ.1 - mvSz n0 + mvSl σ.1 ≤ R.slots := by
    have := hR.2
    have := mvSz_mono hn0
    show mvSz σ.1 - mvSz n0 + mvSl σ.1 ≤ R.slots
    have e : mvSz (σ.1 + 1) = mvSz σ.1 + mvSl σ.1 := rfl
    omega
  have hRc : σ.1 - n0 + 1 ≤ R.cells := by have := hR.1; omega
  have hcl : (Int32.ofInt n).toNatClampNeg = mvSl σ.1 := by rw [m_clamp hn, hsl]; omega
  have hneg : ¬ Int32.ofInt n < 0 := fun q => by have := (mz_lt hn).mp q; omega
  show W p l e R s m args below meth c H locs (σ.1 - n0) (mvSz σ.1 - mvSz n0) Q (F0 m pc ls (.int (Int32.ofInt n) :: S.map (mvRv b)))
  have hce : ∀ cA, cA = (if (mvSH σ.1).2.1 = 0 then cA0 else cA1) → ∀ H1 : Heap, H1[H.size]? = some (arrV cA (mvSl σ.1) (fun _ => .int 0)) → va_at D mvTab (H.size, mvCe b cA0 cA1 (mvNew σ) σ.1) H1 := by
    intro cA hcA H1 e1
    rw [mvCe_arr h1]
    show H1[H.size]? = some (vp_cell _ _)
    rw [e1, vp_cell_i, hcA, hsl]
    congr 2
    funext j
    show Value.int 0 = .int (Int32.ofInt (if σ.1 = σ.1 then 0 else σ.2.2 σ.1 j))
    rw [if_pos rfl]
    rfl
  rcases h3 with ⟨rfl, hty⟩ | ⟨rfl, hty⟩
  · refine va_newaK (atype := .int) hx hb (hts _ mt_arrI) rfl hd rfl hneg hcl (by show mvSl σ.1 * 4 ≤ 536870912; omega) hRc hRs rfl fun H1 cA e1 z1 o1 hAr hNm => ?_
    have hcA : cA = cA0 := by
      have := (hE.1.2 0 _ rfl).2
      exact Option.some.inj (hNm.symm.trans this)
    exact mvs_fresh h hS hn0 z1 o1 hE.2.2.2.2.2.2.1 (hce cA (by rw [if_pos hty]; exact hcA) H1 e1) kk
  · refine va_newaK (atype := .boolean) hx hb (hts _ mt_arrB) rfl hd rfl hneg hcl (by show mvSl σ.1 * 1 ≤ 536870912; omega) hRc hRs rfl fun H1 cA e1 z1 o1 hAr hNm => ?_
    have hcA : cA = cA1 := by
      have := (hE.1.2 1 _ rfl).2
      exact Option.some.inj (hNm.symm.trans this)
    exact mvs_fresh h hS hn0 z1 o1 hE.2.2.2.2.2.2.1 (hce cA (by rw [if_neg (by omega)]; exact hcA) H1 e1) kk
theorem mvs_newobj {L : mvL} {S : List mvV} {σ : mvS} {pc ix cf : Nat} (Cx : mvCx p R s m args meth c b D cA0 cA1 t1 t2 Ls own rk ini cc) (hd : decode cc pc = .ok (.new ix, 3)) (hl : mvKl.lookup (own, ix) = some cf) (h1 : mvSH σ.1 = (0, cf, 0))
    (hn0 : n0 ≤ σ.1) (hR : mvRoom R n0 (σ.1 + 1)) (kk : mvW p l e R s m args below meth c Q b D cA0 cA1 t1 t2 n0 (pc + 3) L (mvR σ.1 :: S) (mvNew σ)) : mvW p l e R s m args below meth c Q b D cA0 cA1 t1 t2 n0 pc L S σ := by
  intro H locs ls h
  have hS := h.2.1
  obtain ⟨hx, hb, hown, hin, hts, -, -, hE⟩ := Cx
  have hm := mv_lookup hl
  obtain ⟨q, hq⟩ := mv_kl_lt _ hm
  simp only at hq
  obtain ⟨f1, f2, f3, f4, ty, f5, f6, f7⟩ := mv_fact cf q hq
  obtain ⟨C, T, N⟩ := q
  simp only at f1 f2 f3 f4 f5 f6 f7
  have hsl : mvSl σ.1 = N := by unfold mvSl; rw [h1, if_pos rfl, mvNf_of hq]
  have hRs : mvSz σ.1 - mvSz n0 + N ≤ R.slots := by
    have := hR.2
    have := mvSz_mono hn0
    have e : mvSz (σ.1 + 1) = mvSz σ.1 + mvSl σ.1 := rfl
    omega
  have hRc : σ.1 - n0 + 1 ≤ R.cells := by have := hR.1; omega
  have hmem : (C, T, N) ∈ mvTab := List.mem_of_getElem? hq
  have hKn := hE.1.1 cf _ hq
  have hw := mt_kl _ (List.mem_map_of_mem hm)
  simp only [← f1] at hw
  refine W.newcK hx hb hown (hts _ hw) (hts _ (mt_inst _ (List.mem_map_of_mem hmem))) (hts _ (mt_ini2 _ (List.mem_map_of_mem hmem))) rfl hd hRc hRs hKn.2.1 rfl fun H1 kC hkC e1 z1 o1 => ?_
  have hfs : ∀ j, j < N → defaultValue (ty j) = vp_V ((List.range N).map (fun f => mvFv b (mvNew σ) σ.1 cf f)) j := by
    intro j hj
    have e0 : (mvNew σ).2.1 σ.1 j = 0 := by show (if σ.1 = σ.1 then 0 else σ.2.1 σ.1 j) = 0; rw [if_pos rfl]
    have e2 : (mvNew σ).2.2 σ.1 (j : Int) = 0 := by show (if σ.1 = σ.1 then 0 else σ.2.2 σ.1 j) = 0; rw [if_pos rfl]
    unfold vp_V
    rw [List.getD_eq_getElem?_getD, mvFs_get hj]
    simp only [Option.getD_some]
    unfold mvFv
    rw [e0, e2]
    rcases f7 j hj with ⟨q1, q2⟩ | ⟨q1, q2⟩ | ⟨q1, q2⟩ | ⟨q1, ⟨t, q2⟩ | ⟨t, q2⟩⟩ <;> rw [q1, q2] <;> rfl
  have he : va_at D mvTab (H.size, mvCe b cA0 cA1 (mvNew σ) σ.1) H1 := by
    unfold mvCe
    rw [h1, if_pos rfl, mvNf_of hq]
    exact ⟨_, hq, (u_born ty hts f2 hKn hkC e1 f5).to hfs⟩
  have K := mvs_fresh (S := S) h hS hn0 z1 o1 hE.2.2.2.2.2.2.1 he kk
  rw [hsl] at K
  exact K
end MVS
