/-! ONE STEP of the mini machine is a step of the machine -/
def mvSl (a : Nat) : Nat := if (mvSH a).1 = 0 then mvNf (mvSH a).2.1 else (mvSH a).2.2
def mvSz : Nat → Nat
  | 0 => 0
  | n + 1 => mvSz n + mvSl n
theorem mvSz_mono {a b : Nat} (h : a ≤ b) : mvSz a ≤ mvSz b := by
  induction h with
  | refl => exact Nat.le_refl _
  | step _ ih => exact Nat.le_trans ih (Nat.le_add_right _ _)
def mvOk (v : mvV) : Prop := match v with
  | .inl x => mv32 x
  | .inr (.inl x) => mv64 x
  | .inr (.inr _) => True
def mvLf (a : Nat) (i : Int) : Prop := ∃ f : Nat, i = f ∧ (mvSH a).1 = 0 ∧ mvFt (mvSH a).2.1 f = 1
def mvOkh (h : Nat → Int → Int) : Prop := ∀ (a : Nat) (i : Int), mv64 (h a i) ∧ (¬ mvLf a i → mv32 (h a i))
def mvOks (t1 t2 : Int → Int) (σ : mvS) : Prop := 3 ≤ σ.1 ∧ mvOkh σ.2.2 ∧ σ.2.2 1 = t1 ∧ σ.2.2 2 = t2
/-- the words of nest mates -/
def mvNs (U : State) : Prop := (∀ z ∈ mvMl.filter (fun z => decide (z.2.1 = 4 ∨ z.2.1 = 6)), va_Nw (Jvm.Cond.methodLinkNest (mvCn z.1.1) z.1.2 (mvY z.2.2) "RunCuts") U) ∧ va_Nw (Jvm.Cond.fieldLinkNest "RunCuts$Events" 91 "RunCuts" "TENS" "[I" "RunCuts") U
def mvEnv (b : mvBs) (D : va_G) (cA0 cA1 : ClassId) (t1 t2 : Int → Int) (Ls : Nat) (U : State) : Prop :=
  va_K D mvTab [(cA0, .int), (cA1, .boolean)] U ∧ va_Z "RunCuts" "TENS" "[I" (.ref b.2.1) (fun q => b.1 ≤ q) U U.heap ∧ va_T .int b.2.1 4 (fun j => .int (Int32.ofInt (t1 (j : Int)))) (fun q => b.1 ≤ q) U U.heap ∧ va_X b.2.2 Ls (fun j => Int32.ofInt (t2 (j : Int))) U U.heap ∧
  b.2.1 < b.1 ∧ b.2.2 < b.1 ∧ b.1 ≤ U.heap.size ∧ (Ls : Int) = t2 (-1) ∧ Ls < 2147483648 ∧ mvNs U
/-- what stands between the mini machine's state and the machine's -/
def mvRel (b : mvBs) (D : va_G) (cA0 cA1 : ClassId) (t1 t2 : Int → Int) (s : State) (σ : mvS) (L : mvL) (S : List mvV) (H : Heap) (locs : List Loc) (ls : Array Slot) : Prop :=
  mvOks t1 t2 σ ∧ (∀ v ∈ S, mvOk v) ∧ (∀ (i : Nat) (v : mvV), mvGet L i = some v → mvOk v) ∧ H.size = b.1 + (σ.1 - 3) ∧ va_P D mvTab (mvWd b cA0 cA1 σ) H ∧ va_S (fun q => b.1 ≤ q) s.heap H locs ∧ mvLr b L ls
theorem mvRel.st {b : mvBs} {D : va_G} {cA0 cA1 : ClassId} {t1 t2 : Int → Int} {s : State} {σ : mvS} {L : mvL} {S S' : List mvV} {H : Heap} {locs : List Loc} {ls : Array Slot} (h : mvRel b D cA0 cA1 t1 t2 s σ L S H locs ls) (hS : ∀ v ∈ S', mvOk v) : mvRel b D cA0 cA1 t1 t2 s σ L S' H locs ls := ⟨h.1, hS, h.2.2⟩
theorem mvOk_set {L L' : mvL} {i : Nat} {v : mvV} (h : mvSt L i v = some L') (hL : ∀ (i : Nat) (v : mvV), mvGet L i = some v → mvOk v) (hv : mvOk v) : ∀ (i : Nat) (v : mvV), mvGet L' i = some v → mvOk v := by
  unfold mvSt at h
  split at h
  · rename_i hh
    cases h
    intro k u hk
    rw [mvGet_set hh.1] at hk
    split at hk
    · cases hk; exact hv
    · exact hL k u hk
  · cases h
theorem mvOk_set2 {L L' : mvL} {i : Nat} {v : mvV} (h : mvSt2 L i v = some L') (hL : ∀ (i : Nat) (v : mvV), mvGet L i = some v → mvOk v) (hv : mvOk v) : ∀ (i : Nat) (v : mvV), mvGet L' i = some v → mvOk v := by
  unfold mvSt2 at h
  split at h
  · rename_i hh
    cases h
    intro k u hk
    rw [mvGet_set (by rw [List.length_set]; exact hh.1)] at hk
    split at hk
    · cases hk
    · rw [mvGet_set (by omega)] at hk
      split at hk
      · cases hk; exact hv
      · exact hL k u hk
  · cases h
theorem mvLf_arr {a : Nat} {i : Int} (h : (mvSH a).1 = 1) : ¬ mvLf a i := by
  rintro ⟨f, -, h2, -⟩
  rw [h] at h2
  cases h2
theorem mvOkh_upd {h : Nat → Int → Int} {a : Nat} {i x : Int} (H : mvOkh h) (h1 : mv64 x) (h2 : ¬ mvLf a i → mv32 x) : mvOkh (mvUpd h a i x) := by
  intro k j
  unfold mvUpd
  split
  · rename_i hh
    obtain ⟨rfl, rfl⟩ := hh
    exact ⟨h1, h2⟩
  · exact H k j
theorem mvUpd_ne {h : Nat → Int → Int} {a k : Nat} {i x : Int} (hk : ¬ k = a) : mvUpd h a i x k = h k := by
  funext j
  unfold mvUpd
  rw [if_neg (fun q => hk q.1)]
theorem mvUpg_ne {g : Nat → Nat → Nat} {a f x k : Nat} (hk : ¬ k = a) : mvUpg g a f x k = g k := by
  funext j
  unfold mvUpg
  rw [if_neg (fun q => hk q.1)]
theorem mvCe_congr {b : mvBs} {cA0 cA1 : ClassId} {σ σ' : mvS} {k : Nat} (h1 : σ'.2.1 k = σ.2.1 k) (h2 : σ'.2.2 k = σ.2.2 k) : mvCe b cA0 cA1 σ' k = mvCe b cA0 cA1 σ k := by
  unfold mvCe mvFv
  rw [h1, h2]
theorem mvFs_get {b : mvBs} {σ : mvS} {a cf f N : Nat} (h : f < N) : ((List.range N).map (fun f => mvFv b σ a cf f))[f]? = some (mvFv b σ a cf f) := by
  rw [List.getElem?_map, List.getElem?_range h]
  rfl
theorem mvFs_set {b : mvBs} {σ σ' : mvS} {a cf f N : Nat} {v : Value} (ho : ∀ k, k ≠ f → mvFv b σ' a cf k = mvFv b σ a cf k) (hv : mvFv b σ' a cf f = v) : ((List.range N).map (fun f => mvFv b σ a cf f)).set f v = (List.range N).map (fun f => mvFv b σ' a cf f) := by
  apply List.ext_getElem?
  intro k
  rw [List.getElem?_set, List.getElem?_map, List.getElem?_map]
  by_cases hk : f = k
  · subst hk
    rw [if_pos rfl]
    by_cases hl : f < N
    · rw [if_pos (by simpa using hl), List.getElem?_range hl]
      simp [hv]
    · rw [if_neg (by simpa using hl)]
      have : (List.range N)[f]? = none := by rw [List.getElem?_eq_none_iff, List.length_range]; omega
      rw [this]; rfl
  · rw [if_neg hk]
    by_cases hl : k < N
    · rw [List.getElem?_range hl]
      simp [ho k (Ne.symm hk)]
    · have : (List.range N)[k]? = none := by rw [List.getElem?_eq_none_iff, List.length_range]; omega
      rw [this]; rfl
section MVS
variable {p : Program} {l : Launch} {e : Env} {R : Room} {s : State} {m : MethodId} {args : Array Value} {below : List Frame} {meth : Method} {c : Code} {Q : State → Prop}
variable {b : mvBs} {D : va_G} {cA0 cA1 : ClassId} {t1 t2 : Int → Int} {Ls n0 own rk : Nat} {ini : Bool} {cc : ByteArray}
/-- what holds of a frame all along -/
def mvCx (p : Program) (R : Room) (s : State) (m : MethodId) (args : Array Value) (meth : Method) (c : Code) (b : mvBs) (D : va_G) (cA0 cA1 : ClassId) (t1 t2 : Int → Int) (Ls : Nat) (own rk : Nat) (ini : Bool) (cc : ByteArray) : Prop :=
  p.tables.exec = Jvm.exec ∧ c.code = cc ∧ s.vm.findClass (mvCn own) = some m.cls ∧ (ini = true → meth.name = "<init>") ∧ (∀ w ∈ mvTb, w.before args s = true) ∧ rk ≤ R.frames ∧ 40 * rk ≤ R.locals ∧ mvEnv b D cA0 cA1 t1 t2 Ls s
/-- the goal at a place of the mini machine -/
def mvW (p : Program) (l : Launch) (e : Env) (R : Room) (s : State) (m : MethodId) (args : Array Value) (below : List Frame) (meth : Method) (c : Code) (Q : State → Prop) (b : mvBs) (D : va_G) (cA0 cA1 : ClassId) (t1 t2 : Int → Int) (n0 pc : Nat) (L : mvL) (S : List mvV) (σ : mvS) : Prop :=
  ∀ (H : Heap) (locs : List Loc) (ls : Array Slot), mvRel b D cA0 cA1 t1 t2 s σ L S H locs ls → W p l e R s m args below meth c H locs (σ.1 - n0) (mvSz σ.1 - mvSz n0) Q (F0 m pc ls (S.map (mvRv b)))
abbrev mvRoom (R : Room) (n0 n : Nat) : Prop := n - n0 ≤ R.cells ∧ mvSz n - mvSz n0 ≤ R.slots
theorem mvs_stI {L L' : mvL} {S : List mvV} {σ : mvS} {i len pc : Nat} {x : Int} (Cx : mvCx p R s m args meth c b D cA0 cA1 t1 t2 Ls own rk ini cc) (hst : mvSt L i (mvI x) = some L')
    (hd : (∃ k : Fin 4, decode cc pc = .ok (.istore_n k, 1) ∧ (k : Nat) = i ∧ len = 1) ∨ (decode cc pc = .ok (.istore i, 2) ∧ len = 2)) (kk : mvW p l e R s m args below meth c Q b D cA0 cA1 t1 t2 n0 (pc + len) L' S σ) : mvW p l e R s m args below meth c Q b D cA0 cA1 t1 t2 n0 pc L (mvI x :: S) σ := by
  intro H locs ls h
  obtain ⟨hx, hb, -⟩ := Cx
  obtain ⟨h1, h2, h3, h4, h5, h6, h7⟩ := h
  have hv : mvOk (mvI x) := h2 _ List.mem_cons_self
  have hn := (mvSt_spec (b := b) hst).1
  have fin : ∀ ls' : Array Slot, lv_has ls' L.length ((i, mvRv b (mvI x)) :: (mvAsc b L).filter (fun q => !(q.1 == i) && !(q.1 + 1 == i && q.2.category == 2))) → W p l e R s m args below meth c H locs (σ.1 - n0) (mvSz σ.1 - mvSz n0) Q (F0 m (pc + len) ls' (S.map (mvRv b))) := fun ls' hl => kk H locs ls' ⟨h1, fun v hv => h2 v (List.mem_cons_of_mem _ hv), mvOk_set hst h3 hv, h4, h5, h6, (mvSt_spec hst).2 ls' hl⟩
  rcases hd with ⟨k, hd, hk, rfl⟩ | ⟨hd, rfl⟩
  · exact lv_istore_n hx hb hd hk h7.has hn rfl fin
  · exact lv_istore hx hb hd h7.has hn rfl fin
theorem mvs_br {L : mvL} {S : List mvV} {σ : mvS} {pc t : Nat} {x y : Int} {cd : ClassFile.Cond} {off : Int} (Cx : mvCx p R s m args meth c b D cA0 cA1 t1 t2 Ls own rk ini cc)
    (hd : decode cc pc = .ok (.if_icmp cd off, 3)) (htg : mvTgt pc off = some t) (kk : mvW p l e R s m args below meth c Q b D cA0 cA1 t1 t2 n0 (if mvCmpB cd x y = true then t else pc + 3) L S σ) : mvW p l e R s m args below meth c Q b D cA0 cA1 t1 t2 n0 pc L (mvI y :: mvI x :: S) σ := by
  intro H locs ls h
  obtain ⟨hx, hb, -⟩ := Cx
  have hy1 : mv32 y := h.2.1 (mvI y) List.mem_cons_self
  have hx1 : mv32 x := h.2.1 (mvI x) (List.mem_cons_of_mem _ List.mem_cons_self)
  have K := kk H locs ls (h.st (fun v hv => h.2.1 v (List.mem_cons_of_mem _ (List.mem_cons_of_mem _ hv))))
  have hT : mvCmpB cd x y = true → W p l e R s m args below meth c H locs (σ.1 - n0) (mvSz σ.1 - mvSz n0) Q (F0 m t ls (S.map (mvRv b))) := fun hc => by rw [if_pos hc] at K; exact K
  have hF : ¬ mvCmpB cd x y = true → W p l e R s m args below meth c H locs (σ.1 - n0) (mvSz σ.1 - mvSz n0) Q (F0 m (pc + 3) ls (S.map (mvRv b))) := fun hc => by rw [if_neg hc] at K; exact K
  show W p l e R s m args below meth c H locs (σ.1 - n0) (mvSz σ.1 - mvSz n0) Q (F0 m pc ls (.int (Int32.ofInt y) :: .int (Int32.ofInt x) :: S.map (mvRv b)))
  have ht := mvTgt_spec htg
  cases cd
  · exact lv_icmp_eq hx hb hd ht (fun q => hT (decide_eq_true ((m_eq hx1 hy1).mp q))) (fun q => hF (fun z => q ((m_eq hx1 hy1).mpr (of_decide_eq_true z))))
  · exact lv_icmp_ne hx hb hd ht (fun q => hT (decide_eq_true (fun z => q ((m_eq hx1 hy1).mpr z)))) (fun q => hF (fun z => (of_decide_eq_true z : ¬ x = y) ((m_eq hx1 hy1).mp q)))
  · exact lv_icmp_lt hx hb hd ht (fun q => hT (decide_eq_true ((m_lt hx1 hy1).mp q))) (fun q => hF (fun z => q ((m_lt hx1 hy1).mpr (of_decide_eq_true z))))
  · exact lv_icmp_ge hx hb hd ht (fun q => hT (decide_eq_true ((m_le hy1 hx1).mp q))) (fun q => hF (fun z => q ((m_le hy1 hx1).mpr (of_decide_eq_true z))))
  · exact lv_icmp_gt hx hb hd ht (fun q => hT (decide_eq_true ((m_lt hy1 hx1).mp q))) (fun q => hF (fun z => q ((m_lt hy1 hx1).mpr (of_decide_eq_true z))))
  · exact lv_icmp_le hx hb hd ht (fun q => hT (decide_eq_true ((m_le hx1 hy1).mp q))) (fun q => hF (fun z => q ((m_le hx1 hy1).mpr (of_decide_eq_true z))))
theorem mvs_if {L : mvL} {S : List mvV} {σ : mvS} {pc t : Nat} {x : Int} {cd : ClassFile.Cond} {off : Int} (Cx : mvCx p R s m args meth c b D cA0 cA1 t1 t2 Ls own rk ini cc)
    (hd : decode cc pc = .ok (.ifCond cd off, 3)) (htg : mvTgt pc off = some t) (kk : mvW p l e R s m args below meth c Q b D cA0 cA1 t1 t2 n0 (if mvCmpB cd x 0 = true then t else pc + 3) L S σ) : mvW p l e R s m args below meth c Q b D cA0 cA1 t1 t2 n0 pc L (mvI x :: S) σ := by
  intro H locs ls h
  obtain ⟨hx, hb, -⟩ := Cx
  have hx1 : mv32 x := h.2.1 (mvI x) List.mem_cons_self
  have K := kk H locs ls (h.st (fun v hv => h.2.1 v (List.mem_cons_of_mem _ hv)))
  have hT : mvCmpB cd x 0 = true → W p l e R s m args below meth c H locs (σ.1 - n0) (mvSz σ.1 - mvSz n0) Q (F0 m t ls (S.map (mvRv b))) := fun hc => by rw [if_pos hc] at K; exact K
  have hF : ¬ mvCmpB cd x 0 = true → W p l e R s m args below meth c H locs (σ.1 - n0) (mvSz σ.1 - mvSz n0) Q (F0 m (pc + 3) ls (S.map (mvRv b))) := fun hc => by rw [if_neg hc] at K; exact K
  show W p l e R s m args below meth c H locs (σ.1 - n0) (mvSz σ.1 - mvSz n0) Q (F0 m pc ls (.int (Int32.ofInt x) :: S.map (mvRv b)))
  have ht := mvTgt_spec htg
  cases cd
  · exact lv_if_eq hx hb hd ht (fun q => hT (decide_eq_true ((mz_eq hx1).mp q))) (fun q => hF (fun z => q ((mz_eq hx1).mpr (of_decide_eq_true z))))
  · exact lv_if_ne hx hb hd ht (fun q => hT (decide_eq_true (fun z => q ((mz_eq hx1).mpr z)))) (fun q => hF (fun z => (of_decide_eq_true z : ¬ x = 0) ((mz_eq hx1).mp q)))
  · exact lv_if_lt hx hb hd ht (fun q => hT (decide_eq_true ((mz_lt hx1).mp q))) (fun q => hF (fun z => q ((mz_lt hx1).mpr (of_decide_eq_true z))))
  · exact lv_if_ge hx hb hd ht (fun q => hT (decide_eq_true ((mz_ge hx1).mp q))) (fun q => hF (fun z => q ((mz_ge hx1).mpr (of_decide_eq_true z))))
  · exact lv_if_gt hx hb hd ht (fun q => hT (decide_eq_true ((mz_gt hx1).mp q))) (fun q => hF (fun z => q ((mz_gt hx1).mpr (of_decide_eq_true z))))
  · exact lv_if_le hx hb hd ht (fun q => hT (decide_eq_true ((mz_le hx1).mp q))) (fun q => hF (fun z => q ((mz_le hx1).mpr (of_decide_eq_true z))))
/-- the top of the stack grows by a value, all else stays -/
theorem mvs_put {L : mvL} {S : List mvV} {σ : mvS} {pc' : Nat} {v : mvV} {H : Heap} {locs : List Loc} {ls : Array Slot} {S0 : List mvV} (kk : mvW p l e R s m args below meth c Q b D cA0 cA1 t1 t2 n0 pc' L (v :: S) σ) (h : mvRel b D cA0 cA1 t1 t2 s σ L S0 H locs ls) (hS : ∀ v ∈ S, mvOk v) (hv : mvOk v) : W p l e R s m args below meth c H locs (σ.1 - n0) (mvSz σ.1 - mvSz n0) Q (F0 m pc' ls (mvRv b v :: S.map (mvRv b))) :=
  kk H locs ls (h.st (List.forall_mem_cons.mpr ⟨hv, hS⟩))
theorem mvs_get {L : mvL} {S : List mvV} {σ : mvS} {pc a ix cf f : Nat} (Cx : mvCx p R s m args meth c b D cA0 cA1 t1 t2 Ls own rk ini cc) (hd : decode cc pc = .ok (.getfield ix, 3)) (hl : mvFl.lookup (own, ix) = some (cf, f)) (hi : mvIs σ.1 a = (0, cf, 0))
    {H : Heap} {locs : List Loc} {ls : Array Slot} (h : mvRel b D cA0 cA1 t1 t2 s σ L (mvR a :: S) H locs ls) (kk : W p l e R s m args below meth c H locs (σ.1 - n0) (mvSz σ.1 - mvSz n0) Q (F0 m (pc + 3) ls (mvFv b σ a cf f :: S.map (mvRv b)))) : W p l e R s m args below meth c H locs (σ.1 - n0) (mvSz σ.1 - mvSz n0) Q (F0 m pc ls ((mvR a :: S).map (mvRv b))) := by
  obtain ⟨hx, hb, hown, -, hts, -, -, hE⟩ := Cx
  obtain ⟨h1, h2, h3, h4, h5, h6, h7⟩ := h
  obtain ⟨i1, i2, i3⟩ := mvIs_spec hi (by decide)
  have hm := mv_lookup hl
  obtain ⟨q, hq, hf⟩ := mv_fl_lt _ hm
  simp only at hq hf
  obtain ⟨f1, f2, f3, -⟩ := mv_fact cf q hq
  obtain ⟨C, T, N⟩ := q
  simp only at f1 f2 f3 hf
  have hw := mt_fl _ (List.mem_map_of_mem hm)
  simp only [mvFd_of hq] at hw
  have hg := mvWd_get (b := b) (cA0 := cA0) (cA1 := cA1) i1 i2
  have hce : mvCe b cA0 cA1 σ a = .inr (cf, (List.range N).map (fun f => mvFv b σ a cf f)) := by
    unfold mvCe
    rw [i3, mvNf_of hq]
    rfl
  rw [hce] at hg
  refine va_get (ref := mvCn cf) hx hb hts f2 hown hE.1 h5 (a - 3) hg hq f hf (hts _ hw) (fun x hx => ?_) (mvFs_get hf) hd kk
  rw [← f1, ← f3 f hf]
  exact hx
theorem mv_fit {cf k : Nat} {ty : FieldType} {σ : mvS} {a : Nat} (h : (mvFt cf k = 0 ∧ ty = .int) ∨ (mvFt cf k = 1 ∧ ty = .long) ∨ (mvFt cf k = 3 ∧ ty = .boolean) ∨ (mvFt cf k = 2 ∧ ((∃ t, ty = .array t) ∨ ∃ n, ty = .object n))) (h3 : mvFt cf k = 3 → σ.2.2 a (k : Int) = 0 ∨ σ.2.2 a (k : Int) = 1) : narrow ty (mvFv b σ a cf k) = mvFv b σ a cf k ∧ fits ty (mvFv b σ a cf k) = true := by
  unfold mvFv
  rcases h with ⟨q, rfl⟩ | ⟨q, rfl⟩ | ⟨q, rfl⟩ | ⟨q, hh⟩
  · rw [if_neg (by omega), if_neg (by omega)]; exact ⟨rfl, rfl⟩
  · rw [if_neg (by omega), if_pos q]; exact ⟨rfl, rfl⟩
  · rw [if_neg (by omega), if_neg (by omega)]
    rcases h3 q with z | z <;> rw [z] <;> decide
  · rw [if_pos q]
    rcases hh with ⟨t, rfl⟩ | ⟨n, rfl⟩
    · split <;> exact ⟨rfl, rfl⟩
    · split <;> exact ⟨rfl, rfl⟩
/-- a field's new value: the mini machine's new state is said by what it holds -/
theorem mvs_setf {L : mvL} {S : List mvV} {σ σ' : mvS} {pc a ix cf f : Nat} {v : mvV} (Cx : mvCx p R s m args meth c b D cA0 cA1 t1 t2 Ls own rk ini cc) (hd : decode cc pc = .ok (.putfield ix, 3)) (hl : mvFl.lookup (own, ix) = some (cf, f)) (hi : mvIs σ.1 a = (0, cf, 0)) (hfin : mvFf cf f = true → ini = true ∧ own = cf)
    (hn : σ'.1 = σ.1) (hg1 : ∀ k, ¬ k = a → σ'.2.1 k = σ.2.1 k) (hg2 : ∀ k, ¬ k = a → σ'.2.2 k = σ.2.2 k) (hf1 : ∀ k, k ≠ f → mvFv b σ' a cf k = mvFv b σ a cf k) (hf2 : mvFv b σ' a cf f = mvRv b v) (hz : mvFt cf f = 3 → σ'.2.2 a (f : Int) = 0 ∨ σ'.2.2 a (f : Int) = 1) (hok : mvOkh σ'.2.2)
    (kk : mvW p l e R s m args below meth c Q b D cA0 cA1 t1 t2 n0 (pc + 3) L S σ') : mvW p l e R s m args below meth c Q b D cA0 cA1 t1 t2 n0 pc L (v :: mvR a :: S) σ := by
  intro H locs ls h
  obtain ⟨hx, hb, hown, hin, hts, -, -, hE⟩ := Cx
  obtain ⟨h1, h2, h3, h4, h5, h6, h7⟩ := h
  obtain ⟨i1, i2, i3⟩ := mvIs_spec hi (by decide)
  have hm := mv_lookup hl
  obtain ⟨q, hq, hf⟩ := mv_fl_lt _ hm
  simp only at hq hf
  obtain ⟨f1, f2, f3, f4, ty, f5, f6, f7⟩ := mv_fact cf q hq
  obtain ⟨C, T, N⟩ := q
  simp only at f1 f2 f3 f4 f5 f6 f7 hf
  have hw := mt_fl _ (List.mem_map_of_mem hm)
  simp only [mvFd_of hq] at hw
  have hgt := mvWd_get (b := b) (cA0 := cA0) (cA1 := cA1) i1 i2
  have hce : mvCe b cA0 cA1 σ a = .inr (cf, (List.range N).map (fun f => mvFv b σ a cf f)) := by
    unfold mvCe
    rw [i3, mvNf_of hq]
    rfl
  have hce' : mvCe b cA0 cA1 σ' a = .inr (cf, (List.range N).map (fun f => mvFv b σ' a cf f)) := by
    unfold mvCe
    rw [i3, mvNf_of hq]
    rfl
  rw [hce] at hgt
  have hset := mvFs_set (N := N) hf1 hf2
  have hw2 := mvWd_set (b := b) (cA0 := cA0) (cA1 := cA1) (σ := σ) (σ' := σ') (x := .inr (cf, ((List.range N).map (fun f => mvFv b σ a cf f)).set f (mvRv b v))) i1 hn (fun k hk => mvCe_congr (hg1 k hk) (hg2 k hk)) (by rw [hce', hset])
  have hsame : ∀ x, s.fieldFound? (T f).1 (T f).2.1 (T f).2.2.1 = some x → s.fieldFound? (mvCn cf) (T f).2.1 (T f).2.2.1 = some x := fun x hx => by
    rw [← f1, ← f3 f hf]
    exact hx
  have hfit := mv_fit (b := b) (σ := σ') (a := a) (f7 f hf) hz
  rw [hf2] at hfit
  have hlen : f < ((List.range N).map (fun f => mvFv b σ a cf f)).length := by simpa using hf
  have fin : ∀ (H1 : Heap) (locs1 : List Loc), va_P D mvTab ((mvWd b cA0 cA1 σ).set (a - 3) (mvB b a, .inr (cf, ((List.range N).map (fun f => mvFv b σ a cf f)).set f (mvRv b v)))) H1 → va_S (fun q => b.1 ≤ q) s.heap H1 locs1 → H1.size = H.size → W p l e R s m args below meth c H1 locs1 (σ.1 - n0) (mvSz σ.1 - mvSz n0) Q (F0 m (pc + 3) ls (S.map (mvRv b))) := by
    intro H1 locs1 hP hS hsz
    have K := kk H1 locs1 ls ⟨⟨by rw [hn]; exact h1.1, hok, by rw [hg2 1 (by omega)]; exact h1.2.2.1, by rw [hg2 2 (by omega)]; exact h1.2.2.2⟩, fun v hv => h2 v (List.mem_cons_of_mem _ (List.mem_cons_of_mem _ hv)), h3, by rw [hsz, hn]; exact h4, by rw [← hw2]; exact hP, hS, h7⟩
    rw [hn] at K
    exact K
  show W p l e R s m args below meth c H locs (σ.1 - n0) (mvSz σ.1 - mvSz n0) Q (F0 m pc ls (mvRv b v :: .ref (mvB b a) :: S.map (mvRv b)))
  cases hff : mvFf cf f with
  | false =>
    have hap := va_apart (own := mvCn own) hts f2 ty f5 (fun a ha b hb => f4 a ha b hb) hE.1 hq
    obtain ⟨r, r1, cell, q1, q2, q3, q4⟩ := h5 (a - 3) _ hgt
    have hr : r = (C, T, N) := Option.some.inj (r1.symm.trans hq)
    subst hr
    obtain ⟨hS, hfc, kC, hkC, hkind⟩ := hE.1.1 cf _ hq
    obtain ⟨cf', kf, fi, fd, hi', hsl⟩ := hS f hf
    have hlay := hts _ (f2 _ (u_in_lay hf))
    unfold u_lay at hlay
    rw [if_neg (by rw [f6 f hf, hff]; decide)] at hlay
    have hst := (u_facts hfc hkC (u_lays hts f2 hf) hi').1
    have h6' := u_store hfc hkC hkind hlay hi' (f5 f hf) hfit.1 hfit.2
    refine W.putK hx hb (f := fd) ⟨hown, hts _ hw, ⟨_, _, _, hsame _ hi'⟩, hst⟩ (by rw [q2]; exact h6') q1 q3 (by rw [hsl]; exact k2_hasslot (q4 f hf)) rfl rfl hd fun H' e1 e2 e3 => ?_
    rw [hsl] at e1 ⊢
    exact fin H' _ (h5.set mvWd_D hgt ⟨_, hq, t_OB.to (V := updV (vp_V _) f (mvRv b v)) ⟨_, e1, q2, q3, t_set q4 hap hf _⟩ (fun j _ => vp_updV_set hlen _ j)⟩ e3) (h6.put e2 e3 (mvWd_D.2 (a - 3) _ hgt)) e2
  | true =>
    obtain ⟨hini, howncf⟩ := hfin hff
    have hap := va_apart (own := mvCn own) hts f2 ty f5 (fun a ha b hb => f4 a ha b hb) hE.1 hq
    obtain ⟨r, r1, cell, q1, q2, q3, q4⟩ := h5 (a - 3) _ hgt
    have hr : r = (C, T, N) := Option.some.inj (r1.symm.trans hq)
    subst hr
    obtain ⟨hS, hfc, kC, hkC, hkind⟩ := hE.1.1 cf _ hq
    obtain ⟨cf', kf, fi, fd, hi', hsl⟩ := hS f hf
    have hlay := hts _ (f2 _ (u_in_lay hf))
    unfold u_lay at hlay
    rw [if_pos (by rw [f6 f hf, hff])] at hlay
    have hst := (u_facts hfc hkC (u_lays hts f2 hf) hi').1
    have hcf : m.cls = cf' := by
      obtain ⟨_, _, c', _, _, _, -, -, hf', -, -, -, hown2, -⟩ := Cond.laysFinal_spec hlay
      have e1 : c' = cf' := by have := hi'.symm.trans hf'; simp at this; exact this.1.symm
      rw [f3 f hf, f1, ← howncf] at hown2
      rw [← e1]; exact Option.some.inj (hown.symm.trans hown2)
    have h6' := u_fits hfc hkC hkind (Or.inr hlay) hi' (f5 f hf) hfit.1 hfit.2
    refine W.putFinK hx hb hown (hts _ hw) (hsame _ hi') hst hcf (hin hini) (by rw [q2]; exact h6') q1 q3 (by rw [hsl]; exact k2_hasslot (q4 f hf)) rfl rfl hd fun H' e1 e2 e3 => ?_
    rw [hsl] at e1 ⊢
    exact fin H' _ (h5.set mvWd_D hgt ⟨_, hq, t_OB.to (V := updV (vp_V _) f (mvRv b v)) ⟨_, e1, q2, q3, t_set q4 hap hf _⟩ (fun j _ => vp_updV_set hlen _ j)⟩ e3) (h6.put e2 e3 (mvWd_D.2 (a - 3) _ hgt)) e2
end MVS
