/-! calls; and the whole run -/
theorem mvRun_mono : ∀ (n j pc : Nat) (L : mvL) (S : List mvV) (σ : mvS) (r : Option mvV) (σ' : mvS), mvRun n j pc L S σ = some (r, σ') → σ.1 ≤ σ'.1 := by
  intro n
  induction n with
  | zero => intro j pc L S σ r σ' h; cases h
  | succ n ih =>
    intro j pc L S σ r σ' h
    unfold mvRun at h
    split at h
    · split at h
      · rename_i hs
        exact Nat.le_trans (mvStep_len hs).2 (ih _ _ _ _ _ _ _ h)
      · split at h
        · split at h
          · split at h
            · rename_i hr
              exact Nat.le_trans (ih _ _ _ _ _ _ _ hr) (ih _ _ _ _ _ _ _ h)
            · cases h
          · cases h
        · split at h
          · cases h; exact Nat.le_refl _
          · cases h
    · cases h
def mvSlot (b : mvBs) (o : Option mvV) : Slot := match o with
  | some v => .val (mvRv b v)
  | none => .second
theorem mvFlat_sl (b : mvBs) (as : List mvV) : lg_sl (as.map (mvRv b)) = (mvFlat as).map (mvSlot b) := by
  induction as with
  | nil => rfl
  | cons v as ih =>
    have e : mvFlat (v :: as) = (if mvCat v = 2 then [some v, none] else [some v]) ++ mvFlat as := rfl
    have e2 : lg_sl ((v :: as).map (mvRv b)) = (if (mvRv b v).category = 2 then [.val (mvRv b v), .second] else [.val (mvRv b v)]) ++ lg_sl (as.map (mvRv b)) := rfl
    rw [e, e2, ih, List.map_append, mvRv_cat]
    congr 1
    split <;> rfl
theorem mvFlat_ok {as : List mvV} (h : ∀ v ∈ as, mvOk v) : ∀ o ∈ mvFlat as, ∀ v, o = some v → mvOk v := by
  intro o ho v hv
  subst hv
  unfold mvFlat at ho
  obtain ⟨u, hu, hm⟩ := List.mem_flatMap.mp ho
  split at hm
  · simp at hm
    rw [hm]; exact h u hu
  · simp at hm
    rw [hm]; exact h u hu
theorem mvEntry_len {n : Nat} {as : List mvV} (h : (mvFlat as).length ≤ n) : (mvEntry n as).length = n := by
  unfold mvEntry
  rw [List.length_append, List.length_replicate]
  omega
theorem mvEntry_get {n i : Nat} {as : List mvV} {v : mvV} (h : mvGet (mvEntry n as) i = some v) : (mvFlat as)[i]? = some (some v) := by
  unfold mvGet mvEntry at h
  rw [List.getElem?_append] at h
  split at h
  · rename_i u hu
    split at hu
    · cases h; exact hu
    · rw [List.getElem?_replicate] at hu
      split at hu <;> cases hu
  · cases h
theorem mvEntry_ok {n : Nat} {as : List mvV} (h : ∀ v ∈ as, mvOk v) : ∀ (i : Nat) (v : mvV), mvGet (mvEntry n as) i = some v → mvOk v := fun i v hv => mvFlat_ok h _ (List.mem_of_getElem? (mvEntry_get hv)) v rfl
theorem mvEntry_lr (b : mvBs) {n : Nat} {as : List mvV} (h : (mvFlat as).length ≤ n) : mvLr b (mvEntry n as) ((lg_sl (as.map (mvRv b)) ++ List.replicate (n - (lg_sl (as.map (mvRv b))).length) Slot.unset).toArray) := by
  have hl : (lg_sl (as.map (mvRv b))).length = (mvFlat as).length := by rw [mvFlat_sl, List.length_map]
  have hh := lv_entry (as.map (mvRv b)) (n := n) (by rw [hl]; exact h)
  refine ⟨by rw [mvEntry_len h]; exact hh.1, hh.2.1, fun i v hv => ?_⟩
  have hg := mvEntry_get hv
  have hi : i < (mvFlat as).length := (List.getElem?_eq_some_iff.mp hg).1
  rw [List.getElem?_toArray, List.getElem?_append_left (by rw [hl]; exact hi), mvFlat_sl, List.getElem?_map, hg]
  rfl
/-- what the lists say of every method -/
theorem mv_md_ok : ∀ q ∈ mvMd, plainName q.1.cls = true ∧ mvCn (mvOwn q) = q.1.cls ∧ (q.1.cls ≠ "java/lang/invoke/MethodHandle" ∧ q.1.cls ≠ "java/lang/invoke/VarHandle" ∧ (parseMethodDescriptor q.1.desc).map (fun d => d.parameters.length) = some (mvNa q)) ∧ (mvKd q = 2 → q.1.name = "<init>" ∧ q.2.2.2.1 = none) ∧ q.2.2.1 + 19 ≤ 40 := by decide +kernel
theorem mv_md_own : ∀ q ∈ mvMt0, ¬ mvOwn q = 11 := by decide +kernel
theorem mv_ml_lt : ∀ z ∈ mvMl, z.2.2 < 255 ∧ (z.2.1 = 0 → (mvMd[z.2.2]?).map mvKd = some 0) ∧ ((z.2.1 = 2 ∨ z.2.1 = 6) → (mvMd[z.2.2]?).map mvKd = some 2) ∧ ((z.2.1 = 1 ∨ z.2.1 = 4) → (mvMd[z.2.2]?).map mvKd = some 1) := by decide +kernel
theorem mv_take {j : Nat} {q : mvMt} (hj : j < 255) (hq : mvMd[j]? = some q) : q ∈ mvMt0 := by
  refine List.mem_of_getElem? (i := j) ?_
  show (mvMd.take 255)[j]? = some q
  rw [List.getElem?_take_of_lt hj, hq]
def mvWs (q : mvMt) : List Jvm.Cond := mvWcode q :: mvTb
def mvRm (q : mvMt) (n n' : Nat) : Room := { frames := mvRk q, cells := n' - n, slots := mvSz n' - mvSz n, locals := 40 * mvRk q }
theorem mvTb_good : GoodIn mvTb mvTb := fun w hw => ⟨hw, good_of_word (List.mem_filter.mp hw).2⟩
theorem mvWs_good {q : mvMt} (h : mvWcode q ∈ mvTb) : GoodIn mvTb (mvWs q) := by
  intro w hw
  rcases List.mem_cons.mp hw with rfl | hw
  · exact ⟨h, Or.inl rfl⟩
  · exact mvTb_good w hw
section MVS
variable {p : Program} {l : Launch} {e : Env} {R : Room} {s : State} {m : MethodId} {args : Array Value} {below : List Frame} {meth : Method} {c : Code} {Q : State → Prop}
variable {b : mvBs} {D : va_G} {cA0 cA1 : ClassId} {t1 t2 : Int → Int} {Ls n0 own rk : Nat} {ini : Bool} {cc : ByteArray}
theorem mvNs_warm {s U : State} (hW : s.WarmedH U.vm) (h : mvNs s) : mvNs U := ⟨fun z hz => va_Nw.warmM hW (h.1 z hz), va_Nw.warmF hW h.2⟩
theorem mvNs_same {u U : State} (hv : u.vm = U.vm) (h : mvNs u) : mvNs U := ⟨fun z hz => va_Nw.same rfl hv (h.1 z hz), va_Nw.same rfl hv h.2⟩
theorem mvEnv_to {u U : State} (hvm : u.vm.Alike U.vm) (hN : mvNs u → mvNs U) (hz : u.heap.size ≤ U.heap.size) (hk : ∀ q : Nat, q < u.heap.size → ¬ b.1 ≤ q → U.heap[q]? = u.heap[q]?) (h : mvEnv b D cA0 cA1 t1 t2 Ls u) : mvEnv b D cA0 cA1 t1 t2 Ls U := by
  obtain ⟨E1, E2, E3, E4, E5, E6, E7, E8, E9, E10⟩ := h
  exact ⟨va_K.moved hvm E1, (E2.moved hvm).kept (fun a h1 h2 => hk a h1 h2), (E3.moved hvm).kept (fun a h1 h2 => hk a h1 h2), (E4.moved hvm).kept (hk _ (Nat.lt_of_lt_of_le E6 E7) (Nat.not_le.mpr E6)), E5, E6, Nat.le_trans E7 hz, E8, E9, hN E10⟩
def mvU (b : mvBs) (D : va_G) (cA0 cA1 : ClassId) (t1 t2 : Int → Int) (Ls : Nat) (σ : mvS) (U : State) : Prop := mvOks t1 t2 σ ∧ mvEnv b D cA0 cA1 t1 t2 Ls U ∧ U.heap.size = b.1 + (σ.1 - 3) ∧ va_P D mvTab (mvWd b cA0 cA1 σ) U.heap
def mvPc (b : mvBs) (D : va_G) (cA0 cA1 : ClassId) (t1 t2 : Int → Int) (Ls : Nat) (as : List mvV) (σ : mvS) : Array Value → State → Prop := fun v U => v = (as.map (mvRv b)).toArray ∧ mvU b D cA0 cA1 t1 t2 Ls σ U
def mvQc (b : mvBs) (D : va_G) (cA0 cA1 : ClassId) (t1 t2 : Int → Int) (Ls : Nat) (r : Option mvV) (σ' : mvS) : Array Value → State → Outcome → State → Prop := fun _ st o t => (o = .returned (r.map (mvRv b)) ∧ (∀ v, r = some v → mvOk v) ∧ mvU b D cA0 cA1 t1 t2 Ls σ' t) ∧ va_F (fun q => b.1 ≤ q) st t
theorem mvPc_blind {as : List mvV} {σ : mvS} : FrameBlind (mvPc b D cA0 cA1 t1 t2 Ls as σ) := by
  intro a U g mk h
  obtain ⟨h1, h2, h3, h4, h5⟩ := h
  exact ⟨h1, h2, mvEnv_to (u := U) (U := U.calling g mk a) (Vm.Alike.refl U.vm) (mvNs_same rfl) (Nat.le_refl _) (fun _ _ _ => rfl) h3, h4, h5⟩
theorem mvPc_at {as : List mvV} {σ : mvS} {L : mvL} {S : List mvV} {H : Heap} {locs : List Loc} {ls : Array Slot} (hE : mvEnv b D cA0 cA1 t1 t2 Ls s) (h : mvRel b D cA0 cA1 t1 t2 s σ L S H locs ls) (U : State) (hU : U.heap = H) (hW : s.WarmedH U.vm) : mvPc b D cA0 cA1 t1 t2 Ls as σ (as.map (mvRv b)).toArray U := by
  obtain ⟨g1, g2, g3, g4, g5, g6, g7⟩ := h
  refine ⟨rfl, g1, mvEnv_to hW.alike (mvNs_warm hW) (by rw [hU]; exact g6.1) (fun q h1 h2 => by rw [hU]; exact g6.2.1 q h1 h2) hE, by rw [hU]; exact g4, by rw [hU]; exact g5⟩
/-- behind a call -/
theorem mvs_back {L : mvL} {S S' : List mvV} {σ σ1 : mvS} {pc : Nat} {r : Option mvV} {a : Array Value} {H : Heap} {locs : List Loc} {ls : Array Slot} {st0 : List Value} (h : mvRel b D cA0 cA1 t1 t2 s σ L S H locs ls) (hS' : ∀ v ∈ S', mvOk v) (hn0 : n0 ≤ σ.1) (h01 : σ.1 ≤ σ1.1)
    (hr : va_Run p l e R s m args below meth c H locs (σ.1 - n0) (mvSz σ.1 - mvSz n0) (σ1.1 - σ.1) (mvSz σ1.1 - mvSz σ.1) (F0 m pc ls st0) (S'.map (mvRv b)) (mvQc b D cA0 cA1 t1 t2 Ls r σ1 a) (fun q => b.1 ≤ q))
    (kk : mvW p l e R s m args below meth c Q b D cA0 cA1 t1 t2 n0 (pc + 3) L (r.toList ++ S') σ1) : W p l e R s m args below meth c H locs (σ.1 - n0) (mvSz σ.1 - mvSz n0) Q (F0 m pc ls st0) := by
  obtain ⟨g1, g2, g3, g4, g5, g6, g7⟩ := h
  intro T hT X
  obtain ⟨v, st₀, t, T', L', h0, X', hL, e1, e2, ⟨⟨hv, hok, u1, u2, u3, u4⟩, hz, hk⟩, st⟩ := hr T hT X
  have hv' : v = r.map (mvRv b) := by injection hv
  subst hv'
  rw [h0] at hz hk
  have K := kk T'.heap (locs ++ L') ls ⟨u1, ?_, g3, by rw [e1]; exact u3, by rw [e1]; exact u4, ⟨Nat.le_trans g6.1 (by rw [e1]; exact hz), fun q h1 h2 => by rw [e1, hk q (Nat.lt_of_lt_of_le h1 g6.1) h2]; exact g6.2.1 q h1 h2, fun q hq => ?_⟩, g7⟩
  · have ec : σ1.1 - n0 = σ.1 - n0 + (σ1.1 - σ.1) := by omega
    have es : mvSz σ1.1 - mvSz n0 = mvSz σ.1 - mvSz n0 + (mvSz σ1.1 - mvSz σ.1) := by
      have := mvSz_mono hn0
      have := mvSz_mono h01
      omega
    rw [ec, es] at K
    obtain ⟨t2, a1, b1⟩ := K T' rfl X'
    have ers : (r.toList ++ S').map (mvRv b) = (r.map (mvRv b)).toList ++ S'.map (mvRv b) := by
      cases r <;> simp
    rw [ers] at a1
    exact ⟨t2, st t2 a1, b1⟩
  · intro v hv2
    rcases List.mem_append.mp hv2 with q | q
    · exact hok v (by simpa using q)
    · exact hS' v q
  · rcases List.mem_append.mp hq with q1 | q1
    · exact g6.2.2 q q1
    · exact hL q q1
end MVS
