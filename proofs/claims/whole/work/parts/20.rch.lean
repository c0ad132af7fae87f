/-! reaching an end: the mini machine's runs, backwards -/
/-- what a run does at a place, with the run of what follows as a parameter -/
def mvRunK (f : Nat → Nat → mvL → List mvV → mvS → Option (Option mvV × mvS)) (j pc : Nat) (L : mvL) (S : List mvV) (σ : mvS) : Option (Option mvV × mvS) := match mvMd[j]?, mvDec j pc with
    | some q, some (ins, len) => match mvStep (mvOwn q) (mvKd q == 2) (mvRk q) pc ins len L S σ with
      | some (pc', L', S', σ') => f j pc' L' S' σ'
      | none => match mvCall (mvOwn q) (mvRk q) ins len S σ with
        | some (j', as, S') => match mvMd[j']? with
          | some q' => match f j' 0 (mvEntry q'.2.2.1 as) [] σ with
            | some (r, σ') => f j (pc + 3) L (r.toList ++ S') σ'
            | none => none
          | none => none
        | none => match mvRet q.2.2.2.1 ins len S with
          | some r => some (r, σ)
          | none => none
    | _, _ => none
theorem mvRun_eq (n j pc : Nat) (L : mvL) (S : List mvV) (σ : mvS) : mvRun (n + 1) j pc L S σ = mvRunK (mvRun n) j pc L S σ := rfl
theorem mvRunK_mono {f g : Nat → Nat → mvL → List mvV → mvS → Option (Option mvV × mvS)} (hfg : ∀ j pc L S σ z, f j pc L S σ = some z → g j pc L S σ = some z) {j pc : Nat} {L : mvL} {S : List mvV} {σ : mvS} {z : Option mvV × mvS} (h : mvRunK f j pc L S σ = some z) : mvRunK g j pc L S σ = some z := by
  unfold mvRunK at h ⊢
  cases hq : mvMd[j]? with
  | none => rw [hq] at h; cases h
  | some q =>
    cases hd : mvDec j pc with
    | none => rw [hq, hd] at h; cases h
    | some d =>
      obtain ⟨ins, len⟩ := d
      rw [hq, hd] at h
      simp only at h ⊢
      cases hs : mvStep (mvOwn q) (mvKd q == 2) (mvRk q) pc ins len L S σ with
      | some x => rw [hs] at h; exact hfg _ _ _ _ _ _ h
      | none =>
        rw [hs] at h
        simp only at h ⊢
        cases hc : mvCall (mvOwn q) (mvRk q) ins len S σ with
        | none => rw [hc] at h; exact h
        | some x =>
          obtain ⟨j', as, S'⟩ := x
          rw [hc] at h
          simp only at h ⊢
          cases hq' : mvMd[j']? with
          | none => rw [hq'] at h; cases h
          | some q' =>
            rw [hq'] at h
            simp only at h ⊢
            cases hf : f j' 0 (mvEntry q'.2.2.1 as) [] σ with
            | none => rw [hf] at h; cases h
            | some y =>
              rw [hf] at h
              rw [hfg _ _ _ _ _ _ hf]
              exact hfg _ _ _ _ _ _ h
theorem mvRun_fuel : ∀ (n j pc : Nat) (L : mvL) (S : List mvV) (σ : mvS) (z : Option mvV × mvS), mvRun n j pc L S σ = some z → mvRun (n + 1) j pc L S σ = some z := by
  intro n
  induction n with
  | zero => intro j pc L S σ z h; cases h
  | succ n ih =>
    intro j pc L S σ z h
    rw [mvRun_eq] at h ⊢
    exact mvRunK_mono ih h
theorem mvRun_le {n m j pc : Nat} {L : mvL} {S : List mvV} {σ : mvS} {z : Option mvV × mvS} (h : mvRun n j pc L S σ = some z) (hm : n ≤ m) : mvRun m j pc L S σ = some z := by
  induction hm with
  | refl => exact h
  | step _ ih => exact mvRun_fuel _ _ _ _ _ _ _ ih
def Rch (j pc : Nat) (L : mvL) (S : List mvV) (σ : mvS) (Q : Option mvV → mvS → Prop) : Prop := ∃ (n : Nat) (r : Option mvV) (σ' : mvS), mvRun n j pc L S σ = some (r, σ') ∧ Q r σ'
/-- what a rule asks of the method: own class, kind, rank, locals, arguments, what it returns -/
def mvMq (j own kd rk mL na : Nat) (rt : Option FieldType) : Prop := ∃ q, mvMd[j]? = some q ∧ mvOwn q = own ∧ mvKd q = kd ∧ mvRk q = rk ∧ q.2.2.1 = mL ∧ mvNa q = na ∧ q.2.2.2.1 = rt
theorem mvDec_of {j pc : Nat} {cd : List (Nat × Instr × Nat)} {x : Instr × Nat} (h : mvCdl[j]? = some cd) (h2 : cd.lookup pc = some x) : mvDec j pc = some x := by
  unfold mvDec
  rw [h]
  exact h2
section RC
variable {j own kd rk mL na : Nat} {rt : Option FieldType} {pc : Nat} {L : mvL} {S : List mvV} {σ : mvS} {Q : Option mvV → mvS → Prop}
theorem rc_step {ins : Instr} {len pc' : Nat} {L' : mvL} {S' : List mvV} {σ' : mvS} (M : mvMq j own kd rk mL na rt) (hd : mvDec j pc = some (ins, len)) (hs : mvStep own (kd == 2) rk pc ins len L S σ = some (pc', L', S', σ')) (k : Rch j pc' L' S' σ' Q) : Rch j pc L S σ Q := by
  obtain ⟨q, hq, rfl, rfl, rfl, -⟩ := M
  obtain ⟨n, r, σ2, h1, h2⟩ := k
  refine ⟨n + 1, r, σ2, ?_, h2⟩
  rw [mvRun_eq]
  unfold mvRunK
  simp only [hq, hd, hs]
  exact h1
theorem rc_callG {ins : Instr} {len j' : Nat} {as S' : List mvV} {q' : mvMt} (M : mvMq j own kd rk mL na rt) (hd : mvDec j pc = some (ins, len)) (hs : mvStep own (kd == 2) rk pc ins len L S σ = none) (hc : mvCall own rk ins len S σ = some (j', as, S')) (hq' : mvMd[j']? = some q')
    (k : Rch j' 0 (mvEntry q'.2.2.1 as) [] σ (fun r σ' => Rch j (pc + 3) L (r.toList ++ S') σ' Q)) : Rch j pc L S σ Q := by
  obtain ⟨q, hq, rfl, rfl, rfl, -⟩ := M
  obtain ⟨n, r, σ2, h1, n2, r2, σ3, h2, h3⟩ := k
  refine ⟨(n + n2) + 1, r2, σ3, ?_, h3⟩
  rw [mvRun_eq]
  unfold mvRunK
  simp only [hq, hd, hs, hc, hq', mvRun_le h1 (Nat.le_add_right n n2)]
  exact mvRun_le h2 (Nat.le_add_left n2 n)
theorem rc_retG {ins : Instr} {len : Nat} {r : Option mvV} (M : mvMq j own kd rk mL na rt) (hd : mvDec j pc = some (ins, len)) (hs : mvStep own (kd == 2) rk pc ins len L S σ = none) (hc : mvCall own rk ins len S σ = none) (hr : mvRet rt ins len S = some r) (k : Q r σ) : Rch j pc L S σ Q := by
  obtain ⟨q, hq, rfl, rfl, rfl, -, -, rfl⟩ := M
  refine ⟨0 + 1, r, σ, ?_, k⟩
  rw [mvRun_eq]
  unfold mvRunK
  simp only [hq, hd, hs, hc, hr]
theorem rc_mono {Q' : Option mvV → mvS → Prop} (h : Rch j pc L S σ Q) (hQ : ∀ r σ', Q r σ' → Q' r σ') : Rch j pc L S σ Q' := by
  obtain ⟨n, r, σ', h1, h2⟩ := h
  exact ⟨n, r, σ', h1, hQ _ _ h2⟩
theorem rc_iload_n {k : Fin 4} {x : Int} (M : mvMq j own kd rk mL na rt) (hd : mvDec j pc = some (.iload_n k, 1)) (hg : mvGet L k = some (mvI x)) (kk : Rch j (pc + 1) L (mvI x :: S) σ Q) : Rch j pc L S σ Q := rc_step M hd (show mvLdI (mvGet L k) (pc + 1) L S σ = _ by rw [hg]; rfl) kk
theorem rc_iload {k : Nat} {x : Int} (M : mvMq j own kd rk mL na rt) (hd : mvDec j pc = some (.iload k, 2)) (hg : mvGet L k = some (mvI x)) (kk : Rch j (pc + 2) L (mvI x :: S) σ Q) : Rch j pc L S σ Q := rc_step M hd (show mvLdI (mvGet L k) (pc + 2) L S σ = _ by rw [hg]; rfl) kk
theorem rc_lload_n {k : Fin 4} {x : Int} (M : mvMq j own kd rk mL na rt) (hd : mvDec j pc = some (.lload_n k, 1)) (hg : mvGet L k = some (mvJ x)) (kk : Rch j (pc + 1) L (mvJ x :: S) σ Q) : Rch j pc L S σ Q := rc_step M hd (show mvLdJ (mvGet L k) (pc + 1) L S σ = _ by rw [hg]; rfl) kk
theorem rc_aload_n {k : Fin 4} {x : Nat} (M : mvMq j own kd rk mL na rt) (hd : mvDec j pc = some (.aload_n k, 1)) (hg : mvGet L k = some (mvR x)) (kk : Rch j (pc + 1) L (mvR x :: S) σ Q) : Rch j pc L S σ Q := rc_step M hd (show mvLdR (mvGet L k) (pc + 1) L S σ = _ by rw [hg]; rfl) kk
theorem rc_aload {k : Nat} {x : Nat} (M : mvMq j own kd rk mL na rt) (hd : mvDec j pc = some (.aload k, 2)) (hg : mvGet L k = some (mvR x)) (kk : Rch j (pc + 2) L (mvR x :: S) σ Q) : Rch j pc L S σ Q := rc_step M hd (show mvLdR (mvGet L k) (pc + 2) L S σ = _ by rw [hg]; rfl) kk
theorem rc_istore_n {k : Fin 4} {x : Int} (L' : mvL) (M : mvMq j own kd rk mL na rt) (hd : mvDec j pc = some (.istore_n k, 1)) (hs : mvSt L k (mvI x) = some L') (kk : Rch j (pc + 1) L' S σ Q) : Rch j pc L (mvI x :: S) σ Q := rc_step M hd (show mvToL (mvSt L k (mvI x)) (pc + 1) S σ = _ by rw [hs]; rfl) kk
theorem rc_istore {k : Nat} {x : Int} (L' : mvL) (M : mvMq j own kd rk mL na rt) (hd : mvDec j pc = some (.istore k, 2)) (hs : mvSt L k (mvI x) = some L') (kk : Rch j (pc + 2) L' S σ Q) : Rch j pc L (mvI x :: S) σ Q := rc_step M hd (show mvToL (mvSt L k (mvI x)) (pc + 2) S σ = _ by rw [hs]; rfl) kk
theorem rc_astore_n {k : Fin 4} {x : Nat} (L' : mvL) (M : mvMq j own kd rk mL na rt) (hd : mvDec j pc = some (.astore_n k, 1)) (hs : mvSt L k (mvR x) = some L') (kk : Rch j (pc + 1) L' S σ Q) : Rch j pc L (mvR x :: S) σ Q := rc_step M hd (show mvToL (mvSt L k (mvR x)) (pc + 1) S σ = _ by rw [hs]; rfl) kk
theorem rc_lstore_n {k : Fin 4} {x : Int} (L' : mvL) (M : mvMq j own kd rk mL na rt) (hd : mvDec j pc = some (.lstore_n k, 1)) (hs : mvSt2 L k (mvJ x) = some L') (kk : Rch j (pc + 1) L' S σ Q) : Rch j pc L (mvJ x :: S) σ Q := rc_step M hd (show mvToL (mvSt2 L k (mvJ x)) (pc + 1) S σ = _ by rw [hs]; rfl) kk
theorem rc_iconst {n : Int} (M : mvMq j own kd rk mL na rt) (hd : mvDec j pc = some (.iconst n, 1)) (hn : -1 ≤ n ∧ n ≤ 5) (kk : Rch j (pc + 1) L (mvI n :: S) σ Q) : Rch j pc L S σ Q := rc_step M hd (show (if -1 ≤ n ∧ n ≤ 5 then some (pc + 1, L, mvI n :: S, σ) else none) = _ by rw [if_pos hn]) kk
theorem rc_bipush {n : Int} (M : mvMq j own kd rk mL na rt) (hd : mvDec j pc = some (.bipush n, 2)) (hn : -128 ≤ n ∧ n ≤ 127) (kk : Rch j (pc + 2) L (mvI n :: S) σ Q) : Rch j pc L S σ Q := rc_step M hd (show (if -128 ≤ n ∧ n ≤ 127 then some (pc + 2, L, mvI n :: S, σ) else none) = _ by rw [if_pos hn]) kk
theorem rc_sipush {n : Int} (M : mvMq j own kd rk mL na rt) (hd : mvDec j pc = some (.sipush n, 3)) (hn : -32768 ≤ n ∧ n ≤ 32767) (kk : Rch j (pc + 3) L (mvI n :: S) σ Q) : Rch j pc L S σ Q := rc_step M hd (show (if -32768 ≤ n ∧ n ≤ 32767 then some (pc + 3, L, mvI n :: S, σ) else none) = _ by rw [if_pos hn]) kk
theorem rc_lconst {n : Fin 2} (M : mvMq j own kd rk mL na rt) (hd : mvDec j pc = some (.lconst n, 1)) (kk : Rch j (pc + 1) L (mvJ ((n : Nat) : Int) :: S) σ Q) : Rch j pc L S σ Q := rc_step M hd rfl kk
theorem rc_ldcw {ix : Nat} {x : Int} (M : mvMq j own kd rk mL na rt) (hd : mvDec j pc = some (.ldc_w ix, 3)) (hl : mvIl.lookup (own, ix) = some x) (kk : Rch j (pc + 3) L (mvI x :: S) σ Q) : Rch j pc L S σ Q := rc_step M hd (show (match mvIl.lookup (own, ix) with | some x => some (pc + 3, L, mvI x :: S, σ) | none => none) = _ by rw [hl]) kk
theorem rc_ldc2 {ix : Nat} {x : Int} (M : mvMq j own kd rk mL na rt) (hd : mvDec j pc = some (.ldc2_w ix, 3)) (hl : mvJl.lookup (own, ix) = some x) (kk : Rch j (pc + 3) L (mvJ x :: S) σ Q) : Rch j pc L S σ Q := rc_step M hd (show (match mvJl.lookup (own, ix) with | some x => some (pc + 3, L, mvJ x :: S, σ) | none => none) = _ by rw [hl]) kk
theorem rc_iinc {i : Nat} {n x : Int} (L' : mvL) (M : mvMq j own kd rk mL na rt) (hd : mvDec j pc = some (.iinc i n, 3)) (hg : mvGet L i = some (mvI x)) (hs : mvSt L i (mvI (mw (x + n))) = some L') (kk : Rch j (pc + 3) L' S σ Q) : Rch j pc L S σ Q := rc_step M hd (show (match mvGet L i with | some (.inl x) => mvToL (mvSt L i (mvI (mw (x + n)))) (pc + 3) S σ | _ => none) = _ by rw [hg]; show mvToL (mvSt L i (mvI (mw (x + n)))) (pc + 3) S σ = _; rw [hs]; rfl) kk
theorem rc_iadd {x y : Int} (M : mvMq j own kd rk mL na rt) (hd : mvDec j pc = some (.iadd, 1)) (kk : Rch j (pc + 1) L (mvI (mw (x + y)) :: S) σ Q) : Rch j pc L (mvI y :: mvI x :: S) σ Q := rc_step M hd rfl kk
theorem rc_isub {x y : Int} (M : mvMq j own kd rk mL na rt) (hd : mvDec j pc = some (.isub, 1)) (kk : Rch j (pc + 1) L (mvI (mw (x - y)) :: S) σ Q) : Rch j pc L (mvI y :: mvI x :: S) σ Q := rc_step M hd rfl kk
theorem rc_imul {x y : Int} (M : mvMq j own kd rk mL na rt) (hd : mvDec j pc = some (.imul, 1)) (kk : Rch j (pc + 1) L (mvI (mw (x * y)) :: S) σ Q) : Rch j pc L (mvI y :: mvI x :: S) σ Q := rc_step M hd rfl kk
theorem rc_iand {x y : Int} (M : mvMq j own kd rk mL na rt) (hd : mvDec j pc = some (.iand, 1)) (kk : Rch j (pc + 1) L (mvI (mvAnd x y) :: S) σ Q) : Rch j pc L (mvI y :: mvI x :: S) σ Q := rc_step M hd rfl kk
theorem rc_ior {x y : Int} (M : mvMq j own kd rk mL na rt) (hd : mvDec j pc = some (.ior, 1)) (kk : Rch j (pc + 1) L (mvI (mvOr x y) :: S) σ Q) : Rch j pc L (mvI y :: mvI x :: S) σ Q := rc_step M hd rfl kk
theorem rc_ishl {x y : Int} (M : mvMq j own kd rk mL na rt) (hd : mvDec j pc = some (.ishl, 1)) (kk : Rch j (pc + 1) L (mvI (mvShl x y) :: S) σ Q) : Rch j pc L (mvI y :: mvI x :: S) σ Q := rc_step M hd rfl kk
theorem rc_ishr {x y : Int} (M : mvMq j own kd rk mL na rt) (hd : mvDec j pc = some (.ishr, 1)) (kk : Rch j (pc + 1) L (mvI (mvShr x y) :: S) σ Q) : Rch j pc L (mvI y :: mvI x :: S) σ Q := rc_step M hd rfl kk
theorem rc_iushr {x y : Int} (M : mvMq j own kd rk mL na rt) (hd : mvDec j pc = some (.iushr, 1)) (kk : Rch j (pc + 1) L (mvI (mvUshr x y) :: S) σ Q) : Rch j pc L (mvI y :: mvI x :: S) σ Q := rc_step M hd rfl kk
theorem rc_ladd {x y : Int} (M : mvMq j own kd rk mL na rt) (hd : mvDec j pc = some (.ladd, 1)) (kk : Rch j (pc + 1) L (mvJ (mwl (x + y)) :: S) σ Q) : Rch j pc L (mvJ y :: mvJ x :: S) σ Q := rc_step M hd rfl kk
theorem rc_lmul {x y : Int} (M : mvMq j own kd rk mL na rt) (hd : mvDec j pc = some (.lmul, 1)) (kk : Rch j (pc + 1) L (mvJ (mwl (x * y)) :: S) σ Q) : Rch j pc L (mvJ y :: mvJ x :: S) σ Q := rc_step M hd rfl kk
theorem rc_lcmp {x y : Int} (M : mvMq j own kd rk mL na rt) (hd : mvDec j pc = some (.lcmp, 1)) (kk : Rch j (pc + 1) L (mvI (mvLcmp x y) :: S) σ Q) : Rch j pc L (mvJ y :: mvJ x :: S) σ Q := rc_step M hd rfl kk
theorem rc_idiv {x y : Int} (M : mvMq j own kd rk mL na rt) (hd : mvDec j pc = some (.idiv, 1)) (hy : ¬ y = 0) (kk : Rch j (pc + 1) L (mvI (mw (x.tdiv y)) :: S) σ Q) : Rch j pc L (mvI y :: mvI x :: S) σ Q := rc_step M hd (show (if y = 0 then none else some (pc + 1, L, mvI (mw (x.tdiv y)) :: S, σ)) = _ by rw [if_neg hy]) kk
theorem rc_irem {x y : Int} (M : mvMq j own kd rk mL na rt) (hd : mvDec j pc = some (.irem, 1)) (hy : ¬ y = 0) (kk : Rch j (pc + 1) L (mvI (x.tmod y) :: S) σ Q) : Rch j pc L (mvI y :: mvI x :: S) σ Q := rc_step M hd (show (if y = 0 then none else some (pc + 1, L, mvI (x.tmod y) :: S, σ)) = _ by rw [if_neg hy]) kk
theorem rc_ldiv {x y : Int} (M : mvMq j own kd rk mL na rt) (hd : mvDec j pc = some (.ldiv, 1)) (hy : ¬ y = 0) (kk : Rch j (pc + 1) L (mvJ (mwl (x.tdiv y)) :: S) σ Q) : Rch j pc L (mvJ y :: mvJ x :: S) σ Q := rc_step M hd (show (if y = 0 then none else some (pc + 1, L, mvJ (mwl (x.tdiv y)) :: S, σ)) = _ by rw [if_neg hy]) kk
theorem rc_lrem {x y : Int} (M : mvMq j own kd rk mL na rt) (hd : mvDec j pc = some (.lrem, 1)) (hy : ¬ y = 0) (kk : Rch j (pc + 1) L (mvJ (x.tmod y) :: S) σ Q) : Rch j pc L (mvJ y :: mvJ x :: S) σ Q := rc_step M hd (show (if y = 0 then none else some (pc + 1, L, mvJ (x.tmod y) :: S, σ)) = _ by rw [if_neg hy]) kk
theorem rc_i2l {x : Int} (M : mvMq j own kd rk mL na rt) (hd : mvDec j pc = some (.i2l, 1)) (kk : Rch j (pc + 1) L (mvJ x :: S) σ Q) : Rch j pc L (mvI x :: S) σ Q := rc_step M hd rfl kk
theorem rc_l2i {x : Int} (M : mvMq j own kd rk mL na rt) (hd : mvDec j pc = some (.l2i, 1)) (kk : Rch j (pc + 1) L (mvI (mw x) :: S) σ Q) : Rch j pc L (mvJ x :: S) σ Q := rc_step M hd rfl kk
theorem rc_dup {v : mvV} (M : mvMq j own kd rk mL na rt) (hd : mvDec j pc = some (.dup, 1)) (hv : mvCat v = 1) (kk : Rch j (pc + 1) L (v :: v :: S) σ Q) : Rch j pc L (v :: S) σ Q := rc_step M hd (show (if mvCat v = 1 then some (pc + 1, L, v :: v :: S, σ) else none) = _ by rw [if_pos hv]) kk
theorem rc_dup2 {v u : mvV} (M : mvMq j own kd rk mL na rt) (hd : mvDec j pc = some (.dup2, 1)) (hv : mvCat v = 1) (hu : mvCat u = 1) (kk : Rch j (pc + 1) L (v :: u :: v :: u :: S) σ Q) : Rch j pc L (v :: u :: S) σ Q := rc_step M hd (show (if mvCat v = 1 ∧ mvCat u = 1 then some (pc + 1, L, v :: u :: v :: u :: S, σ) else none) = _ by rw [if_pos ⟨hv, hu⟩]) kk
theorem rc_pop {v : mvV} (M : mvMq j own kd rk mL na rt) (hd : mvDec j pc = some (.pop, 1)) (hv : mvCat v = 1) (kk : Rch j (pc + 1) L S σ Q) : Rch j pc L (v :: S) σ Q := rc_step M hd (show (if mvCat v = 1 then some (pc + 1, L, S, σ) else none) = _ by rw [if_pos hv]) kk
theorem rc_goto {off : Int} {t : Nat} (M : mvMq j own kd rk mL na rt) (hd : mvDec j pc = some (.goto off, 3)) (ht : mvTgt pc off = some t) (kk : Rch j t L S σ Q) : Rch j pc L S σ Q := rc_step M hd (show mvGo (mvTgt pc off) L S σ = _ by rw [ht]; rfl) kk
theorem rc_br {x y : Int} {cd : ClassFile.Cond} {off : Int} {t : Nat} (M : mvMq j own kd rk mL na rt) (hd : mvDec j pc = some (.if_icmp cd off, 3)) (ht : mvTgt pc off = some t) (kk : Rch j (if mvCmpB cd x y = true then t else pc + 3) L S σ Q) : Rch j pc L (mvI y :: mvI x :: S) σ Q := rc_step M hd (show (match mvTgt pc off with | some t => some (if mvCmpB cd x y = true then t else pc + 3, L, S, σ) | none => none) = _ by rw [ht]) kk
theorem rc_brz {x : Int} {cd : ClassFile.Cond} {off : Int} {t : Nat} (M : mvMq j own kd rk mL na rt) (hd : mvDec j pc = some (.ifCond cd off, 3)) (ht : mvTgt pc off = some t) (kk : Rch j (if mvCmpB cd x 0 = true then t else pc + 3) L S σ Q) : Rch j pc L (mvI x :: S) σ Q := rc_step M hd (show (match mvTgt pc off with | some t => some (if mvCmpB cd x 0 = true then t else pc + 3, L, S, σ) | none => none) = _ by rw [ht]) kk
theorem rc_icmp_eq {x y off : Int} {t : Nat} (M : mvMq j own kd rk mL na rt) (hd : mvDec j pc = some (.if_icmp .eq off, 3)) (ht : mvTgt pc off = some t) (kt : x = y → Rch j t L S σ Q) (kf : ¬ x = y → Rch j (pc + 3) L S σ Q) : Rch j pc L (mvI y :: mvI x :: S) σ Q := rc_br M hd ht (by
  by_cases h : x = y
  · rw [if_pos (show mvCmpB .eq x y = true from decide_eq_true h)]; exact kt h
  · rw [if_neg (show ¬ mvCmpB .eq x y = true from fun z => h (of_decide_eq_true z))]; exact kf (by omega))
theorem rc_if_eq {x off : Int} {t : Nat} (M : mvMq j own kd rk mL na rt) (hd : mvDec j pc = some (.ifCond .eq off, 3)) (ht : mvTgt pc off = some t) (kt : x = 0 → Rch j t L S σ Q) (kf : ¬ x = 0 → Rch j (pc + 3) L S σ Q) : Rch j pc L (mvI x :: S) σ Q := rc_brz M hd ht (by
  by_cases h : x = 0
  · rw [if_pos (show mvCmpB .eq x 0 = true from decide_eq_true h)]; exact kt h
  · rw [if_neg (show ¬ mvCmpB .eq x 0 = true from fun z => h (of_decide_eq_true z))]; exact kf (by omega))
theorem rc_icmp_ne {x y off : Int} {t : Nat} (M : mvMq j own kd rk mL na rt) (hd : mvDec j pc = some (.if_icmp .ne off, 3)) (ht : mvTgt pc off = some t) (kt : ¬ x = y → Rch j t L S σ Q) (kf : x = y → Rch j (pc + 3) L S σ Q) : Rch j pc L (mvI y :: mvI x :: S) σ Q := rc_br M hd ht (by
  by_cases h : ¬ x = y
  · rw [if_pos (show mvCmpB .ne x y = true from decide_eq_true h)]; exact kt h
  · rw [if_neg (show ¬ mvCmpB .ne x y = true from fun z => h (of_decide_eq_true z))]; exact kf (by omega))
theorem rc_if_ne {x off : Int} {t : Nat} (M : mvMq j own kd rk mL na rt) (hd : mvDec j pc = some (.ifCond .ne off, 3)) (ht : mvTgt pc off = some t) (kt : ¬ x = 0 → Rch j t L S σ Q) (kf : x = 0 → Rch j (pc + 3) L S σ Q) : Rch j pc L (mvI x :: S) σ Q := rc_brz M hd ht (by
  by_cases h : ¬ x = 0
  · rw [if_pos (show mvCmpB .ne x 0 = true from decide_eq_true h)]; exact kt h
  · rw [if_neg (show ¬ mvCmpB .ne x 0 = true from fun z => h (of_decide_eq_true z))]; exact kf (by omega))
theorem rc_icmp_lt {x y off : Int} {t : Nat} (M : mvMq j own kd rk mL na rt) (hd : mvDec j pc = some (.if_icmp .lt off, 3)) (ht : mvTgt pc off = some t) (kt : x < y → Rch j t L S σ Q) (kf : y ≤ x → Rch j (pc + 3) L S σ Q) : Rch j pc L (mvI y :: mvI x :: S) σ Q := rc_br M hd ht (by
  by_cases h : x < y
  · rw [if_pos (show mvCmpB .lt x y = true from decide_eq_true h)]; exact kt h
  · rw [if_neg (show ¬ mvCmpB .lt x y = true from fun z => h (of_decide_eq_true z))]; exact kf (by omega))
theorem rc_if_lt {x off : Int} {t : Nat} (M : mvMq j own kd rk mL na rt) (hd : mvDec j pc = some (.ifCond .lt off, 3)) (ht : mvTgt pc off = some t) (kt : x < 0 → Rch j t L S σ Q) (kf : 0 ≤ x → Rch j (pc + 3) L S σ Q) : Rch j pc L (mvI x :: S) σ Q := rc_brz M hd ht (by
  by_cases h : x < 0
  · rw [if_pos (show mvCmpB .lt x 0 = true from decide_eq_true h)]; exact kt h
  · rw [if_neg (show ¬ mvCmpB .lt x 0 = true from fun z => h (of_decide_eq_true z))]; exact kf (by omega))
theorem rc_icmp_ge {x y off : Int} {t : Nat} (M : mvMq j own kd rk mL na rt) (hd : mvDec j pc = some (.if_icmp .ge off, 3)) (ht : mvTgt pc off = some t) (kt : y ≤ x → Rch j t L S σ Q) (kf : x < y → Rch j (pc + 3) L S σ Q) : Rch j pc L (mvI y :: mvI x :: S) σ Q := rc_br M hd ht (by
  by_cases h : y ≤ x
  · rw [if_pos (show mvCmpB .ge x y = true from decide_eq_true h)]; exact kt h
  · rw [if_neg (show ¬ mvCmpB .ge x y = true from fun z => h (of_decide_eq_true z))]; exact kf (by omega))
theorem rc_if_ge {x off : Int} {t : Nat} (M : mvMq j own kd rk mL na rt) (hd : mvDec j pc = some (.ifCond .ge off, 3)) (ht : mvTgt pc off = some t) (kt : 0 ≤ x → Rch j t L S σ Q) (kf : x < 0 → Rch j (pc + 3) L S σ Q) : Rch j pc L (mvI x :: S) σ Q := rc_brz M hd ht (by
  by_cases h : 0 ≤ x
  · rw [if_pos (show mvCmpB .ge x 0 = true from decide_eq_true h)]; exact kt h
  · rw [if_neg (show ¬ mvCmpB .ge x 0 = true from fun z => h (of_decide_eq_true z))]; exact kf (by omega))
theorem rc_icmp_gt {x y off : Int} {t : Nat} (M : mvMq j own kd rk mL na rt) (hd : mvDec j pc = some (.if_icmp .gt off, 3)) (ht : mvTgt pc off = some t) (kt : y < x → Rch j t L S σ Q) (kf : x ≤ y → Rch j (pc + 3) L S σ Q) : Rch j pc L (mvI y :: mvI x :: S) σ Q := rc_br M hd ht (by
  by_cases h : y < x
  · rw [if_pos (show mvCmpB .gt x y = true from decide_eq_true h)]; exact kt h
  · rw [if_neg (show ¬ mvCmpB .gt x y = true from fun z => h (of_decide_eq_true z))]; exact kf (by omega))
theorem rc_if_gt {x off : Int} {t : Nat} (M : mvMq j own kd rk mL na rt) (hd : mvDec j pc = some (.ifCond .gt off, 3)) (ht : mvTgt pc off = some t) (kt : 0 < x → Rch j t L S σ Q) (kf : x ≤ 0 → Rch j (pc + 3) L S σ Q) : Rch j pc L (mvI x :: S) σ Q := rc_brz M hd ht (by
  by_cases h : 0 < x
  · rw [if_pos (show mvCmpB .gt x 0 = true from decide_eq_true h)]; exact kt h
  · rw [if_neg (show ¬ mvCmpB .gt x 0 = true from fun z => h (of_decide_eq_true z))]; exact kf (by omega))
theorem rc_icmp_le {x y off : Int} {t : Nat} (M : mvMq j own kd rk mL na rt) (hd : mvDec j pc = some (.if_icmp .le off, 3)) (ht : mvTgt pc off = some t) (kt : x ≤ y → Rch j t L S σ Q) (kf : y < x → Rch j (pc + 3) L S σ Q) : Rch j pc L (mvI y :: mvI x :: S) σ Q := rc_br M hd ht (by
  by_cases h : x ≤ y
  · rw [if_pos (show mvCmpB .le x y = true from decide_eq_true h)]; exact kt h
  · rw [if_neg (show ¬ mvCmpB .le x y = true from fun z => h (of_decide_eq_true z))]; exact kf (by omega))
theorem rc_if_le {x off : Int} {t : Nat} (M : mvMq j own kd rk mL na rt) (hd : mvDec j pc = some (.ifCond .le off, 3)) (ht : mvTgt pc off = some t) (kt : x ≤ 0 → Rch j t L S σ Q) (kf : 0 < x → Rch j (pc + 3) L S σ Q) : Rch j pc L (mvI x :: S) σ Q := rc_brz M hd ht (by
  by_cases h : x ≤ 0
  · rw [if_pos (show mvCmpB .le x 0 = true from decide_eq_true h)]; exact kt h
  · rw [if_neg (show ¬ mvCmpB .le x 0 = true from fun z => h (of_decide_eq_true z))]; exact kf (by omega))
theorem rc_icmpT {x y off : Int} {cd : ClassFile.Cond} {t : Nat} (M : mvMq j own kd rk mL na rt) (hd : mvDec j pc = some (.if_icmp cd off, 3)) (ht : mvTgt pc off = some t) (hc : mvCmpB cd x y = true) (kk : Rch j t L S σ Q) : Rch j pc L (mvI y :: mvI x :: S) σ Q := rc_br M hd ht (by rw [if_pos hc]; exact kk)
theorem rc_icmpF {x y off : Int} {cd : ClassFile.Cond} {t : Nat} (M : mvMq j own kd rk mL na rt) (hd : mvDec j pc = some (.if_icmp cd off, 3)) (ht : mvTgt pc off = some t) (hc : mvCmpB cd x y = false) (kk : Rch j (pc + 3) L S σ Q) : Rch j pc L (mvI y :: mvI x :: S) σ Q := rc_br M hd ht (by rw [if_neg (by rw [hc]; decide)]; exact kk)
theorem rc_ifT {x off : Int} {cd : ClassFile.Cond} {t : Nat} (M : mvMq j own kd rk mL na rt) (hd : mvDec j pc = some (.ifCond cd off, 3)) (ht : mvTgt pc off = some t) (hc : mvCmpB cd x 0 = true) (kk : Rch j t L S σ Q) : Rch j pc L (mvI x :: S) σ Q := rc_brz M hd ht (by rw [if_pos hc]; exact kk)
theorem rc_ifF {x off : Int} {cd : ClassFile.Cond} {t : Nat} (M : mvMq j own kd rk mL na rt) (hd : mvDec j pc = some (.ifCond cd off, 3)) (ht : mvTgt pc off = some t) (hc : mvCmpB cd x 0 = false) (kk : Rch j (pc + 3) L S σ Q) : Rch j pc L (mvI x :: S) σ Q := rc_brz M hd ht (by rw [if_neg (by rw [hc]; decide)]; exact kk)
theorem rc_swD {x dflt lo hi : Int} {offs : Array Int} {len t : Nat} (M : mvMq j own kd rk mL na rt) (hd : mvDec j pc = some (.tableswitch dflt lo hi offs, len)) (hx : x < lo ∨ hi < x) (ht : mvTgt pc dflt = some t) (kk : Rch j t L S σ Q) : Rch j pc L (mvI x :: S) σ Q := rc_step M hd (show (if x < lo ∨ hi < x then mvGo (mvTgt pc dflt) L S σ else match offs[(x - lo).toNat]? with | some off => mvGo (mvTgt pc off) L S σ | none => none) = _ by rw [if_pos hx, ht]; rfl) kk
theorem rc_swI {x dflt lo hi off : Int} {offs : Array Int} {len t : Nat} (M : mvMq j own kd rk mL na rt) (hd : mvDec j pc = some (.tableswitch dflt lo hi offs, len)) (hx : ¬ (x < lo ∨ hi < x)) (ho : offs[(x - lo).toNat]? = some off) (ht : mvTgt pc off = some t) (kk : Rch j t L S σ Q) : Rch j pc L (mvI x :: S) σ Q := rc_step M hd (show (if x < lo ∨ hi < x then mvGo (mvTgt pc dflt) L S σ else match offs[(x - lo).toNat]? with | some off => mvGo (mvTgt pc off) L S σ | none => none) = _ by rw [if_neg hx, ho]; show mvGo (mvTgt pc off) L S σ = _; rw [ht]; rfl) kk
end RC
section RCS
variable {j own kd rk mL na : Nat} {rt : Option FieldType} {pc n : Nat} {L : mvL} {S : List mvV} {g : Nat → Nat → Nat} {h : Nat → Int → Int} {Q : Option mvV → mvS → Prop}
theorem rc_getI {ix a cf f : Nat} (fi : Int) (M : mvMq j own kd rk mL na rt) (hd : mvDec j pc = some (.getfield ix, 3)) (hl : mvFl.lookup (own, ix) = some (cf, f)) (hi : mvIs n a = (0, cf, 0)) (hfi : (f : Int) = fi) (hf : ¬ mvFt cf f = 2) (hf1 : ¬ mvFt cf f = 1) (kk : Rch j (pc + 3) L (mvI (h a fi) :: S) (n, g, h) Q) : Rch j pc L (mvR a :: S) (n, g, h) Q := by
  subst hfi
  exact rc_step M hd (show (match mvFl.lookup (own, ix) with | some (cf, f) => if mvIs n a = (0, cf, 0) then if mvFt cf f = 2 then (if g a f = 0 then none else some (pc + 3, L, mvR (g a f) :: S, (n, g, h))) else if mvFt cf f = 1 then some (pc + 3, L, mvJ (h a (f : Int)) :: S, (n, g, h)) else some (pc + 3, L, mvI (h a (f : Int)) :: S, (n, g, h)) else none | none => none) = _ by rw [hl]; show (if mvIs n a = (0, cf, 0) then _ else none) = _; rw [if_pos hi, if_neg hf, if_neg hf1]) kk
theorem rc_getJ {ix a cf f : Nat} (fi : Int) (M : mvMq j own kd rk mL na rt) (hd : mvDec j pc = some (.getfield ix, 3)) (hl : mvFl.lookup (own, ix) = some (cf, f)) (hi : mvIs n a = (0, cf, 0)) (hfi : (f : Int) = fi) (hf : ¬ mvFt cf f = 2) (hf1 : mvFt cf f = 1) (kk : Rch j (pc + 3) L (mvJ (h a fi) :: S) (n, g, h) Q) : Rch j pc L (mvR a :: S) (n, g, h) Q := by
  subst hfi
  exact rc_step M hd (show (match mvFl.lookup (own, ix) with | some (cf, f) => if mvIs n a = (0, cf, 0) then if mvFt cf f = 2 then (if g a f = 0 then none else some (pc + 3, L, mvR (g a f) :: S, (n, g, h))) else if mvFt cf f = 1 then some (pc + 3, L, mvJ (h a (f : Int)) :: S, (n, g, h)) else some (pc + 3, L, mvI (h a (f : Int)) :: S, (n, g, h)) else none | none => none) = _ by rw [hl]; show (if mvIs n a = (0, cf, 0) then _ else none) = _; rw [if_pos hi, if_neg hf, if_pos hf1]) kk
theorem rc_getR {ix a cf f : Nat} (a' : Nat) (M : mvMq j own kd rk mL na rt) (hd : mvDec j pc = some (.getfield ix, 3)) (hl : mvFl.lookup (own, ix) = some (cf, f)) (hi : mvIs n a = (0, cf, 0)) (hf : mvFt cf f = 2) (hg : g a f = a') (h0 : ¬ a' = 0) (kk : Rch j (pc + 3) L (mvR a' :: S) (n, g, h) Q) : Rch j pc L (mvR a :: S) (n, g, h) Q := by
  subst hg
  exact rc_step M hd (show (match mvFl.lookup (own, ix) with | some (cf, f) => if mvIs n a = (0, cf, 0) then if mvFt cf f = 2 then (if g a f = 0 then none else some (pc + 3, L, mvR (g a f) :: S, (n, g, h))) else if mvFt cf f = 1 then some (pc + 3, L, mvJ (h a (f : Int)) :: S, (n, g, h)) else some (pc + 3, L, mvI (h a (f : Int)) :: S, (n, g, h)) else none | none => none) = _ by rw [hl]; show (if mvIs n a = (0, cf, 0) then _ else none) = _; rw [if_pos hi, if_pos hf, if_neg h0]) kk
theorem rc_putI {ix a cf f : Nat} (fi : Int) {x : Int} (M : mvMq j own kd rk mL na rt) (hd : mvDec j pc = some (.putfield ix, 3)) (hl : mvFl.lookup (own, ix) = some (cf, f)) (hi : mvIs n a = (0, cf, 0)) (hfi : (f : Int) = fi) (hfin : mvFf cf f = true → (kd == 2) = true ∧ own = cf) (hf : mvFt cf f = 0 ∨ mvFt cf f = 3 ∧ (x = 0 ∨ x = 1)) (kk : Rch j (pc + 3) L S (n, g, mvUpd h a fi x) Q) : Rch j pc L (mvI x :: mvR a :: S) (n, g, h) Q := by
  subst hfi
  exact rc_step M hd (show (match mvFl.lookup (own, ix) with | some (cf, f) => if mvIs n a = (0, cf, 0) ∧ (mvFf cf f = true → (kd == 2) = true ∧ own = cf) then (if mvFt cf f = 0 ∨ mvFt cf f = 3 ∧ (x = 0 ∨ x = 1) then some (pc + 3, L, S, (n, g, mvUpd h a (f : Int) x)) else none) else none | none => none) = _ by rw [hl]; show (if mvIs n a = (0, cf, 0) ∧ (mvFf cf f = true → (kd == 2) = true ∧ own = cf) then _ else none) = _; rw [if_pos ⟨hi, hfin⟩, if_pos hf]) kk
theorem rc_putJ {ix a cf f : Nat} (fi : Int) {x : Int} (M : mvMq j own kd rk mL na rt) (hd : mvDec j pc = some (.putfield ix, 3)) (hl : mvFl.lookup (own, ix) = some (cf, f)) (hi : mvIs n a = (0, cf, 0)) (hfi : (f : Int) = fi) (hfin : mvFf cf f = true → (kd == 2) = true ∧ own = cf) (hf : mvFt cf f = 1) (kk : Rch j (pc + 3) L S (n, g, mvUpd h a fi x) Q) : Rch j pc L (mvJ x :: mvR a :: S) (n, g, h) Q := by
  subst hfi
  exact rc_step M hd (show (match mvFl.lookup (own, ix) with | some (cf, f) => if mvIs n a = (0, cf, 0) ∧ (mvFf cf f = true → (kd == 2) = true ∧ own = cf) then (if mvFt cf f = 1 then some (pc + 3, L, S, (n, g, mvUpd h a (f : Int) x)) else none) else none | none => none) = _ by rw [hl]; show (if mvIs n a = (0, cf, 0) ∧ (mvFf cf f = true → (kd == 2) = true ∧ own = cf) then _ else none) = _; rw [if_pos ⟨hi, hfin⟩, if_pos hf]) kk
theorem rc_putR {ix a cf f b : Nat} (M : mvMq j own kd rk mL na rt) (hd : mvDec j pc = some (.putfield ix, 3)) (hl : mvFl.lookup (own, ix) = some (cf, f)) (hi : mvIs n a = (0, cf, 0)) (hfin : mvFf cf f = true → (kd == 2) = true ∧ own = cf) (hf : mvFt cf f = 2 ∧ ¬ b = 0) (kk : Rch j (pc + 3) L S (n, mvUpg g a f b, h) Q) : Rch j pc L (mvR b :: mvR a :: S) (n, g, h) Q := rc_step M hd (show (match mvFl.lookup (own, ix) with | some (cf, f) => if mvIs n a = (0, cf, 0) ∧ (mvFf cf f = true → (kd == 2) = true ∧ own = cf) then (if mvFt cf f = 2 ∧ ¬ b = 0 then some (pc + 3, L, S, (n, mvUpg g a f b, h)) else none) else none | none => none) = _ by rw [hl]; show (if mvIs n a = (0, cf, 0) ∧ (mvFf cf f = true → (kd == 2) = true ∧ own = cf) then _ else none) = _; rw [if_pos ⟨hi, hfin⟩, if_pos hf]) kk
theorem rc_gstat {ix : Nat} (M : mvMq j own kd rk mL na rt) (hd : mvDec j pc = some (.getstatic ix, 3)) (ho : own = 2 ∧ ix = 91) (kk : Rch j (pc + 3) L (mvR 1 :: S) (n, g, h) Q) : Rch j pc L S (n, g, h) Q := rc_step M hd (show (if own = 2 ∧ ix = 91 then some (pc + 3, L, mvR 1 :: S, (n, g, h)) else none) = _ by rw [if_pos ho]) kk
theorem mvArr_is {n a t : Nat} {len : Nat} {g : Nat → Nat → Nat} {h : Nat → Int → Int} (hi : mvIs n a = (1, t, len)) : mvArr (n, g, h) a = (1, t, (len : Int)) := by
  have h3 : 3 ≤ a := by
    unfold mvIs at hi
    split at hi
    · rename_i hh; exact hh.1
    · cases hi
  unfold mvArr
  rw [if_neg (by omega), if_neg (by omega)]
  show ((mvIs n a).1, (mvIs n a).2.1, ((mvIs n a).2.2 : Int)) = _
  rw [hi]
theorem rc_iald {a len : Nat} {i : Int} (M : mvMq j own kd rk mL na rt) (hd : mvDec j pc = some (.iaload, 1)) (hi : mvIs n a = (1, 0, len)) (h0 : 0 ≤ i) (h1 : i < (len : Int)) (kk : Rch j (pc + 1) L (mvI (h a i) :: S) (n, g, h) Q) : Rch j pc L (mvI i :: mvR a :: S) (n, g, h) Q := rc_step M hd (show (if (mvArr (n, g, h) a).1 = 1 ∧ (mvArr (n, g, h) a).2.1 = 0 ∧ 0 ≤ i ∧ i < (mvArr (n, g, h) a).2.2 then some (pc + 1, L, mvI (h a i) :: S, (n, g, h)) else none) = _ by rw [mvArr_is hi, if_pos ⟨rfl, rfl, h0, h1⟩]) kk
theorem rc_bald {a len : Nat} {i : Int} (M : mvMq j own kd rk mL na rt) (hd : mvDec j pc = some (.baload, 1)) (hi : mvIs n a = (1, 1, len)) (h0 : 0 ≤ i) (h1 : i < (len : Int)) (kk : Rch j (pc + 1) L (mvI (h a i) :: S) (n, g, h) Q) : Rch j pc L (mvI i :: mvR a :: S) (n, g, h) Q := rc_step M hd (show (if (mvArr (n, g, h) a).1 = 1 ∧ (mvArr (n, g, h) a).2.1 = 1 ∧ 0 ≤ i ∧ i < (mvArr (n, g, h) a).2.2 then some (pc + 1, L, mvI (h a i) :: S, (n, g, h)) else none) = _ by rw [mvArr_is hi, if_pos ⟨rfl, rfl, h0, h1⟩]) kk
theorem rc_ialdT {i : Int} (M : mvMq j own kd rk mL na rt) (hd : mvDec j pc = some (.iaload, 1)) (h0 : 0 ≤ i) (h1 : i < 4) (kk : Rch j (pc + 1) L (mvI (h 1 i) :: S) (n, g, h) Q) : Rch j pc L (mvI i :: mvR 1 :: S) (n, g, h) Q := rc_step M hd (show (if (mvArr (n, g, h) 1).1 = 1 ∧ (mvArr (n, g, h) 1).2.1 = 0 ∧ 0 ≤ i ∧ i < (mvArr (n, g, h) 1).2.2 then some (pc + 1, L, mvI (h 1 i) :: S, (n, g, h)) else none) = _ by rw [if_pos ⟨rfl, rfl, h0, h1⟩]) kk
theorem rc_ialdS {i : Int} (M : mvMq j own kd rk mL na rt) (hd : mvDec j pc = some (.iaload, 1)) (h0 : 0 ≤ i) (h1 : i < h 2 (-1)) (kk : Rch j (pc + 1) L (mvI (h 2 i) :: S) (n, g, h) Q) : Rch j pc L (mvI i :: mvR 2 :: S) (n, g, h) Q := rc_step M hd (show (if (mvArr (n, g, h) 2).1 = 1 ∧ (mvArr (n, g, h) 2).2.1 = 0 ∧ 0 ≤ i ∧ i < (mvArr (n, g, h) 2).2.2 then some (pc + 1, L, mvI (h 2 i) :: S, (n, g, h)) else none) = _ by rw [if_pos ⟨rfl, rfl, h0, h1⟩]) kk
theorem rc_iast {a len : Nat} {i x : Int} (M : mvMq j own kd rk mL na rt) (hd : mvDec j pc = some (.iastore, 1)) (hi : mvIs n a = (1, 0, len)) (h0 : 0 ≤ i) (h1 : i < (len : Int)) (kk : Rch j (pc + 1) L S (n, g, mvUpd h a i x) Q) : Rch j pc L (mvI x :: mvI i :: mvR a :: S) (n, g, h) Q := rc_step M hd (show (if (mvIs n a).1 = 1 ∧ (mvIs n a).2.1 = 0 ∧ 0 ≤ i ∧ i < ((mvIs n a).2.2 : Int) then some (pc + 1, L, S, (n, g, mvUpd h a i x)) else none) = _ by rw [hi, if_pos ⟨rfl, rfl, h0, h1⟩]) kk
theorem rc_bast {a len : Nat} {i x : Int} (M : mvMq j own kd rk mL na rt) (hd : mvDec j pc = some (.bastore, 1)) (hi : mvIs n a = (1, 1, len)) (h0 : 0 ≤ i) (h1 : i < (len : Int)) (hx : x = 0 ∨ x = 1) (kk : Rch j (pc + 1) L S (n, g, mvUpd h a i x) Q) : Rch j pc L (mvI x :: mvI i :: mvR a :: S) (n, g, h) Q := rc_step M hd (show (if (mvIs n a).1 = 1 ∧ (mvIs n a).2.1 = 1 ∧ (0 ≤ i ∧ i < ((mvIs n a).2.2 : Int)) ∧ (x = 0 ∨ x = 1) then some (pc + 1, L, S, (n, g, mvUpd h a i x)) else none) = _ by rw [hi, if_pos ⟨rfl, rfl, ⟨h0, h1⟩, hx⟩]) kk
theorem rc_alen {a t len : Nat} (M : mvMq j own kd rk mL na rt) (hd : mvDec j pc = some (.arraylength, 1)) (hi : mvIs n a = (1, t, len)) (kk : Rch j (pc + 1) L (mvI (len : Int) :: S) (n, g, h) Q) : Rch j pc L (mvR a :: S) (n, g, h) Q := rc_step M hd (show (if (mvArr (n, g, h) a).1 = 1 then some (pc + 1, L, mvI (mvArr (n, g, h) a).2.2 :: S, (n, g, h)) else none) = _ by rw [mvArr_is hi, if_pos rfl]) kk
theorem rc_alenS  (M : mvMq j own kd rk mL na rt) (hd : mvDec j pc = some (.arraylength, 1)) (kk : Rch j (pc + 1) L (mvI (h 2 (-1)) :: S) (n, g, h) Q) : Rch j pc L (mvR 2 :: S) (n, g, h) Q := rc_step M hd rfl kk
theorem rc_newa {t len : Nat} {x : Int} {ty : ClassFile.ArrayType} (M : mvMq j own kd rk mL na rt) (hd : mvDec j pc = some (.newarray ty, 2)) (hi : mvSH n = (1, t, len)) (hx : x = (len : Int)) (ht : ty = .int ∧ t = 0 ∨ ty = .boolean ∧ t = 1) (kk : Rch j (pc + 2) L (mvR n :: S) (mvNew (n, g, h)) Q) : Rch j pc L (mvI x :: S) (n, g, h) Q := rc_step M hd (show (if (mvSH n).1 = 1 ∧ x = ((mvSH n).2.2 : Int) ∧ (ty = .int ∧ (mvSH n).2.1 = 0 ∨ ty = .boolean ∧ (mvSH n).2.1 = 1) then some (pc + 2, L, mvR n :: S, mvNew (n, g, h)) else none) = _ by rw [hi, if_pos ⟨rfl, hx, ht⟩]) kk
theorem rc_new {ix cf : Nat} (M : mvMq j own kd rk mL na rt) (hd : mvDec j pc = some (.new ix, 3)) (hl : mvKl.lookup (own, ix) = some cf) (hi : mvSH n = (0, cf, 0)) (kk : Rch j (pc + 3) L (mvR n :: S) (mvNew (n, g, h)) Q) : Rch j pc L S (n, g, h) Q := rc_step M hd (show (match mvKl.lookup (own, ix) with | some cf => if mvSH n = (0, cf, 0) then some (pc + 3, L, mvR n :: S, mvNew (n, g, h)) else none | none => none) = _ by rw [hl]; show (if mvSH n = (0, cf, 0) then _ else none) = _; rw [if_pos hi]) kk
theorem rc_obj {ix a z : Nat} (M : mvMq j own kd rk mL na rt) (hd : mvDec j pc = some (.invokespecial ix, 3)) (hl : mvMl.lookup (own, ix) = some (5, z)) (hr : 1 ≤ rk ∧ mvCats S ≤ 8) (kk : Rch j (pc + 3) L S (n, g, h) Q) : Rch j pc L (mvR a :: S) (n, g, h) Q := rc_step M hd (show (match mvMl.lookup (own, ix) with | some (5, _) => if 1 ≤ rk ∧ mvCats S ≤ 8 then some (pc + 3, L, S, (n, g, h)) else none | _ => none) = _ by rw [hl]; show (if 1 ≤ rk ∧ mvCats S ≤ 8 then _ else none) = _; rw [if_pos hr]) kk
theorem rc_max {ix z : Nat} {x y : Int} (M : mvMq j own kd rk mL na rt) (hd : mvDec j pc = some (.invokestatic ix, 3)) (hl : mvMl.lookup (own, ix) = some (7, z)) (hr : 1 ≤ rk ∧ mvCats S ≤ 8) (kk : Rch j (pc + 3) L (mvI (if x < y then y else x) :: S) (n, g, h) Q) : Rch j pc L (mvI y :: mvI x :: S) (n, g, h) Q := rc_step M hd (show (match mvMl.lookup (own, ix) with | some (7, _) => if 1 ≤ rk ∧ mvCats S ≤ 8 then some (pc + 3, L, mvI (if x < y then y else x) :: S, (n, g, h)) else none | some (8, _) => if 1 ≤ rk ∧ mvCats S ≤ 8 then some (pc + 3, L, mvI (if y < x then y else x) :: S, (n, g, h)) else none | _ => none) = _ by rw [hl]; show (if 1 ≤ rk ∧ mvCats S ≤ 8 then _ else none) = _; rw [if_pos hr]) kk
theorem rc_min {ix z : Nat} {x y : Int} (M : mvMq j own kd rk mL na rt) (hd : mvDec j pc = some (.invokestatic ix, 3)) (hl : mvMl.lookup (own, ix) = some (8, z)) (hr : 1 ≤ rk ∧ mvCats S ≤ 8) (kk : Rch j (pc + 3) L (mvI (if y < x then y else x) :: S) (n, g, h) Q) : Rch j pc L (mvI y :: mvI x :: S) (n, g, h) Q := rc_step M hd (show (match mvMl.lookup (own, ix) with | some (7, _) => if 1 ≤ rk ∧ mvCats S ≤ 8 then some (pc + 3, L, mvI (if x < y then y else x) :: S, (n, g, h)) else none | some (8, _) => if 1 ≤ rk ∧ mvCats S ≤ 8 then some (pc + 3, L, mvI (if y < x then y else x) :: S, (n, g, h)) else none | _ => none) = _ by rw [hl]; show (if 1 ≤ rk ∧ mvCats S ≤ 8 then _ else none) = _; rw [if_pos hr]) kk
theorem mvCallN_of {rk k j' own' kd' rk' mL' na' : Nat} {rt' : Option FieldType} {S as S' : List mvV} (M' : mvMq j' own' kd' rk' mL' na' rt') (hr : rk' < rk) (hS : S = as.reverse ++ S') (hn : as.length = k + na') (hc : mvCats S' ≤ 8) (hf : (mvFlat as).length ≤ mL') (hk : if k = 1 then ¬ kd' = 1 else kd' = 1) : mvCallN rk k j' S = some (j', as, S') := by
  obtain ⟨q, hq, rfl, rfl, rfl, rfl, rfl, rfl⟩ := M'
  unfold mvCallN
  rw [hq]
  have e1 : S.take (k + mvNa q) = as.reverse := by rw [hS, ← hn, ← List.length_reverse, List.take_left]
  have e2 : S.drop (k + mvNa q) = S' := by rw [hS, ← hn, ← List.length_reverse, List.drop_left]
  have e3 : k + mvNa q ≤ S.length := by rw [hS, List.length_append, List.length_reverse]; omega
  have key : mvRk q < rk ∧ k + mvNa q ≤ S.length ∧ mvCats (S.drop (k + mvNa q)) ≤ 8 ∧ (mvFlat (S.take (k + mvNa q)).reverse).length ≤ q.2.2.1 ∧ (if k = 1 then ¬ mvKd q = 1 else mvKd q = 1) := by
    rw [e1, e2, List.reverse_reverse]
    exact ⟨hr, e3, hc, hf, hk⟩
  show (if _ then _ else none) = _
  rw [if_pos key, e1, e2, List.reverse_reverse]
theorem rc_callV {ix j' own' kd' rk' mL' na' : Nat} {rt' : Option FieldType} {a : Nat} {as' : List mvV} (as S' : List mvV) (E : mvL) (M : mvMq j own kd rk mL na rt) (hd : mvDec j pc = some (.invokevirtual ix, 3)) (hl : mvMl.lookup (own, ix) = some (0, j')) (M' : mvMq j' own' kd' rk' mL' na' rt') (hr : rk' < rk) (hS : S = as.reverse ++ S') (hn : as.length = 1 + na') (hc : mvCats S' ≤ 8) (hf : (mvFlat as).length ≤ mL') (hk : ¬ kd' = 1) (has : as = mvR a :: as') (hi : mvIs n a = (0, own', 0)) (hE : mvEntry mL' as = E)
    (kk : Rch j' 0 E [] (n, g, h) (fun r σ' => Rch j (pc + 3) L (r.toList ++ S') σ' Q)) : Rch j pc L S (n, g, h) Q := by
  have hk : if 1 = 1 then ¬ kd' = 1 else kd' = 1 := by rw [if_pos rfl]; exact hk
  have hcall : mvCall own rk (.invokevirtual ix) 3 S (n, g, h) = some (j', as, S') := by
    show (match mvMl.lookup (own, ix) with | some (0, j) => (match mvCallN rk 1 j S with | some (j, as, S') => if mvRecvB (n, g, h) j as = true then some (j, as, S') else none | none => none) | _ => none) = _
    rw [hl]
    show (match mvCallN rk 1 j' S with | some (j, as, S') => if mvRecvB (n, g, h) j as = true then some (j, as, S') else none | none => none) = _
    rw [mvCallN_of M' hr hS hn hc hf hk]
    have hrec : mvRecvB (n, g, h) j' as = true := by
      obtain ⟨q, hq, ho, -⟩ := M'
      rw [has]
      show decide (mvIs n a = (0, ((mvMd[j']?).map mvOwn).getD 99, 0)) = true
      exact decide_eq_true (by
        rw [hq, hi]
        show (0, own', 0) = (0, mvOwn q, 0)
        rw [ho])
    show (if mvRecvB (n, g, h) j' as = true then _ else none) = _
    rw [if_pos hrec]
  have hnone : mvStep own (kd == 2) rk pc (.invokevirtual ix) 3 L S (n, g, h) = none := rfl
  obtain ⟨q, hq, -, -, -, e2, -⟩ := M'
  subst hE
  rw [← e2] at kk
  exact rc_callG M hd hnone hcall hq kk
theorem rc_callI {ix j' own' kd' rk' mL' na' : Nat} {rt' : Option FieldType} {a : Nat} {as' : List mvV} (as S' : List mvV) (E : mvL) (M : mvMq j own kd rk mL na rt) (hd : mvDec j pc = some (.invokespecial ix, 3)) (hl : mvMl.lookup (own, ix) = some (2, j')) (M' : mvMq j' own' kd' rk' mL' na' rt') (hr : rk' < rk) (hS : S = as.reverse ++ S') (hn : as.length = 1 + na') (hc : mvCats S' ≤ 8) (hf : (mvFlat as).length ≤ mL') (hk : ¬ kd' = 1) (has : as = mvR a :: as') (hi : mvIs n a = (0, own', 0)) (hE : mvEntry mL' as = E)
    (kk : Rch j' 0 E [] (n, g, h) (fun r σ' => Rch j (pc + 3) L (r.toList ++ S') σ' Q)) : Rch j pc L S (n, g, h) Q := by
  have hk : if 1 = 1 then ¬ kd' = 1 else kd' = 1 := by rw [if_pos rfl]; exact hk
  have hcall : mvCall own rk (.invokespecial ix) 3 S (n, g, h) = some (j', as, S') := by
    show (match mvMl.lookup (own, ix) with | some (2, j) => (match mvCallN rk 1 j S with | some (j, as, S') => if mvRecvB (n, g, h) j as = true then some (j, as, S') else none | none => none) | some (6, j) => (match mvCallN rk 1 j S with | some (j, as, S') => if mvRecvB (n, g, h) j as = true then some (j, as, S') else none | none => none) | _ => none) = _
    rw [hl]
    show (match mvCallN rk 1 j' S with | some (j, as, S') => if mvRecvB (n, g, h) j as = true then some (j, as, S') else none | none => none) = _
    rw [mvCallN_of M' hr hS hn hc hf hk]
    have hrec : mvRecvB (n, g, h) j' as = true := by
      obtain ⟨q, hq, ho, -⟩ := M'
      rw [has]
      show decide (mvIs n a = (0, ((mvMd[j']?).map mvOwn).getD 99, 0)) = true
      exact decide_eq_true (by
        rw [hq, hi]
        show (0, own', 0) = (0, mvOwn q, 0)
        rw [ho])
    show (if mvRecvB (n, g, h) j' as = true then _ else none) = _
    rw [if_pos hrec]
  have hnone : mvStep own (kd == 2) rk pc (.invokespecial ix) 3 L S (n, g, h) = none := by
    cases S with
    | nil => rfl
    | cons v S2 =>
      rcases v with x | x | x
      · rfl
      · rfl
      · show (match mvMl.lookup (own, ix) with | some (5, _) => if 1 ≤ rk ∧ mvCats S2 ≤ 8 then some (pc + 3, L, S2, (n, g, h)) else none | _ => none) = none
        first | (rw [hl]; done) | (rw [hl]; rfl)
  obtain ⟨q, hq, -, -, -, e2, -⟩ := M'
  subst hE
  rw [← e2] at kk
  exact rc_callG M hd hnone hcall hq kk
theorem rc_callIN {ix j' own' kd' rk' mL' na' : Nat} {rt' : Option FieldType} {a : Nat} {as' : List mvV} (as S' : List mvV) (E : mvL) (M : mvMq j own kd rk mL na rt) (hd : mvDec j pc = some (.invokespecial ix, 3)) (hl : mvMl.lookup (own, ix) = some (6, j')) (M' : mvMq j' own' kd' rk' mL' na' rt') (hr : rk' < rk) (hS : S = as.reverse ++ S') (hn : as.length = 1 + na') (hc : mvCats S' ≤ 8) (hf : (mvFlat as).length ≤ mL') (hk : ¬ kd' = 1) (has : as = mvR a :: as') (hi : mvIs n a = (0, own', 0)) (hE : mvEntry mL' as = E)
    (kk : Rch j' 0 E [] (n, g, h) (fun r σ' => Rch j (pc + 3) L (r.toList ++ S') σ' Q)) : Rch j pc L S (n, g, h) Q := by
  have hk : if 1 = 1 then ¬ kd' = 1 else kd' = 1 := by rw [if_pos rfl]; exact hk
  have hcall : mvCall own rk (.invokespecial ix) 3 S (n, g, h) = some (j', as, S') := by
    show (match mvMl.lookup (own, ix) with | some (2, j) => (match mvCallN rk 1 j S with | some (j, as, S') => if mvRecvB (n, g, h) j as = true then some (j, as, S') else none | none => none) | some (6, j) => (match mvCallN rk 1 j S with | some (j, as, S') => if mvRecvB (n, g, h) j as = true then some (j, as, S') else none | none => none) | _ => none) = _
    rw [hl]
    show (match mvCallN rk 1 j' S with | some (j, as, S') => if mvRecvB (n, g, h) j as = true then some (j, as, S') else none | none => none) = _
    rw [mvCallN_of M' hr hS hn hc hf hk]
    have hrec : mvRecvB (n, g, h) j' as = true := by
      obtain ⟨q, hq, ho, -⟩ := M'
      rw [has]
      show decide (mvIs n a = (0, ((mvMd[j']?).map mvOwn).getD 99, 0)) = true
      exact decide_eq_true (by
        rw [hq, hi]
        show (0, own', 0) = (0, mvOwn q, 0)
        rw [ho])
    show (if mvRecvB (n, g, h) j' as = true then _ else none) = _
    rw [if_pos hrec]
  have hnone : mvStep own (kd == 2) rk pc (.invokespecial ix) 3 L S (n, g, h) = none := by
    cases S with
    | nil => rfl
    | cons v S2 =>
      rcases v with x | x | x
      · rfl
      · rfl
      · show (match mvMl.lookup (own, ix) with | some (5, _) => if 1 ≤ rk ∧ mvCats S2 ≤ 8 then some (pc + 3, L, S2, (n, g, h)) else none | _ => none) = none
        first | (rw [hl]; done) | (rw [hl]; rfl)
  obtain ⟨q, hq, -, -, -, e2, -⟩ := M'
  subst hE
  rw [← e2] at kk
  exact rc_callG M hd hnone hcall hq kk
theorem rc_callS {ix j' own' kd' rk' mL' na' : Nat} {rt' : Option FieldType} (as S' : List mvV) (E : mvL) (M : mvMq j own kd rk mL na rt) (hd : mvDec j pc = some (.invokestatic ix, 3)) (hl : mvMl.lookup (own, ix) = some (1, j')) (M' : mvMq j' own' kd' rk' mL' na' rt') (hr : rk' < rk) (hS : S = as.reverse ++ S') (hn : as.length = 0 + na') (hc : mvCats S' ≤ 8) (hf : (mvFlat as).length ≤ mL') (hk : kd' = 1) (hE : mvEntry mL' as = E)
    (kk : Rch j' 0 E [] (n, g, h) (fun r σ' => Rch j (pc + 3) L (r.toList ++ S') σ' Q)) : Rch j pc L S (n, g, h) Q := by
  have hk : if 0 = 1 then ¬ kd' = 1 else kd' = 1 := by rw [if_neg (by decide)]; exact hk
  have hcall : mvCall own rk (.invokestatic ix) 3 S (n, g, h) = some (j', as, S') := by
    show (match mvMl.lookup (own, ix) with | some (1, j) => mvCallN rk 0 j S | some (4, j) => mvCallN rk 0 j S | _ => none) = _
    rw [hl]
    exact mvCallN_of M' hr hS hn hc hf hk
  have hnone : mvStep own (kd == 2) rk pc (.invokestatic ix) 3 L S (n, g, h) = none := by
    have key : ∀ (x y : Int) (S2 : List mvV), (match mvMl.lookup (own, ix) with | some (7, _) => if 1 ≤ rk ∧ mvCats S2 ≤ 8 then some (pc + 3, L, mvI (if x < y then y else x) :: S2, (n, g, h)) else none | some (8, _) => if 1 ≤ rk ∧ mvCats S2 ≤ 8 then some (pc + 3, L, mvI (if y < x then y else x) :: S2, (n, g, h)) else none | _ => none) = none := by
      intro x y S2
      first | (rw [hl]; done) | (rw [hl]; rfl)
    rcases S with _ | ⟨v, S2⟩
    · rfl
    · rcases v with x | x | x
      · rcases S2 with _ | ⟨u, S3⟩
        · rfl
        · rcases u with z | z | z
          · exact key z x S3
          · rfl
          · rfl
      · rfl
      · rfl
  obtain ⟨q, hq, -, -, -, e2, -⟩ := M'
  subst hE
  rw [← e2] at kk
  exact rc_callG M hd hnone hcall hq kk
theorem rc_callSN {ix j' own' kd' rk' mL' na' : Nat} {rt' : Option FieldType} (as S' : List mvV) (E : mvL) (M : mvMq j own kd rk mL na rt) (hd : mvDec j pc = some (.invokestatic ix, 3)) (hl : mvMl.lookup (own, ix) = some (4, j')) (M' : mvMq j' own' kd' rk' mL' na' rt') (hr : rk' < rk) (hS : S = as.reverse ++ S') (hn : as.length = 0 + na') (hc : mvCats S' ≤ 8) (hf : (mvFlat as).length ≤ mL') (hk : kd' = 1) (hE : mvEntry mL' as = E)
    (kk : Rch j' 0 E [] (n, g, h) (fun r σ' => Rch j (pc + 3) L (r.toList ++ S') σ' Q)) : Rch j pc L S (n, g, h) Q := by
  have hk : if 0 = 1 then ¬ kd' = 1 else kd' = 1 := by rw [if_neg (by decide)]; exact hk
  have hcall : mvCall own rk (.invokestatic ix) 3 S (n, g, h) = some (j', as, S') := by
    show (match mvMl.lookup (own, ix) with | some (1, j) => mvCallN rk 0 j S | some (4, j) => mvCallN rk 0 j S | _ => none) = _
    rw [hl]
    exact mvCallN_of M' hr hS hn hc hf hk
  have hnone : mvStep own (kd == 2) rk pc (.invokestatic ix) 3 L S (n, g, h) = none := by
    have key : ∀ (x y : Int) (S2 : List mvV), (match mvMl.lookup (own, ix) with | some (7, _) => if 1 ≤ rk ∧ mvCats S2 ≤ 8 then some (pc + 3, L, mvI (if x < y then y else x) :: S2, (n, g, h)) else none | some (8, _) => if 1 ≤ rk ∧ mvCats S2 ≤ 8 then some (pc + 3, L, mvI (if y < x then y else x) :: S2, (n, g, h)) else none | _ => none) = none := by
      intro x y S2
      first | (rw [hl]; done) | (rw [hl]; rfl)
    rcases S with _ | ⟨v, S2⟩
    · rfl
    · rcases v with x | x | x
      · rcases S2 with _ | ⟨u, S3⟩
        · rfl
        · rcases u with z | z | z
          · exact key z x S3
          · rfl
          · rfl
      · rfl
      · rfl
  obtain ⟨q, hq, -, -, -, e2, -⟩ := M'
  subst hE
  rw [← e2] at kk
  exact rc_callG M hd hnone hcall hq kk
theorem rc_iret {x : Int} (M : mvMq j own kd rk mL na (some .int)) (hd : mvDec j pc = some (.ireturn, 1)) (kk : Q (some (mvI x)) (n, g, h)) : Rch j pc L [mvI x] (n, g, h) Q := rc_retG M hd rfl rfl (show (if (some FieldType.int) = some .int ∨ (some FieldType.int) = some .boolean ∧ (x = 0 ∨ x = 1) then some (some (mvI x)) else none) = _ by rw [if_pos (Or.inl rfl)]) kk
theorem rc_zret {x : Int} (M : mvMq j own kd rk mL na (some .boolean)) (hd : mvDec j pc = some (.ireturn, 1)) (hx : x = 0 ∨ x = 1) (kk : Q (some (mvI x)) (n, g, h)) : Rch j pc L [mvI x] (n, g, h) Q := rc_retG M hd rfl rfl (show (if (some FieldType.boolean) = some .int ∨ (some FieldType.boolean) = some .boolean ∧ (x = 0 ∨ x = 1) then some (some (mvI x)) else none) = _ by rw [if_pos (Or.inr ⟨rfl, hx⟩)]) kk
theorem rc_lret {x : Int} (M : mvMq j own kd rk mL na (some .long)) (hd : mvDec j pc = some (.lreturn, 1)) (kk : Q (some (mvJ x)) (n, g, h)) : Rch j pc L [mvJ x] (n, g, h) Q := rc_retG M hd rfl rfl rfl kk
theorem rc_vret (M : mvMq j own kd rk mL na none) (hd : mvDec j pc = some (.return_, 1)) (kk : Q none (n, g, h)) : Rch j pc L [] (n, g, h) Q := rc_retG M hd rfl rfl rfl kk
theorem rc_top {x : Int} (kk : ∀ v, v = x → Rch j pc L (mvI v :: S) (n, g, h) Q) : Rch j pc L (mvI x :: S) (n, g, h) Q := kk x rfl
theorem rc_topJ {x : Int} (kk : ∀ v, v = x → Rch j pc L (mvJ v :: S) (n, g, h) Q) : Rch j pc L (mvJ x :: S) (n, g, h) Q := kk x rfl
theorem rc_heap (kk : ∀ h1, h1 = h → Rch j pc L S (n, g, h1) Q) : Rch j pc L S (n, g, h) Q := kk h rfl
end RCS
/-- ends: an int, a long, nothing; what else there is stays as it is, but for the numbers -/
abbrev RI (j pc : Nat) (L : mvL) (S : List mvV) (g : Nat → Nat → Nat) (h : Nat → Int → Int) (K : Int → (Nat → Int → Int) → Prop) : Prop := Rch j pc L S (97, g, h) (fun r σ' => ∃ (x : Int) (h' : Nat → Int → Int), r = some (mvI x) ∧ σ' = (97, g, h') ∧ K x h')
abbrev RJ (j pc : Nat) (L : mvL) (S : List mvV) (g : Nat → Nat → Nat) (h : Nat → Int → Int) (K : Int → (Nat → Int → Int) → Prop) : Prop := Rch j pc L S (97, g, h) (fun r σ' => ∃ (x : Int) (h' : Nat → Int → Int), r = some (mvJ x) ∧ σ' = (97, g, h') ∧ K x h')
abbrev RV (j pc : Nat) (L : mvL) (S : List mvV) (g : Nat → Nat → Nat) (h : Nat → Int → Int) (K : (Nat → Int → Int) → Prop) : Prop := Rch j pc L S (97, g, h) (fun r σ' => ∃ (h' : Nat → Int → Int), r = none ∧ σ' = (97, g, h') ∧ K h')
theorem ri_bind {j pc j' pc' : Nat} {L L' : mvL} {S S' : List mvV} {g : Nat → Nat → Nat} {h : Nat → Int → Int} {K : Int → (Nat → Int → Int) → Prop} {Q : Option mvV → mvS → Prop} (H : RI j pc L S g h K) (k : ∀ x h', K x h' → Rch j' pc' L' (mvI x :: S') (97, g, h') Q) : Rch j pc L S (97, g, h) (fun r σ' => Rch j' pc' L' (r.toList ++ S') σ' Q) := rc_mono H (by
  rintro r σ' ⟨x, h', rfl, rfl, hk⟩
  exact k x h' hk)
theorem rj_bind {j pc j' pc' : Nat} {L L' : mvL} {S S' : List mvV} {g : Nat → Nat → Nat} {h : Nat → Int → Int} {K : Int → (Nat → Int → Int) → Prop} {Q : Option mvV → mvS → Prop} (H : RJ j pc L S g h K) (k : ∀ x h', K x h' → Rch j' pc' L' (mvJ x :: S') (97, g, h') Q) : Rch j pc L S (97, g, h) (fun r σ' => Rch j' pc' L' (r.toList ++ S') σ' Q) := rc_mono H (by
  rintro r σ' ⟨x, h', rfl, rfl, hk⟩
  exact k x h' hk)
theorem rv_bind {j pc j' pc' : Nat} {L L' : mvL} {S S' : List mvV} {g : Nat → Nat → Nat} {h : Nat → Int → Int} {K : (Nat → Int → Int) → Prop} {Q : Option mvV → mvS → Prop} (H : RV j pc L S g h K) (k : ∀ h', K h' → Rch j' pc' L' S' (97, g, h') Q) : Rch j pc L S (97, g, h) (fun r σ' => Rch j' pc' L' (r.toList ++ S') σ' Q) := rc_mono H (by
  rintro r σ' ⟨h', rfl, rfl, hk⟩
  exact k h' hk)
