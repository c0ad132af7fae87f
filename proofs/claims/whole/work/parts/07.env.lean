/-! the tables behind the mini machine's lists -/
/-- the words of the tables that are kept -/
def mvTb : List Jvm.Cond := lw_tbl.filter goodWord
theorem mvTb_of {w : Jvm.Cond} (h : w ∈ lw_tbl) (hg : goodWord w = true) : w ∈ mvTb := List.mem_filter.mpr ⟨h, hg⟩
theorem mvTb_in {w : Jvm.Cond} (h : w ∈ mvTb) : w ∈ lw_tbl := (List.mem_filter.mp h).1
theorem mt_fl : ∀ w ∈ mvFl.map (fun z => Jvm.Cond.fieldLink (mvCn z.1.1) z.1.2 (mvCn z.2.1) (mvFd z.2.1 z.2.2).2.1 (mvFd z.2.1 z.2.2).2.2.1), w ∈ mvTb := fun w hw => mvTb_of (mv_fl w hw) (by obtain ⟨z, -, rfl⟩ := List.mem_map.mp hw; rfl)
theorem mt_kl : ∀ w ∈ mvKl.map (fun z => Jvm.Cond.classLink (mvCn z.1.1) z.1.2 (mvCn z.2)), w ∈ mvTb := fun w hw => mvTb_of (mv_kl w hw) (by obtain ⟨z, -, rfl⟩ := List.mem_map.mp hw; rfl)
theorem mt_jl : ∀ w ∈ mvJl.map (fun z => Jvm.Cond.constantLong (mvCn z.1.1) z.1.2 (Int64.ofInt z.2)), w ∈ mvTb := fun w hw => mvTb_of (mv_jl w hw) (by obtain ⟨z, -, rfl⟩ := List.mem_map.mp hw; rfl)
theorem mt_il : ∀ w ∈ mvIl.map (fun z => Jvm.Cond.constant (mvCn z.1.1) z.1.2 (Int32.ofInt z.2)), w ∈ mvTb := fun w hw => mvTb_of (mv_il w hw) (by obtain ⟨z, -, rfl⟩ := List.mem_map.mp hw; rfl)
theorem mt_ml : ∀ w ∈ (mvMl.filter (fun z => decide (z.2.1 < 3))).map (fun z => Jvm.Cond.methodLink (mvCn z.1.1) z.1.2 (mvY z.2.2)), w ∈ mvTb := fun w hw => mvTb_of (mv_ml w hw) (by obtain ⟨z, -, rfl⟩ := List.mem_map.mp hw; rfl)
theorem mt_mo : ∀ w ∈ (mvMl.filter (fun z => decide (z.2.1 = 5))).map (fun z => Jvm.Cond.methodLink (mvCn z.1.1) z.1.2 Lib.objectInit), w ∈ mvTb := fun w hw => mvTb_of (mv_mo w hw) (by obtain ⟨z, -, rfl⟩ := List.mem_map.mp hw; rfl)
theorem mt_mx : ∀ w ∈ (mvMl.filter (fun z => decide (z.2.1 = 7))).map (fun z => Jvm.Cond.methodLink (mvCn z.1.1) z.1.2 Lib.Math.max.name), w ∈ mvTb := fun w hw => mvTb_of (mv_mx w hw) (by obtain ⟨z, -, rfl⟩ := List.mem_map.mp hw; rfl)
theorem mt_mi : ∀ w ∈ (mvMl.filter (fun z => decide (z.2.1 = 8))).map (fun z => Jvm.Cond.methodLink (mvCn z.1.1) z.1.2 Lib.Math.min.name), w ∈ mvTb := fun w hw => mvTb_of (mv_mi w hw) (by obtain ⟨z, -, rfl⟩ := List.mem_map.mp hw; rfl)
theorem mt_in : ∀ w ∈ (mvMt0.filter (fun q => decide (q.2.2.2.2.2.2.1 ≠ 1))).map (fun q => Jvm.Cond.instanceMethod q.1), w ∈ mvTb := fun w hw => mvTb_of (mv_in w hw) (by obtain ⟨z, -, rfl⟩ := List.mem_map.mp hw; rfl)
theorem mt_st : ∀ w ∈ (mvMt0.filter (fun q => decide (q.2.2.2.2.2.2.1 = 1))).map (fun q => Jvm.Cond.static q.1), w ∈ mvTb := fun w hw => mvTb_of (mv_st w hw) (by obtain ⟨z, -, rfl⟩ := List.mem_map.mp hw; rfl)
theorem mt_se : ∀ w ∈ (mvMt0.filter (fun q => decide (q.2.2.2.2.2.2.1 = 0))).map (fun q => Jvm.Cond.selects q.1.cls q.1 q.1), w ∈ mvTb := fun w hw => mvTb_of (mv_se w hw) (by obtain ⟨z, -, rfl⟩ := List.mem_map.mp hw; rfl)
theorem mt_ini : ∀ w ∈ (mvMt0).map (fun q => Jvm.Cond.initialized q.1.cls), w ∈ mvTb := fun w hw => mvTb_of (mv_ini w hw) (by obtain ⟨z, -, rfl⟩ := List.mem_map.mp hw; rfl)
theorem mt_inst : ∀ w ∈ mvTab.map (fun q => Jvm.Cond.instantiable q.1 q.2.2), w ∈ mvTb := fun w hw => mvTb_of (mv_inst w hw) (by obtain ⟨z, -, rfl⟩ := List.mem_map.mp hw; rfl)
theorem mt_ini2 : ∀ w ∈ mvTab.map (fun q => Jvm.Cond.initialized q.1), w ∈ mvTb := fun w hw => mvTb_of (mv_ini2 w hw) (by obtain ⟨z, -, rfl⟩ := List.mem_map.mp hw; rfl)
theorem mt_objI : Jvm.Cond.instanceMethod Lib.objectInit ∈ mvTb := mvTb_of mv_objI rfl
theorem mt_objC : Jvm.Cond.code Lib.objectInit ⟨#[0xb1]⟩ 1 none ∈ mvTb := mvTb_of mv_objC rfl
theorem mt_arrI : Jvm.Cond.arrayClass FieldType.int ∈ mvTb := mvTb_of mv_arrI rfl
theorem mt_arrB : Jvm.Cond.arrayClass FieldType.boolean ∈ mvTb := mvTb_of mv_arrB rfl
theorem mt_mxS : Jvm.Cond.static Lib.Math.max.name ∈ mvTb := mvTb_of mv_mxS rfl
theorem mt_miS : Jvm.Cond.static Lib.Math.min.name ∈ mvTb := mvTb_of mv_miS rfl
theorem mt_mI : Jvm.Cond.initialized "java/lang/Math" ∈ mvTb := mvTb_of mv_mI rfl
theorem mt_mxC : Jvm.Cond.code Lib.Math.max.name Lib.Math.max.code 2 (some .int) ∈ mvTb := mvTb_of mv_mxC rfl
theorem mt_miC : Jvm.Cond.code Lib.Math.min.name Lib.Math.min.code 2 (some .int) ∈ mvTb := mvTb_of mv_miC rfl
theorem mt_u {C : String} {T : u_T} {N : Nat} (h : ∀ w ∈ u_ws C T N, w ∈ lw_tbl) : ∀ w ∈ u_ws C T N, w ∈ mvTb := fun w hw => mvTb_of (h w hw) (by
  obtain ⟨k, -, rfl⟩ := List.mem_map.mp hw
  unfold u_lay
  split <;> rfl)
def mvFact (cf : Nat) (q : vw_C) : Prop := q.1 = mvCn cf ∧ (∀ w ∈ u_ws q.1 q.2.1 q.2.2, w ∈ mvTb) ∧ (∀ k, k < q.2.2 → (q.2.1 k).1 = q.1) ∧ (∀ x, x < q.2.2 → ∀ y, y < q.2.2 → x ≠ y → (q.2.1 x).2.1 ≠ (q.2.1 y).2.1) ∧
  ∃ ty : Nat → FieldType, (∀ k, k < q.2.2 → parseFieldDescriptor (q.2.1 k).2.2.1 = some (ty k)) ∧ (∀ k, k < q.2.2 → (q.2.1 k).2.2.2 = mvFf cf k) ∧ ∀ k, k < q.2.2 → (mvFt cf k = 0 ∧ ty k = .int) ∨ (mvFt cf k = 1 ∧ ty k = .long) ∨ (mvFt cf k = 3 ∧ ty k = .boolean) ∨ (mvFt cf k = 2 ∧ ((∃ t, ty k = .array t) ∨ ∃ n, ty k = .object n))
theorem mv_fact0 : mvFact 0 ("RunCuts", mvT0, 12) := by
  refine ⟨rfl, mt_u mv_u0, by decide +kernel, mvN0, mvTy0, mvTyOk0, by decide +kernel, ?_⟩
  intro k hk
  match k, hk with
  | 0, _ => exact Or.inr (Or.inr (Or.inr ⟨rfl, Or.inr ⟨_, rfl⟩⟩))
  | 1, _ => exact Or.inr (Or.inr (Or.inr ⟨rfl, Or.inr ⟨_, rfl⟩⟩))
  | 2, _ => exact Or.inr (Or.inr (Or.inr ⟨rfl, Or.inr ⟨_, rfl⟩⟩))
  | 3, _ => exact Or.inr (Or.inr (Or.inr ⟨rfl, Or.inr ⟨_, rfl⟩⟩))
  | 4, _ => exact Or.inr (Or.inr (Or.inr ⟨rfl, Or.inr ⟨_, rfl⟩⟩))
  | 5, _ => exact Or.inr (Or.inr (Or.inr ⟨rfl, Or.inr ⟨_, rfl⟩⟩))
  | 6, _ => exact Or.inr (Or.inr (Or.inr ⟨rfl, Or.inr ⟨_, rfl⟩⟩))
  | 7, _ => exact Or.inr (Or.inr (Or.inr ⟨rfl, Or.inr ⟨_, rfl⟩⟩))
  | 8, _ => exact Or.inr (Or.inr (Or.inr ⟨rfl, Or.inr ⟨_, rfl⟩⟩))
  | 9, _ => exact Or.inr (Or.inr (Or.inr ⟨rfl, Or.inr ⟨_, rfl⟩⟩))
  | 10, _ => exact Or.inl ⟨rfl, rfl⟩
  | 11, _ => exact Or.inl ⟨rfl, rfl⟩
  | k + 12, hk => exact absurd hk (by simp)
theorem mv_fact1 : mvFact 1 ("RunCuts$Page", mvT1, 2) := by
  refine ⟨rfl, mt_u mv_u1, by decide +kernel, mvN1, mvTy1, mvTyOk1, by decide +kernel, ?_⟩
  intro k hk
  match k, hk with
  | 0, _ => exact Or.inr (Or.inr (Or.inr ⟨rfl, Or.inl ⟨_, rfl⟩⟩))
  | 1, _ => exact Or.inl ⟨rfl, rfl⟩
  | k + 2, hk => exact absurd hk (by simp)
theorem mv_fact2 : mvFact 2 ("RunCuts$Events", mvT2, 10) := by
  refine ⟨rfl, mt_u mv_u2, by decide +kernel, mvN2, mvTy2, mvTyOk2, by decide +kernel, ?_⟩
  intro k hk
  match k, hk with
  | 0, _ => exact Or.inl ⟨rfl, rfl⟩
  | 1, _ => exact Or.inl ⟨rfl, rfl⟩
  | 2, _ => exact Or.inr (Or.inr (Or.inr ⟨rfl, Or.inl ⟨_, rfl⟩⟩))
  | 3, _ => exact Or.inr (Or.inr (Or.inr ⟨rfl, Or.inl ⟨_, rfl⟩⟩))
  | 4, _ => exact Or.inr (Or.inr (Or.inr ⟨rfl, Or.inl ⟨_, rfl⟩⟩))
  | 5, _ => exact Or.inr (Or.inr (Or.inr ⟨rfl, Or.inl ⟨_, rfl⟩⟩))
  | 6, _ => exact Or.inr (Or.inr (Or.inr ⟨rfl, Or.inl ⟨_, rfl⟩⟩))
  | 7, _ => exact Or.inr (Or.inr (Or.inr ⟨rfl, Or.inl ⟨_, rfl⟩⟩))
  | 8, _ => exact Or.inr (Or.inr (Or.inr ⟨rfl, Or.inl ⟨_, rfl⟩⟩))
  | 9, _ => exact Or.inr (Or.inr (Or.inr ⟨rfl, Or.inl ⟨_, rfl⟩⟩))
  | k + 10, hk => exact absurd hk (by simp)
theorem mv_fact3 : mvFact 3 ("RunCuts$Lattice", mvT3, 10) := by
  refine ⟨rfl, mt_u mv_u3, by decide +kernel, mvN3, mvTy3, mvTyOk3, by decide +kernel, ?_⟩
  intro k hk
  match k, hk with
  | 0, _ => exact Or.inr (Or.inr (Or.inl ⟨rfl, rfl⟩))
  | 1, _ => exact Or.inl ⟨rfl, rfl⟩
  | 2, _ => exact Or.inl ⟨rfl, rfl⟩
  | 3, _ => exact Or.inl ⟨rfl, rfl⟩
  | 4, _ => exact Or.inr (Or.inr (Or.inr ⟨rfl, Or.inl ⟨_, rfl⟩⟩))
  | 5, _ => exact Or.inr (Or.inr (Or.inr ⟨rfl, Or.inl ⟨_, rfl⟩⟩))
  | 6, _ => exact Or.inr (Or.inr (Or.inr ⟨rfl, Or.inl ⟨_, rfl⟩⟩))
  | 7, _ => exact Or.inr (Or.inr (Or.inr ⟨rfl, Or.inl ⟨_, rfl⟩⟩))
  | 8, _ => exact Or.inr (Or.inr (Or.inr ⟨rfl, Or.inl ⟨_, rfl⟩⟩))
  | 9, _ => exact Or.inr (Or.inr (Or.inr ⟨rfl, Or.inl ⟨_, rfl⟩⟩))
  | k + 10, hk => exact absurd hk (by simp)
theorem mv_fact4 : mvFact 4 ("RunCuts$Predicate", mvT4, 3) := by
  refine ⟨rfl, mt_u mv_u4, by decide +kernel, mvN4, mvTy4, mvTyOk4, by decide +kernel, ?_⟩
  intro k hk
  match k, hk with
  | 0, _ => exact Or.inl ⟨rfl, rfl⟩
  | 1, _ => exact Or.inl ⟨rfl, rfl⟩
  | 2, _ => exact Or.inr (Or.inr (Or.inr ⟨rfl, Or.inl ⟨_, rfl⟩⟩))
  | k + 3, hk => exact absurd hk (by simp)
theorem mv_fact5 : mvFact 5 ("RunCuts$Search", mvT5, 6) := by
  refine ⟨rfl, mt_u mv_u5, by decide +kernel, mvN5, mvTy5, mvTyOk5, by decide +kernel, ?_⟩
  intro k hk
  match k, hk with
  | 0, _ => exact Or.inr (Or.inr (Or.inl ⟨rfl, rfl⟩))
  | 1, _ => exact Or.inl ⟨rfl, rfl⟩
  | 2, _ => exact Or.inr (Or.inr (Or.inr ⟨rfl, Or.inl ⟨_, rfl⟩⟩))
  | 3, _ => exact Or.inl ⟨rfl, rfl⟩
  | 4, _ => exact Or.inl ⟨rfl, rfl⟩
  | 5, _ => exact Or.inr (Or.inr (Or.inr ⟨rfl, Or.inl ⟨_, rfl⟩⟩))
  | k + 6, hk => exact absurd hk (by simp)
theorem mv_fact6 : mvFact 6 ("RunCuts$Intervals", mvT6, 4) := by
  refine ⟨rfl, mt_u mv_u6, by decide +kernel, mvN6, mvTy6, mvTyOk6, by decide +kernel, ?_⟩
  intro k hk
  match k, hk with
  | 0, _ => exact Or.inr (Or.inr (Or.inr ⟨rfl, Or.inl ⟨_, rfl⟩⟩))
  | 1, _ => exact Or.inr (Or.inr (Or.inr ⟨rfl, Or.inl ⟨_, rfl⟩⟩))
  | 2, _ => exact Or.inr (Or.inr (Or.inr ⟨rfl, Or.inl ⟨_, rfl⟩⟩))
  | 3, _ => exact Or.inr (Or.inr (Or.inr ⟨rfl, Or.inl ⟨_, rfl⟩⟩))
  | k + 4, hk => exact absurd hk (by simp)
theorem mv_fact7 : mvFact 7 ("RunCuts$Lean", mvT7, 3) := by
  refine ⟨rfl, mt_u mv_u7, by decide +kernel, mvN7, mvTy7, mvTyOk7, by decide +kernel, ?_⟩
  intro k hk
  match k, hk with
  | 0, _ => exact Or.inr (Or.inr (Or.inr ⟨rfl, Or.inr ⟨_, rfl⟩⟩))
  | 1, _ => exact Or.inr (Or.inr (Or.inr ⟨rfl, Or.inr ⟨_, rfl⟩⟩))
  | 2, _ => exact Or.inr (Or.inr (Or.inr ⟨rfl, Or.inr ⟨_, rfl⟩⟩))
  | k + 3, hk => exact absurd hk (by simp)
theorem mv_fact8 : mvFact 8 ("RunCuts$Play", mvT8, 2) := by
  refine ⟨rfl, mt_u mv_u8, by decide +kernel, mvN8, mvTy8, mvTyOk8, by decide +kernel, ?_⟩
  intro k hk
  match k, hk with
  | 0, _ => exact Or.inl ⟨rfl, rfl⟩
  | 1, _ => exact Or.inr (Or.inr (Or.inr ⟨rfl, Or.inl ⟨_, rfl⟩⟩))
  | k + 2, hk => exact absurd hk (by simp)
theorem mv_fact9 : mvFact 9 ("RunCuts$Snapshot", mvT9, 9) := by
  refine ⟨rfl, mt_u mv_u9, by decide +kernel, mvN9, mvTy9, mvTyOk9, by decide +kernel, ?_⟩
  intro k hk
  match k, hk with
  | 0, _ => exact Or.inr (Or.inr (Or.inl ⟨rfl, rfl⟩))
  | 1, _ => exact Or.inl ⟨rfl, rfl⟩
  | 2, _ => exact Or.inl ⟨rfl, rfl⟩
  | 3, _ => exact Or.inl ⟨rfl, rfl⟩
  | 4, _ => exact Or.inl ⟨rfl, rfl⟩
  | 5, _ => exact Or.inr (Or.inr (Or.inr ⟨rfl, Or.inl ⟨_, rfl⟩⟩))
  | 6, _ => exact Or.inr (Or.inr (Or.inr ⟨rfl, Or.inl ⟨_, rfl⟩⟩))
  | 7, _ => exact Or.inr (Or.inr (Or.inr ⟨rfl, Or.inl ⟨_, rfl⟩⟩))
  | 8, _ => exact Or.inr (Or.inr (Or.inr ⟨rfl, Or.inl ⟨_, rfl⟩⟩))
  | k + 9, hk => exact absurd hk (by simp)
theorem mv_fact10 : mvFact 10 ("RunCutsModel", mvT10, 45) := by
  refine ⟨rfl, mt_u mv_u10, by decide +kernel, mvN10, mvTy10, mvTyOk10, by decide +kernel, ?_⟩
  intro k hk
  match k, hk with
  | 0, _ => exact Or.inl ⟨rfl, rfl⟩
  | 1, _ => exact Or.inr (Or.inr (Or.inr ⟨rfl, Or.inl ⟨_, rfl⟩⟩))
  | 2, _ => exact Or.inr (Or.inr (Or.inr ⟨rfl, Or.inl ⟨_, rfl⟩⟩))
  | 3, _ => exact Or.inr (Or.inr (Or.inr ⟨rfl, Or.inl ⟨_, rfl⟩⟩))
  | 4, _ => exact Or.inr (Or.inr (Or.inr ⟨rfl, Or.inl ⟨_, rfl⟩⟩))
  | 5, _ => exact Or.inr (Or.inr (Or.inr ⟨rfl, Or.inl ⟨_, rfl⟩⟩))
  | 6, _ => exact Or.inr (Or.inr (Or.inr ⟨rfl, Or.inl ⟨_, rfl⟩⟩))
  | 7, _ => exact Or.inl ⟨rfl, rfl⟩
  | 8, _ => exact Or.inl ⟨rfl, rfl⟩
  | 9, _ => exact Or.inl ⟨rfl, rfl⟩
  | 10, _ => exact Or.inr (Or.inr (Or.inl ⟨rfl, rfl⟩))
  | 11, _ => exact Or.inr (Or.inr (Or.inr ⟨rfl, Or.inl ⟨_, rfl⟩⟩))
  | 12, _ => exact Or.inr (Or.inr (Or.inl ⟨rfl, rfl⟩))
  | 13, _ => exact Or.inl ⟨rfl, rfl⟩
  | 14, _ => exact Or.inl ⟨rfl, rfl⟩
  | 15, _ => exact Or.inl ⟨rfl, rfl⟩
  | 16, _ => exact Or.inl ⟨rfl, rfl⟩
  | 17, _ => exact Or.inl ⟨rfl, rfl⟩
  | 18, _ => exact Or.inr (Or.inr (Or.inr ⟨rfl, Or.inl ⟨_, rfl⟩⟩))
  | 19, _ => exact Or.inl ⟨rfl, rfl⟩
  | 20, _ => exact Or.inl ⟨rfl, rfl⟩
  | 21, _ => exact Or.inl ⟨rfl, rfl⟩
  | 22, _ => exact Or.inr (Or.inr (Or.inr ⟨rfl, Or.inl ⟨_, rfl⟩⟩))
  | 23, _ => exact Or.inr (Or.inr (Or.inr ⟨rfl, Or.inl ⟨_, rfl⟩⟩))
  | 24, _ => exact Or.inr (Or.inr (Or.inr ⟨rfl, Or.inl ⟨_, rfl⟩⟩))
  | 25, _ => exact Or.inr (Or.inr (Or.inr ⟨rfl, Or.inl ⟨_, rfl⟩⟩))
  | 26, _ => exact Or.inr (Or.inr (Or.inr ⟨rfl, Or.inl ⟨_, rfl⟩⟩))
  | 27, _ => exact Or.inr (Or.inr (Or.inr ⟨rfl, Or.inl ⟨_, rfl⟩⟩))
  | 28, _ => exact Or.inr (Or.inr (Or.inr ⟨rfl, Or.inl ⟨_, rfl⟩⟩))
  | 29, _ => exact Or.inr (Or.inr (Or.inr ⟨rfl, Or.inl ⟨_, rfl⟩⟩))
  | 30, _ => exact Or.inr (Or.inr (Or.inr ⟨rfl, Or.inl ⟨_, rfl⟩⟩))
  | 31, _ => exact Or.inr (Or.inr (Or.inr ⟨rfl, Or.inl ⟨_, rfl⟩⟩))
  | 32, _ => exact Or.inr (Or.inr (Or.inr ⟨rfl, Or.inl ⟨_, rfl⟩⟩))
  | 33, _ => exact Or.inr (Or.inr (Or.inr ⟨rfl, Or.inl ⟨_, rfl⟩⟩))
  | 34, _ => exact Or.inr (Or.inr (Or.inr ⟨rfl, Or.inl ⟨_, rfl⟩⟩))
  | 35, _ => exact Or.inr (Or.inr (Or.inr ⟨rfl, Or.inl ⟨_, rfl⟩⟩))
  | 36, _ => exact Or.inr (Or.inr (Or.inr ⟨rfl, Or.inl ⟨_, rfl⟩⟩))
  | 37, _ => exact Or.inr (Or.inr (Or.inr ⟨rfl, Or.inl ⟨_, rfl⟩⟩))
  | 38, _ => exact Or.inr (Or.inr (Or.inr ⟨rfl, Or.inl ⟨_, rfl⟩⟩))
  | 39, _ => exact Or.inr (Or.inr (Or.inr ⟨rfl, Or.inl ⟨_, rfl⟩⟩))
  | 40, _ => exact Or.inr (Or.inl ⟨rfl, rfl⟩)
  | 41, _ => exact Or.inr (Or.inr (Or.inr ⟨rfl, Or.inl ⟨_, rfl⟩⟩))
  | 42, _ => exact Or.inr (Or.inr (Or.inr ⟨rfl, Or.inl ⟨_, rfl⟩⟩))
  | 43, _ => exact Or.inl ⟨rfl, rfl⟩
  | 44, _ => exact Or.inr (Or.inl ⟨rfl, rfl⟩)
  | k + 45, hk => exact absurd hk (by simp)
theorem mv_fact (cf : Nat) (q : vw_C) (h : mvTab[cf]? = some q) : mvFact cf q := by
  match cf, h with
  | 0, h => cases h; exact mv_fact0
  | 1, h => cases h; exact mv_fact1
  | 2, h => cases h; exact mv_fact2
  | 3, h => cases h; exact mv_fact3
  | 4, h => cases h; exact mv_fact4
  | 5, h => cases h; exact mv_fact5
  | 6, h => cases h; exact mv_fact6
  | 7, h => cases h; exact mv_fact7
  | 8, h => cases h; exact mv_fact8
  | 9, h => cases h; exact mv_fact9
  | 10, h => cases h; exact mv_fact10
  | k + 11, h => simp [mvTab] at h
theorem mvNf_of {cf : Nat} {q : vw_C} (h : mvTab[cf]? = some q) : mvNf cf = q.2.2 := by simp [mvNf, h]
theorem mvFd_of {cf : Nat} {q : vw_C} (h : mvTab[cf]? = some q) (f : Nat) : mvFd cf f = q.2.1 f := by simp [mvFd, h]
theorem mv_fl_lt : ∀ z ∈ mvFl, ∃ q, mvTab[z.2.1]? = some q ∧ z.2.2 < q.2.2 := by
  have h : ∀ z ∈ mvFl, z.2.1 < mvTab.length ∧ z.2.2 < mvNf z.2.1 := by decide +kernel
  intro z hz
  obtain ⟨h1, h2⟩ := h z hz
  have e : mvTab[z.2.1]? = some mvTab[z.2.1] := List.getElem?_eq_getElem h1
  exact ⟨_, e, by rw [← mvNf_of e]; exact h2⟩
theorem mv_kl_lt : ∀ z ∈ mvKl, ∃ q, mvTab[z.2]? = some q := by
  have h : ∀ z ∈ mvKl, z.2 < mvTab.length := by decide +kernel
  intro z hz
  exact ⟨_, List.getElem?_eq_getElem (h z hz)⟩
theorem mv_jl_ok : ∀ z ∈ mvJl, -9223372036854775808 ≤ z.2 ∧ z.2 < 9223372036854775808 := by decide +kernel
theorem mv_il_ok : ∀ z ∈ mvIl, -2147483648 ≤ z.2 ∧ z.2 < 2147483648 := by decide +kernel
theorem mv_sh_ok : ∀ q ∈ mvSHl, (q.1 = 0 → q.2.1 < mvTab.length) ∧ q.2.2 ≤ 1000 ∧ (q.1 = 0 ∨ q.1 = 1 ∨ q.1 = 2) := by decide +kernel
theorem mvSH_ok (a : Nat) : ((mvSH a).1 = 0 → ∃ q, mvTab[(mvSH a).2.1]? = some q) ∧ (mvSH a).2.2 ≤ 1000 := by
  unfold mvSH
  cases h : mvSHl[a]? with
  | none => exact ⟨(fun h => absurd h (by decide)), by decide⟩
  | some q =>
    obtain ⟨h1, h2, -⟩ := mv_sh_ok q (List.mem_of_getElem? h)
    exact ⟨fun hq => ⟨_, List.getElem?_eq_getElem (h1 hq)⟩, h2⟩
theorem mv_md_len : mvMd.length = 256 := by decide +kernel
theorem mv_cdl_len : mvCdl.length = 256 := by decide +kernel
/-- each method's decode rows -/
def mvDecAll (j : Nat) : Prop := ∀ q cd, mvMd[j]? = some q → mvCdl[j]? = some cd → ∀ x ∈ cd, decode q.2.1 x.1 = .ok (x.2.1, x.2.2)
theorem mv_zip0 : ∀ z ∈ ((mvMd.map (fun q => q.2.1)).drop 0).take 20 |>.zip ((mvCdl.drop 0).take 20), ∀ x ∈ z.2, decode z.1 x.1 = .ok (x.2.1, x.2.2) := by
  show ∀ z ∈ [(prog_1_method_3_code, mvC0), (prog_1_method_28_code, mvC1), (prog_1_method_33_code, mvC2), (prog_1_method_38_code, mvC3), (prog_1_method_46_code, mvC4), (prog_6_method_2_code, mvC5), (prog_6_method_5_code, mvC6), (prog_6_method_6_code, mvC7), (prog_2_method_3_code, mvC8), (prog_2_method_6_code, mvC9), (prog_2_method_7_code, mvC10), (prog_2_method_8_code, mvC11), (prog_2_method_9_code, mvC12), (prog_2_method_12_code, mvC13), (prog_2_method_15_code, mvC14), (prog_2_method_16_code, mvC15), (prog_2_method_17_code, mvC16), (prog_2_method_18_code, mvC17), (prog_2_method_19_code, mvC18), (prog_2_method_21_code, mvC19)], ∀ x ∈ z.2, decode z.1 x.1 = .ok (x.2.1, x.2.2)
  exact List.forall_mem_cons.mpr ⟨mvD0, List.forall_mem_cons.mpr ⟨mvD1, List.forall_mem_cons.mpr ⟨mvD2, List.forall_mem_cons.mpr ⟨mvD3, List.forall_mem_cons.mpr ⟨mvD4, List.forall_mem_cons.mpr ⟨mvD5, List.forall_mem_cons.mpr ⟨mvD6, List.forall_mem_cons.mpr ⟨mvD7, List.forall_mem_cons.mpr ⟨mvD8, List.forall_mem_cons.mpr ⟨mvD9, List.forall_mem_cons.mpr ⟨mvD10, List.forall_mem_cons.mpr ⟨mvD11, List.forall_mem_cons.mpr ⟨mvD12, List.forall_mem_cons.mpr ⟨mvD13, List.forall_mem_cons.mpr ⟨mvD14, List.forall_mem_cons.mpr ⟨mvD15, List.forall_mem_cons.mpr ⟨mvD16, List.forall_mem_cons.mpr ⟨mvD17, List.forall_mem_cons.mpr ⟨mvD18, List.forall_mem_cons.mpr ⟨mvD19, fun _ h => absurd h List.not_mem_nil⟩⟩⟩⟩⟩⟩⟩⟩⟩⟩⟩⟩⟩⟩⟩⟩⟩⟩⟩⟩
theorem mv_zip1 : ∀ z ∈ ((mvMd.map (fun q => q.2.1)).drop 20).take 20 |>.zip ((mvCdl.drop 20).take 20), ∀ x ∈ z.2, decode z.1 x.1 = .ok (x.2.1, x.2.2) := by
  show ∀ z ∈ [(prog_2_method_22_code, mvC20), (prog_2_method_23_code, mvC21), (prog_2_method_24_code, mvC22), (prog_2_method_25_code, mvC23), (prog_2_method_26_code, mvC24), (prog_2_method_31_code, mvC25), (prog_4_method_8_code, mvC26), (prog_4_method_10_code, mvC27), (prog_8_method_3_code, mvC28), (prog_9_method_5_code, mvC29), (prog_9_method_6_code, mvC30), (prog_3_method_3_code, mvC31), (prog_3_method_4_code, mvC32), (prog_3_method_5_code, mvC33), (prog_3_method_7_code, mvC34), (prog_5_method_2_code, mvC35), (prog_10_method_8_code, mvC36), (prog_10_method_10_code, mvC37), (prog_12_method_3_code, mvC38), (prog_12_method_5_code, mvC39)], ∀ x ∈ z.2, decode z.1 x.1 = .ok (x.2.1, x.2.2)
  exact List.forall_mem_cons.mpr ⟨mvD20, List.forall_mem_cons.mpr ⟨mvD21, List.forall_mem_cons.mpr ⟨mvD22, List.forall_mem_cons.mpr ⟨mvD23, List.forall_mem_cons.mpr ⟨mvD24, List.forall_mem_cons.mpr ⟨mvD25, List.forall_mem_cons.mpr ⟨mvD26, List.forall_mem_cons.mpr ⟨mvD27, List.forall_mem_cons.mpr ⟨mvD28, List.forall_mem_cons.mpr ⟨mvD29, List.forall_mem_cons.mpr ⟨mvD30, List.forall_mem_cons.mpr ⟨mvD31, List.forall_mem_cons.mpr ⟨mvD32, List.forall_mem_cons.mpr ⟨mvD33, List.forall_mem_cons.mpr ⟨mvD34, List.forall_mem_cons.mpr ⟨mvD35, List.forall_mem_cons.mpr ⟨mvD36, List.forall_mem_cons.mpr ⟨mvD37, List.forall_mem_cons.mpr ⟨mvD38, List.forall_mem_cons.mpr ⟨mvD39, fun _ h => absurd h List.not_mem_nil⟩⟩⟩⟩⟩⟩⟩⟩⟩⟩⟩⟩⟩⟩⟩⟩⟩⟩⟩⟩
theorem mv_zip2 : ∀ z ∈ ((mvMd.map (fun q => q.2.1)).drop 40).take 20 |>.zip ((mvCdl.drop 40).take 20), ∀ x ∈ z.2, decode z.1 x.1 = .ok (x.2.1, x.2.2) := by
  show ∀ z ∈ [(prog_12_method_6_code, mvC40), (prog_12_method_10_code, mvC41), (prog_12_method_11_code, mvC42), (prog_12_method_15_code, mvC43), (prog_12_method_17_code, mvC44), (prog_12_method_21_code, mvC45), (prog_12_method_24_code, mvC46), (prog_12_method_31_code, mvC47), (prog_12_method_33_code, mvC48), (prog_12_method_36_code, mvC49), (prog_12_method_37_code, mvC50), (prog_12_method_38_code, mvC51), (prog_12_method_39_code, mvC52), (prog_12_method_40_code, mvC53), (prog_12_method_42_code, mvC54), (prog_12_method_43_code, mvC55), (prog_12_method_44_code, mvC56), (prog_12_method_45_code, mvC57), (prog_12_method_46_code, mvC58), (prog_12_method_90_code, mvC59)], ∀ x ∈ z.2, decode z.1 x.1 = .ok (x.2.1, x.2.2)
  exact List.forall_mem_cons.mpr ⟨mvD40, List.forall_mem_cons.mpr ⟨mvD41, List.forall_mem_cons.mpr ⟨mvD42, List.forall_mem_cons.mpr ⟨mvD43, List.forall_mem_cons.mpr ⟨mvD44, List.forall_mem_cons.mpr ⟨mvD45, List.forall_mem_cons.mpr ⟨mvD46, List.forall_mem_cons.mpr ⟨mvD47, List.forall_mem_cons.mpr ⟨mvD48, List.forall_mem_cons.mpr ⟨mvD49, List.forall_mem_cons.mpr ⟨mvD50, List.forall_mem_cons.mpr ⟨mvD51, List.forall_mem_cons.mpr ⟨mvD52, List.forall_mem_cons.mpr ⟨mvD53, List.forall_mem_cons.mpr ⟨mvD54, List.forall_mem_cons.mpr ⟨mvD55, List.forall_mem_cons.mpr ⟨mvD56, List.forall_mem_cons.mpr ⟨mvD57, List.forall_mem_cons.mpr ⟨mvD58, List.forall_mem_cons.mpr ⟨mvD59, fun _ h => absurd h List.not_mem_nil⟩⟩⟩⟩⟩⟩⟩⟩⟩⟩⟩⟩⟩⟩⟩⟩⟩⟩⟩⟩
theorem mv_zip3 : ∀ z ∈ ((mvMd.map (fun q => q.2.1)).drop 60).take 20 |>.zip ((mvCdl.drop 60).take 20), ∀ x ∈ z.2, decode z.1 x.1 = .ok (x.2.1, x.2.2) := by
  show ∀ z ∈ [(prog_12_method_95_code, mvC60), (prog_12_method_96_code, mvC61), (prog_12_method_106_code, mvC62), (prog_12_method_108_code, mvC63), (prog_12_method_111_code, mvC64), (prog_15_method_103_code, mvC65), (prog_13_method_49_code, mvC66), (prog_1_method_2_code, mvC67), (prog_1_method_13_code, mvC68), (prog_1_method_30_code, mvC69), (prog_1_method_31_code, mvC70), (prog_1_method_36_code, mvC71), (prog_1_method_39_code, mvC72), (prog_1_method_42_code, mvC73), (prog_6_method_1_code, mvC74), (prog_6_method_3_code, mvC75), (prog_2_method_1_code, mvC76), (prog_2_method_2_code, mvC77), (prog_2_method_4_code, mvC78), (prog_2_method_5_code, mvC79)], ∀ x ∈ z.2, decode z.1 x.1 = .ok (x.2.1, x.2.2)
  exact List.forall_mem_cons.mpr ⟨mvD60, List.forall_mem_cons.mpr ⟨mvD61, List.forall_mem_cons.mpr ⟨mvD62, List.forall_mem_cons.mpr ⟨mvD63, List.forall_mem_cons.mpr ⟨mvD64, List.forall_mem_cons.mpr ⟨mvD65, List.forall_mem_cons.mpr ⟨mvD66, List.forall_mem_cons.mpr ⟨mvD67, List.forall_mem_cons.mpr ⟨mvD68, List.forall_mem_cons.mpr ⟨mvD69, List.forall_mem_cons.mpr ⟨mvD70, List.forall_mem_cons.mpr ⟨mvD71, List.forall_mem_cons.mpr ⟨mvD72, List.forall_mem_cons.mpr ⟨mvD73, List.forall_mem_cons.mpr ⟨mvD74, List.forall_mem_cons.mpr ⟨mvD75, List.forall_mem_cons.mpr ⟨mvD76, List.forall_mem_cons.mpr ⟨mvD77, List.forall_mem_cons.mpr ⟨mvD78, List.forall_mem_cons.mpr ⟨mvD79, fun _ h => absurd h List.not_mem_nil⟩⟩⟩⟩⟩⟩⟩⟩⟩⟩⟩⟩⟩⟩⟩⟩⟩⟩⟩⟩
theorem mv_zip4 : ∀ z ∈ ((mvMd.map (fun q => q.2.1)).drop 80).take 20 |>.zip ((mvCdl.drop 80).take 20), ∀ x ∈ z.2, decode z.1 x.1 = .ok (x.2.1, x.2.2) := by
  show ∀ z ∈ [(prog_2_method_11_code, mvC80), (prog_2_method_14_code, mvC81), (prog_2_method_20_code, mvC82), (prog_2_method_28_code, mvC83), (prog_2_method_29_code, mvC84), (prog_2_method_32_code, mvC85), (prog_2_method_33_code, mvC86), (prog_2_method_34_code, mvC87), (prog_4_method_1_code, mvC88), (prog_4_method_3_code, mvC89), (prog_4_method_6_code, mvC90), (prog_4_method_9_code, mvC91), (prog_4_method_11_code, mvC92), (prog_8_method_1_code, mvC93), (prog_8_method_2_code, mvC94), (prog_8_method_5_code, mvC95), (prog_8_method_6_code, mvC96), (prog_8_method_7_code, mvC97), (prog_9_method_1_code, mvC98), (prog_3_method_1_code, mvC99)], ∀ x ∈ z.2, decode z.1 x.1 = .ok (x.2.1, x.2.2)
  exact List.forall_mem_cons.mpr ⟨mvD80, List.forall_mem_cons.mpr ⟨mvD81, List.forall_mem_cons.mpr ⟨mvD82, List.forall_mem_cons.mpr ⟨mvD83, List.forall_mem_cons.mpr ⟨mvD84, List.forall_mem_cons.mpr ⟨mvD85, List.forall_mem_cons.mpr ⟨mvD86, List.forall_mem_cons.mpr ⟨mvD87, List.forall_mem_cons.mpr ⟨mvD88, List.forall_mem_cons.mpr ⟨mvD89, List.forall_mem_cons.mpr ⟨mvD90, List.forall_mem_cons.mpr ⟨mvD91, List.forall_mem_cons.mpr ⟨mvD92, List.forall_mem_cons.mpr ⟨mvD93, List.forall_mem_cons.mpr ⟨mvD94, List.forall_mem_cons.mpr ⟨mvD95, List.forall_mem_cons.mpr ⟨mvD96, List.forall_mem_cons.mpr ⟨mvD97, List.forall_mem_cons.mpr ⟨mvD98, List.forall_mem_cons.mpr ⟨mvD99, fun _ h => absurd h List.not_mem_nil⟩⟩⟩⟩⟩⟩⟩⟩⟩⟩⟩⟩⟩⟩⟩⟩⟩⟩⟩⟩
theorem mv_zip5 : ∀ z ∈ ((mvMd.map (fun q => q.2.1)).drop 100).take 20 |>.zip ((mvCdl.drop 100).take 20), ∀ x ∈ z.2, decode z.1 x.1 = .ok (x.2.1, x.2.2) := by
  show ∀ z ∈ [(prog_3_method_2_code, mvC100), (prog_3_method_9_code, mvC101), (prog_5_method_4_code, mvC102), (prog_5_method_5_code, mvC103), (prog_7_method_1_code, mvC104), (prog_7_method_3_code, mvC105), (prog_10_method_1_code, mvC106), (prog_10_method_3_code, mvC107), (prog_10_method_4_code, mvC108), (prog_10_method_5_code, mvC109), (prog_12_method_1_code, mvC110), (prog_12_method_4_code, mvC111), (prog_12_method_7_code, mvC112), (prog_12_method_12_code, mvC113), (prog_12_method_18_code, mvC114), (prog_12_method_20_code, mvC115), (prog_12_method_22_code, mvC116), (prog_12_method_25_code, mvC117), (prog_12_method_34_code, mvC118), (prog_12_method_41_code, mvC119)], ∀ x ∈ z.2, decode z.1 x.1 = .ok (x.2.1, x.2.2)
  exact List.forall_mem_cons.mpr ⟨mvD100, List.forall_mem_cons.mpr ⟨mvD101, List.forall_mem_cons.mpr ⟨mvD102, List.forall_mem_cons.mpr ⟨mvD103, List.forall_mem_cons.mpr ⟨mvD104, List.forall_mem_cons.mpr ⟨mvD105, List.forall_mem_cons.mpr ⟨mvD106, List.forall_mem_cons.mpr ⟨mvD107, List.forall_mem_cons.mpr ⟨mvD108, List.forall_mem_cons.mpr ⟨mvD109, List.forall_mem_cons.mpr ⟨mvD110, List.forall_mem_cons.mpr ⟨mvD111, List.forall_mem_cons.mpr ⟨mvD112, List.forall_mem_cons.mpr ⟨mvD113, List.forall_mem_cons.mpr ⟨mvD114, List.forall_mem_cons.mpr ⟨mvD115, List.forall_mem_cons.mpr ⟨mvD116, List.forall_mem_cons.mpr ⟨mvD117, List.forall_mem_cons.mpr ⟨mvD118, List.forall_mem_cons.mpr ⟨mvD119, fun _ h => absurd h List.not_mem_nil⟩⟩⟩⟩⟩⟩⟩⟩⟩⟩⟩⟩⟩⟩⟩⟩⟩⟩⟩⟩
theorem mv_zip6 : ∀ z ∈ ((mvMd.map (fun q => q.2.1)).drop 120).take 20 |>.zip ((mvCdl.drop 120).take 20), ∀ x ∈ z.2, decode z.1 x.1 = .ok (x.2.1, x.2.2) := by
  show ∀ z ∈ [(prog_12_method_47_code, mvC120), (prog_12_method_48_code, mvC121), (prog_12_method_50_code, mvC122), (prog_12_method_51_code, mvC123), (prog_12_method_54_code, mvC124), (prog_12_method_61_code, mvC125), (prog_12_method_64_code, mvC126), (prog_12_method_66_code, mvC127), (prog_12_method_69_code, mvC128), (prog_12_method_72_code, mvC129), (prog_12_method_74_code, mvC130), (prog_12_method_80_code, mvC131), (prog_12_method_87_code, mvC132), (prog_12_method_97_code, mvC133), (prog_12_method_99_code, mvC134), (prog_12_method_100_code, mvC135), (prog_12_method_102_code, mvC136), (prog_12_method_107_code, mvC137), (prog_12_method_109_code, mvC138), (prog_12_method_116_code, mvC139)], ∀ x ∈ z.2, decode z.1 x.1 = .ok (x.2.1, x.2.2)
  exact List.forall_mem_cons.mpr ⟨mvD120, List.forall_mem_cons.mpr ⟨mvD121, List.forall_mem_cons.mpr ⟨mvD122, List.forall_mem_cons.mpr ⟨mvD123, List.forall_mem_cons.mpr ⟨mvD124, List.forall_mem_cons.mpr ⟨mvD125, List.forall_mem_cons.mpr ⟨mvD126, List.forall_mem_cons.mpr ⟨mvD127, List.forall_mem_cons.mpr ⟨mvD128, List.forall_mem_cons.mpr ⟨mvD129, List.forall_mem_cons.mpr ⟨mvD130, List.forall_mem_cons.mpr ⟨mvD131, List.forall_mem_cons.mpr ⟨mvD132, List.forall_mem_cons.mpr ⟨mvD133, List.forall_mem_cons.mpr ⟨mvD134, List.forall_mem_cons.mpr ⟨mvD135, List.forall_mem_cons.mpr ⟨mvD136, List.forall_mem_cons.mpr ⟨mvD137, List.forall_mem_cons.mpr ⟨mvD138, List.forall_mem_cons.mpr ⟨mvD139, fun _ h => absurd h List.not_mem_nil⟩⟩⟩⟩⟩⟩⟩⟩⟩⟩⟩⟩⟩⟩⟩⟩⟩⟩⟩⟩
theorem mv_zip7 : ∀ z ∈ ((mvMd.map (fun q => q.2.1)).drop 140).take 20 |>.zip ((mvCdl.drop 140).take 20), ∀ x ∈ z.2, decode z.1 x.1 = .ok (x.2.1, x.2.2) := by
  show ∀ z ∈ [(prog_1_method_4_code, mvC140), (prog_1_method_10_code, mvC141), (prog_1_method_11_code, mvC142), (prog_1_method_19_code, mvC143), (prog_1_method_20_code, mvC144), (prog_1_method_25_code, mvC145), (prog_1_method_34_code, mvC146), (prog_1_method_41_code, mvC147), (prog_6_method_4_code, mvC148), (prog_2_method_27_code, mvC149), (prog_2_method_30_code, mvC150), (prog_4_method_4_code, mvC151), (prog_4_method_5_code, mvC152), (prog_4_method_7_code, mvC153), (prog_8_method_4_code, mvC154), (prog_9_method_3_code, mvC155), (prog_3_method_8_code, mvC156), (prog_5_method_1_code, mvC157), (prog_10_method_9_code, mvC158), (prog_12_method_8_code, mvC159)], ∀ x ∈ z.2, decode z.1 x.1 = .ok (x.2.1, x.2.2)
  exact List.forall_mem_cons.mpr ⟨mvD140, List.forall_mem_cons.mpr ⟨mvD141, List.forall_mem_cons.mpr ⟨mvD142, List.forall_mem_cons.mpr ⟨mvD143, List.forall_mem_cons.mpr ⟨mvD144, List.forall_mem_cons.mpr ⟨mvD145, List.forall_mem_cons.mpr ⟨mvD146, List.forall_mem_cons.mpr ⟨mvD147, List.forall_mem_cons.mpr ⟨mvD148, List.forall_mem_cons.mpr ⟨mvD149, List.forall_mem_cons.mpr ⟨mvD150, List.forall_mem_cons.mpr ⟨mvD151, List.forall_mem_cons.mpr ⟨mvD152, List.forall_mem_cons.mpr ⟨mvD153, List.forall_mem_cons.mpr ⟨mvD154, List.forall_mem_cons.mpr ⟨mvD155, List.forall_mem_cons.mpr ⟨mvD156, List.forall_mem_cons.mpr ⟨mvD157, List.forall_mem_cons.mpr ⟨mvD158, List.forall_mem_cons.mpr ⟨mvD159, fun _ h => absurd h List.not_mem_nil⟩⟩⟩⟩⟩⟩⟩⟩⟩⟩⟩⟩⟩⟩⟩⟩⟩⟩⟩⟩
theorem mv_zip8 : ∀ z ∈ ((mvMd.map (fun q => q.2.1)).drop 160).take 20 |>.zip ((mvCdl.drop 160).take 20), ∀ x ∈ z.2, decode z.1 x.1 = .ok (x.2.1, x.2.2) := by
  show ∀ z ∈ [(prog_12_method_13_code, mvC160), (prog_12_method_19_code, mvC161), (prog_12_method_23_code, mvC162), (prog_12_method_49_code, mvC163), (prog_12_method_55_code, mvC164), (prog_12_method_59_code, mvC165), (prog_12_method_60_code, mvC166), (prog_12_method_62_code, mvC167), (prog_12_method_63_code, mvC168), (prog_12_method_65_code, mvC169), (prog_12_method_73_code, mvC170), (prog_12_method_75_code, mvC171), (prog_12_method_78_code, mvC172), (prog_12_method_83_code, mvC173), (prog_12_method_84_code, mvC174), (prog_12_method_98_code, mvC175), (prog_12_method_101_code, mvC176), (prog_12_method_110_code, mvC177), (prog_1_method_1_code, mvC178), (prog_1_method_14_code, mvC179)], ∀ x ∈ z.2, decode z.1 x.1 = .ok (x.2.1, x.2.2)
  exact List.forall_mem_cons.mpr ⟨mvD160, List.forall_mem_cons.mpr ⟨mvD161, List.forall_mem_cons.mpr ⟨mvD162, List.forall_mem_cons.mpr ⟨mvD163, List.forall_mem_cons.mpr ⟨mvD164, List.forall_mem_cons.mpr ⟨mvD165, List.forall_mem_cons.mpr ⟨mvD166, List.forall_mem_cons.mpr ⟨mvD167, List.forall_mem_cons.mpr ⟨mvD168, List.forall_mem_cons.mpr ⟨mvD169, List.forall_mem_cons.mpr ⟨mvD170, List.forall_mem_cons.mpr ⟨mvD171, List.forall_mem_cons.mpr ⟨mvD172, List.forall_mem_cons.mpr ⟨mvD173, List.forall_mem_cons.mpr ⟨mvD174, List.forall_mem_cons.mpr ⟨mvD175, List.forall_mem_cons.mpr ⟨mvD176, List.forall_mem_cons.mpr ⟨mvD177, List.forall_mem_cons.mpr ⟨mvD178, List.forall_mem_cons.mpr ⟨mvD179, fun _ h => absurd h List.not_mem_nil⟩⟩⟩⟩⟩⟩⟩⟩⟩⟩⟩⟩⟩⟩⟩⟩⟩⟩⟩⟩
theorem mv_zip9 : ∀ z ∈ ((mvMd.map (fun q => q.2.1)).drop 180).take 20 |>.zip ((mvCdl.drop 180).take 20), ∀ x ∈ z.2, decode z.1 x.1 = .ok (x.2.1, x.2.2) := by
  show ∀ z ∈ [(prog_1_method_44_code, mvC180), (prog_1_method_45_code, mvC181), (prog_2_method_13_code, mvC182), (prog_4_method_2_code, mvC183), (prog_9_method_4_code, mvC184), (prog_3_method_6_code, mvC185), (prog_7_method_2_code, mvC186), (prog_10_method_6_code, mvC187), (prog_12_method_9_code, mvC188), (prog_12_method_16_code, mvC189), (prog_12_method_32_code, mvC190), (prog_12_method_35_code, mvC191), (prog_12_method_52_code, mvC192), (prog_12_method_85_code, mvC193), (prog_12_method_86_code, mvC194), (prog_12_method_91_code, mvC195), (prog_12_method_92_code, mvC196), (prog_12_method_103_code, mvC197), (prog_12_method_113_code, mvC198), (prog_1_method_12_code, mvC199)], ∀ x ∈ z.2, decode z.1 x.1 = .ok (x.2.1, x.2.2)
  exact List.forall_mem_cons.mpr ⟨mvD180, List.forall_mem_cons.mpr ⟨mvD181, List.forall_mem_cons.mpr ⟨mvD182, List.forall_mem_cons.mpr ⟨mvD183, List.forall_mem_cons.mpr ⟨mvD184, List.forall_mem_cons.mpr ⟨mvD185, List.forall_mem_cons.mpr ⟨mvD186, List.forall_mem_cons.mpr ⟨mvD187, List.forall_mem_cons.mpr ⟨mvD188, List.forall_mem_cons.mpr ⟨mvD189, List.forall_mem_cons.mpr ⟨mvD190, List.forall_mem_cons.mpr ⟨mvD191, List.forall_mem_cons.mpr ⟨mvD192, List.forall_mem_cons.mpr ⟨mvD193, List.forall_mem_cons.mpr ⟨mvD194, List.forall_mem_cons.mpr ⟨mvD195, List.forall_mem_cons.mpr ⟨mvD196, List.forall_mem_cons.mpr ⟨mvD197, List.forall_mem_cons.mpr ⟨mvD198, List.forall_mem_cons.mpr ⟨mvD199, fun _ h => absurd h List.not_mem_nil⟩⟩⟩⟩⟩⟩⟩⟩⟩⟩⟩⟩⟩⟩⟩⟩⟩⟩⟩⟩
theorem mv_zip10 : ∀ z ∈ ((mvMd.map (fun q => q.2.1)).drop 200).take 20 |>.zip ((mvCdl.drop 200).take 20), ∀ x ∈ z.2, decode z.1 x.1 = .ok (x.2.1, x.2.2) := by
  show ∀ z ∈ [(prog_1_method_15_code, mvC200), (prog_1_method_16_code, mvC201), (prog_1_method_17_code, mvC202), (prog_1_method_18_code, mvC203), (prog_1_method_24_code, mvC204), (prog_1_method_27_code, mvC205), (prog_1_method_35_code, mvC206), (prog_2_method_10_code, mvC207), (prog_9_method_2_code, mvC208), (prog_10_method_7_code, mvC209), (prog_12_method_14_code, mvC210), (prog_12_method_26_code, mvC211), (prog_12_method_30_code, mvC212), (prog_12_method_53_code, mvC213), (prog_12_method_88_code, mvC214), (prog_12_method_104_code, mvC215), (prog_1_method_5_code, mvC216), (prog_1_method_9_code, mvC217), (prog_1_method_40_code, mvC218), (prog_1_method_43_code, mvC219)], ∀ x ∈ z.2, decode z.1 x.1 = .ok (x.2.1, x.2.2)
  exact List.forall_mem_cons.mpr ⟨mvD200, List.forall_mem_cons.mpr ⟨mvD201, List.forall_mem_cons.mpr ⟨mvD202, List.forall_mem_cons.mpr ⟨mvD203, List.forall_mem_cons.mpr ⟨mvD204, List.forall_mem_cons.mpr ⟨mvD205, List.forall_mem_cons.mpr ⟨mvD206, List.forall_mem_cons.mpr ⟨mvD207, List.forall_mem_cons.mpr ⟨mvD208, List.forall_mem_cons.mpr ⟨mvD209, List.forall_mem_cons.mpr ⟨mvD210, List.forall_mem_cons.mpr ⟨mvD211, List.forall_mem_cons.mpr ⟨mvD212, List.forall_mem_cons.mpr ⟨mvD213, List.forall_mem_cons.mpr ⟨mvD214, List.forall_mem_cons.mpr ⟨mvD215, List.forall_mem_cons.mpr ⟨mvD216, List.forall_mem_cons.mpr ⟨mvD217, List.forall_mem_cons.mpr ⟨mvD218, List.forall_mem_cons.mpr ⟨mvD219, fun _ h => absurd h List.not_mem_nil⟩⟩⟩⟩⟩⟩⟩⟩⟩⟩⟩⟩⟩⟩⟩⟩⟩⟩⟩⟩
theorem mv_zip11 : ∀ z ∈ ((mvMd.map (fun q => q.2.1)).drop 220).take 20 |>.zip ((mvCdl.drop 220).take 20), ∀ x ∈ z.2, decode z.1 x.1 = .ok (x.2.1, x.2.2) := by
  show ∀ z ∈ [(prog_5_method_3_code, mvC220), (prog_10_method_2_code, mvC221), (prog_12_method_27_code, mvC222), (prog_12_method_28_code, mvC223), (prog_12_method_29_code, mvC224), (prog_12_method_57_code, mvC225), (prog_12_method_67_code, mvC226), (prog_12_method_70_code, mvC227), (prog_12_method_76_code, mvC228), (prog_12_method_79_code, mvC229), (prog_12_method_81_code, mvC230), (prog_12_method_89_code, mvC231), (prog_12_method_93_code, mvC232), (prog_12_method_105_code, mvC233), (prog_1_method_6_code, mvC234), (prog_1_method_7_code, mvC235), (prog_1_method_8_code, mvC236), (prog_1_method_21_code, mvC237), (prog_1_method_22_code, mvC238), (prog_1_method_23_code, mvC239)], ∀ x ∈ z.2, decode z.1 x.1 = .ok (x.2.1, x.2.2)
  exact List.forall_mem_cons.mpr ⟨mvD220, List.forall_mem_cons.mpr ⟨mvD221, List.forall_mem_cons.mpr ⟨mvD222, List.forall_mem_cons.mpr ⟨mvD223, List.forall_mem_cons.mpr ⟨mvD224, List.forall_mem_cons.mpr ⟨mvD225, List.forall_mem_cons.mpr ⟨mvD226, List.forall_mem_cons.mpr ⟨mvD227, List.forall_mem_cons.mpr ⟨mvD228, List.forall_mem_cons.mpr ⟨mvD229, List.forall_mem_cons.mpr ⟨mvD230, List.forall_mem_cons.mpr ⟨mvD231, List.forall_mem_cons.mpr ⟨mvD232, List.forall_mem_cons.mpr ⟨mvD233, List.forall_mem_cons.mpr ⟨mvD234, List.forall_mem_cons.mpr ⟨mvD235, List.forall_mem_cons.mpr ⟨mvD236, List.forall_mem_cons.mpr ⟨mvD237, List.forall_mem_cons.mpr ⟨mvD238, List.forall_mem_cons.mpr ⟨mvD239, fun _ h => absurd h List.not_mem_nil⟩⟩⟩⟩⟩⟩⟩⟩⟩⟩⟩⟩⟩⟩⟩⟩⟩⟩⟩⟩
theorem mv_zip12 : ∀ z ∈ ((mvMd.map (fun q => q.2.1)).drop 240).take 16 |>.zip ((mvCdl.drop 240).take 16), ∀ x ∈ z.2, decode z.1 x.1 = .ok (x.2.1, x.2.2) := by
  show ∀ z ∈ [(prog_1_method_26_code, mvC240), (prog_1_method_29_code, mvC241), (prog_1_method_37_code, mvC242), (prog_12_method_56_code, mvC243), (prog_12_method_68_code, mvC244), (prog_12_method_71_code, mvC245), (prog_12_method_77_code, mvC246), (prog_12_method_82_code, mvC247), (prog_12_method_94_code, mvC248), (prog_12_method_112_code, mvC249), (prog_12_method_114_code, mvC250), (prog_12_method_115_code, mvC251), (prog_1_method_32_code, mvC252), (prog_12_method_58_code, mvC253), (prog_12_method_117_code, mvC254), (code, mvC255)], ∀ x ∈ z.2, decode z.1 x.1 = .ok (x.2.1, x.2.2)
  exact List.forall_mem_cons.mpr ⟨mvD240, List.forall_mem_cons.mpr ⟨mvD241, List.forall_mem_cons.mpr ⟨mvD242, List.forall_mem_cons.mpr ⟨mvD243, List.forall_mem_cons.mpr ⟨mvD244, List.forall_mem_cons.mpr ⟨mvD245, List.forall_mem_cons.mpr ⟨mvD246, List.forall_mem_cons.mpr ⟨mvD247, List.forall_mem_cons.mpr ⟨mvD248, List.forall_mem_cons.mpr ⟨mvD249, List.forall_mem_cons.mpr ⟨mvD250, List.forall_mem_cons.mpr ⟨mvD251, List.forall_mem_cons.mpr ⟨mvD252, List.forall_mem_cons.mpr ⟨mvD253, List.forall_mem_cons.mpr ⟨mvD254, List.forall_mem_cons.mpr ⟨mvD255, fun _ h => absurd h List.not_mem_nil⟩⟩⟩⟩⟩⟩⟩⟩⟩⟩⟩⟩⟩⟩⟩⟩
theorem mv_zip : ∀ z ∈ mvMd.zip mvCdl, ∀ x ∈ z.2, decode z.1.2.1 x.1 = .ok (x.2.1, x.2.2) := by
  intro z hz
  obtain ⟨j, hj⟩ := List.getElem?_of_mem hz
  rw [List.getElem?_zip_eq_some] at hj
  have hl : j < 256 := by
    have := (List.getElem?_eq_some_iff.mp hj.2).1
    rw [mv_cdl_len] at this
    exact this
  have h1 : (mvMd.map (fun q => q.2.1))[j]? = some z.1.2.1 := by rw [List.getElem?_map, hj.1]; rfl
  have key : ∀ a n : Nat, a ≤ j → j < a + n → (z.1.2.1, z.2) ∈ (((mvMd.map (fun q => q.2.1)).drop a).take n).zip ((mvCdl.drop a).take n) := by
    intro a n h2 h3
    refine List.mem_of_getElem? (i := j - a) ?_
    rw [List.getElem?_zip_eq_some, List.getElem?_take_of_lt (by omega), List.getElem?_take_of_lt (by omega), List.getElem?_drop, List.getElem?_drop, show a + (j - a) = j by omega]
    exact ⟨h1, hj.2⟩
  rcases Nat.lt_or_ge j 20 with hc | hc
  · exact mv_zip0 _ (key 0 20 (by omega) (by omega))
  rcases Nat.lt_or_ge j 40 with hc | hc
  · exact mv_zip1 _ (key 20 20 (by omega) (by omega))
  rcases Nat.lt_or_ge j 60 with hc | hc
  · exact mv_zip2 _ (key 40 20 (by omega) (by omega))
  rcases Nat.lt_or_ge j 80 with hc | hc
  · exact mv_zip3 _ (key 60 20 (by omega) (by omega))
  rcases Nat.lt_or_ge j 100 with hc | hc
  · exact mv_zip4 _ (key 80 20 (by omega) (by omega))
  rcases Nat.lt_or_ge j 120 with hc | hc
  · exact mv_zip5 _ (key 100 20 (by omega) (by omega))
  rcases Nat.lt_or_ge j 140 with hc | hc
  · exact mv_zip6 _ (key 120 20 (by omega) (by omega))
  rcases Nat.lt_or_ge j 160 with hc | hc
  · exact mv_zip7 _ (key 140 20 (by omega) (by omega))
  rcases Nat.lt_or_ge j 180 with hc | hc
  · exact mv_zip8 _ (key 160 20 (by omega) (by omega))
  rcases Nat.lt_or_ge j 200 with hc | hc
  · exact mv_zip9 _ (key 180 20 (by omega) (by omega))
  rcases Nat.lt_or_ge j 220 with hc | hc
  · exact mv_zip10 _ (key 200 20 (by omega) (by omega))
  rcases Nat.lt_or_ge j 240 with hc | hc
  · exact mv_zip11 _ (key 220 20 (by omega) (by omega))
  exact mv_zip12 _ (key 240 16 (by omega) (by omega))
theorem mv_decAll (j : Nat) : mvDecAll j := by
  intro q cd hq hcd
  have hz : (mvMd.zip mvCdl)[j]? = some (q, cd) := by rw [List.getElem?_zip_eq_some]; exact ⟨hq, hcd⟩
  exact mv_zip _ (List.mem_of_getElem? hz)
theorem mv_dec {j pc : Nat} {q : mvMt} {ins : Instr} {len : Nat} (hq : mvMd[j]? = some q) (hd : mvDec j pc = some (ins, len)) : decode q.2.1 pc = .ok (ins, len) := by
  unfold mvDec at hd
  split at hd
  · rename_i cd hcd
    have h := mv_decAll j
    unfold mvDecAll at h
    exact h q cd hq hcd (pc, (ins, len)) (mv_lookup hd)
  · cases hd
/-- what the lists say of the methods that are called -/
theorem mv_codeAll : ∀ q ∈ mvMd, ¬ q.2.2.2.2.1 = 11 → mvWcode q ∈ lw_tbl := by
  show ∀ q ∈ mvMd0 ++ (mvMd1 ++ (mvMd2 ++ (mvMd3 ++ (mvMd4 ++ (mvMd5 ++ (mvMd6)))))), ¬ q.2.2.2.2.1 = 11 → mvWcode q ∈ lw_tbl
  exact List.forall_mem_append.mpr ⟨mv_code0, List.forall_mem_append.mpr ⟨mv_code1, List.forall_mem_append.mpr ⟨mv_code2, List.forall_mem_append.mpr ⟨mv_code3, List.forall_mem_append.mpr ⟨mv_code4, List.forall_mem_append.mpr ⟨mv_code5, mv_code6⟩⟩⟩⟩⟩⟩
theorem mt_code {q : mvMt} (h : q ∈ mvMd) (ho : ¬ q.2.2.2.2.1 = 11) : mvWcode q ∈ mvTb := mvTb_of (mv_codeAll q h ho) rfl
