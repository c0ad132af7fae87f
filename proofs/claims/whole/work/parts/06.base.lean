/-! what the mini machine's values and cells are in the machine -/
abbrev mvBs : Type := Nat × Nat × Nat
def mvB (b : mvBs) (k : Nat) : Nat := if k = 1 then b.2.1 else if k = 2 then b.2.2 else b.1 + (k - 3)
def mvRv (b : mvBs) (v : mvV) : Value := match v with
  | .inl x => .int (Int32.ofInt x)
  | .inr (.inl x) => .long (Int64.ofInt x)
  | .inr (.inr a) => .ref (mvB b a)
theorem mvRv_cat (b : mvBs) (v : mvV) : (mvRv b v).category = mvCat v := by rcases v with x | x | x <;> rfl
def mv32 (x : Int) : Prop := -2147483648 ≤ x ∧ x < 2147483648
def mv64 (x : Int) : Prop := -9223372036854775808 ≤ x ∧ x < 9223372036854775808
theorem mv32.to64 {x : Int} (h : mv32 x) : mv64 x := by unfold mv32 mv64 at *; omega
theorem m32 {x : Int} (h : mv32 x) : (Int32.ofInt x).toInt = x := Int32.toInt_ofInt_of_le (by have := h.1; omega) (by have := h.2; omega)
theorem m64 {x : Int} (h : mv64 x) : (Int64.ofInt x).toInt = x := Int64.toInt_ofInt_of_le (by have := h.1; omega) (by have := h.2; omega)
theorem m_of_mw (z : Int) : Int32.ofInt (mw z) = Int32.ofInt z := Int32.toInt.inj (by simp [mw, Int32.toInt_ofInt, Int32.size])
theorem m_of_mwl (z : Int) : Int64.ofInt (mwl z) = Int64.ofInt z := Int64.toInt.inj (by simp [mwl, Int64.toInt_ofInt, Int64.size])
theorem mw_ok (z : Int) : mv32 (mw z) := by
  have h1 := Int.le_bmod (x := z) (m := 4294967296) (by decide)
  have h2 := Int.bmod_lt (x := z) (m := 4294967296) (by decide)
  unfold mv32 mw
  omega
theorem mwl_ok (z : Int) : mv64 (mwl z) := by
  have h1 := Int.le_bmod (x := z) (m := 18446744073709551616) (by decide)
  have h2 := Int.bmod_lt (x := z) (m := 18446744073709551616) (by decide)
  unfold mv64 mwl
  omega
theorem mw_id {z : Int} (h : mv32 z) : mw z = z := by
  unfold mw
  exact Int.bmod_eq_of_le (by have := h.1; omega) (by have := h.2; omega)
theorem mwl_id {z : Int} (h : mv64 z) : mwl z = z := by
  unfold mwl
  exact Int.bmod_eq_of_le (by have := h.1; omega) (by have := h.2; omega)
theorem m_add (x y : Int) : Int32.ofInt x + Int32.ofInt y = Int32.ofInt (mw (x + y)) := by rw [m_of_mw, Int32.ofInt_add]
theorem m_sub (x y : Int) : Int32.ofInt x - Int32.ofInt y = Int32.ofInt (mw (x - y)) := by rw [m_of_mw, Int32.ofInt_sub]
theorem m_mul (x y : Int) : Int32.ofInt x * Int32.ofInt y = Int32.ofInt (mw (x * y)) := by rw [m_of_mw, Int32.ofInt_mul]
theorem ml_add (x y : Int) : Int64.ofInt x + Int64.ofInt y = Int64.ofInt (mwl (x + y)) := by rw [m_of_mwl, Int64.ofInt_add]
theorem ml_mul (x y : Int) : Int64.ofInt x * Int64.ofInt y = Int64.ofInt (mwl (x * y)) := by rw [m_of_mwl, Int64.ofInt_mul]
theorem m_div {x y : Int} (hx : mv32 x) (hy : mv32 y) : Int32.ofInt x / Int32.ofInt y = Int32.ofInt (mw (x.tdiv y)) := by
  apply Int32.toInt.inj
  rw [Int32.toInt_div, m32 hx, m32 hy, m32 (mw_ok _)]
  rfl
theorem ml_div {x y : Int} (hx : mv64 x) (hy : mv64 y) : Int64.ofInt x / Int64.ofInt y = Int64.ofInt (mwl (x.tdiv y)) := by
  apply Int64.toInt.inj
  rw [Int64.toInt_div, m64 hx, m64 hy, m64 (mwl_ok _)]
  rfl
theorem mv_tmod {x y : Int} : x.tmod y ≤ x ∧ 0 ≤ x.tmod y ∨ x ≤ x.tmod y ∧ x.tmod y ≤ 0 := by
  rcases Int.le_total 0 x with h | h
  · exact Or.inl ⟨by
      have h1 := Int.tmod_nonneg y h
      have h2 := Int.natAbs_tmod x y
      have h3 := Nat.mod_le x.natAbs y.natAbs
      omega, Int.tmod_nonneg y h⟩
  · have h0 : (-x).tmod y = -(x.tmod y) := Int.neg_tmod x y
    have h1 := Int.tmod_nonneg y (a := -x) (by omega)
    have h2 := Int.natAbs_tmod x y
    have h3 := Nat.mod_le x.natAbs y.natAbs
    exact Or.inr (by omega)
theorem mv_tmod32 {x y : Int} (hx : mv32 x) : mv32 (x.tmod y) := by
  have := mv_tmod (x := x) (y := y)
  unfold mv32 at *
  omega
theorem mv_tmod64 {x y : Int} (hx : mv64 x) : mv64 (x.tmod y) := by
  have := mv_tmod (x := x) (y := y)
  unfold mv64 at *
  omega
theorem m_rem {x y : Int} (hx : mv32 x) (hy : mv32 y) : Int32.ofInt x - Int32.ofInt x / Int32.ofInt y * Int32.ofInt y = Int32.ofInt (x.tmod y) := by
  rw [m_div hx hy, m_mul, m_sub, m_of_mw]
  have h : Int32.ofInt (x - mw (mw (x.tdiv y) * y)) = Int32.ofInt x - Int32.ofInt (x.tdiv y) * Int32.ofInt y := by
    rw [Int32.ofInt_sub, m_of_mw, Int32.ofInt_mul, m_of_mw]
  rw [h, ← Int32.ofInt_mul, ← Int32.ofInt_sub, Int.tmod_def, Int.mul_comm]
theorem ml_rem {x y : Int} (hx : mv64 x) (hy : mv64 y) : Int64.ofInt x - Int64.ofInt x / Int64.ofInt y * Int64.ofInt y = Int64.ofInt (x.tmod y) := by
  rw [ml_div hx hy]
  rw [m_of_mwl, ← Int64.ofInt_mul, ← Int64.ofInt_sub, Int.tmod_def, Int.mul_comm]
theorem m_eq {x y : Int} (hx : mv32 x) (hy : mv32 y) : Int32.ofInt x = Int32.ofInt y ↔ x = y := by
  rw [← Int32.toInt_inj, m32 hx, m32 hy]
theorem m_lt {x y : Int} (hx : mv32 x) (hy : mv32 y) : Int32.ofInt x < Int32.ofInt y ↔ x < y := by
  rw [Int32.lt_iff_toInt_lt, m32 hx, m32 hy]
theorem m_le {x y : Int} (hx : mv32 x) (hy : mv32 y) : Int32.ofInt x ≤ Int32.ofInt y ↔ x ≤ y := by
  rw [Int32.le_iff_toInt_le, m32 hx, m32 hy]
theorem mv32_0 : mv32 0 := by unfold mv32; omega
theorem mv64_0 : mv64 0 := by unfold mv64; omega
theorem m_0 : (0 : Int32) = Int32.ofInt 0 := by decide
theorem mz_eq {x : Int} (hx : mv32 x) : Int32.ofInt x = 0 ↔ x = 0 := by rw [m_0]; exact m_eq hx mv32_0
theorem mz_lt {x : Int} (hx : mv32 x) : Int32.ofInt x < 0 ↔ x < 0 := by rw [m_0]; exact m_lt hx mv32_0
theorem mz_le {x : Int} (hx : mv32 x) : Int32.ofInt x ≤ 0 ↔ x ≤ 0 := by rw [m_0]; exact m_le hx mv32_0
theorem mz_gt {x : Int} (hx : mv32 x) : 0 < Int32.ofInt x ↔ 0 < x := by rw [m_0]; exact m_lt mv32_0 hx
theorem mz_ge {x : Int} (hx : mv32 x) : 0 ≤ Int32.ofInt x ↔ 0 ≤ x := by rw [m_0]; exact m_le mv32_0 hx
theorem ml_eq0 {x : Int} (hx : mv64 x) : Int64.ofInt x = 0 ↔ x = 0 := by
  rw [show (0 : Int64) = Int64.ofInt 0 by decide, ← Int64.toInt_inj, m64 hx, m64 mv64_0]
theorem m_clamp {i : Int} (hi : mv32 i) : (Int32.ofInt i).toNatClampNeg = i.toNat := by
  show (Int32.ofInt i).toInt.toNat = _
  rw [m32 hi]
theorem m_in {i : Int} {n : Nat} (hi : mv32 i) (h0 : 0 ≤ i) (h1 : i < n) : vp_in (Int32.ofInt i) n := vp_in_iff.mpr (by rw [m32 hi]; exact ⟨h0, h1⟩)
theorem m_and (x y : Int) : Int32.ofInt x &&& Int32.ofInt y = Int32.ofInt (mvAnd x y) := by unfold mvAnd; rw [Int32.ofInt_toInt]
theorem m_or (x y : Int) : Int32.ofInt x ||| Int32.ofInt y = Int32.ofInt (mvOr x y) := by unfold mvOr; rw [Int32.ofInt_toInt]
theorem m_shl (x y : Int) : Int32.ofInt x <<< (Int32.ofInt y &&& 31) = Int32.ofInt (mvShl x y) := by unfold mvShl; rw [Int32.ofInt_toInt]
theorem m_shr (x y : Int) : Int32.ofInt x >>> (Int32.ofInt y &&& 31) = Int32.ofInt (mvShr x y) := by unfold mvShr; rw [Int32.ofInt_toInt]
theorem m_ushr (x y : Int) : ((Int32.ofInt x).toUInt32 >>> ((Int32.ofInt y).toUInt32 &&& Int32.toUInt32 31)).toInt32 = Int32.ofInt (mvUshr x y) := by unfold mvUshr; rw [Int32.ofInt_toInt]
theorem m_lcmp (x y : Int) : lg_cmp (Int64.ofInt x) (Int64.ofInt y) = Int32.ofInt (mvLcmp x y) := by unfold mvLcmp; rw [Int32.ofInt_toInt]
theorem mv_i32 (x : Int32) : mv32 x.toInt := ⟨by have := x.le_toInt; omega, by have := x.toInt_lt; omega⟩
theorem m_i2l {x : Int} (hx : mv32 x) : (Int32.ofInt x).toInt64 = Int64.ofInt x := Int64.toInt.inj (by rw [Int32.toInt_toInt64, m32 hx, m64 hx.to64])
theorem m_l2i (x : Int) : (Int64.ofInt x).toInt32 = Int32.ofInt (mw x) := by rw [m_of_mw, Int64.toInt32_ofInt]
theorem m_bi {n : Int} (h : -128 ≤ n ∧ n ≤ 127) : (Int8.ofInt n).toInt32 = Int32.ofInt n := by
  apply Int32.toInt.inj
  rw [Int8.toInt_toInt32, Int8.toInt_ofInt_of_le (by omega) (by omega), m32 (by unfold mv32; omega)]
theorem m_si {n : Int} (h : -32768 ≤ n ∧ n ≤ 32767) : (Int16.ofInt n).toInt32 = Int32.ofInt n := by
  apply Int32.toInt.inj
  rw [Int16.toInt_toInt32, Int16.toInt_ofInt_of_le (by omega) (by omega), m32 (by unfold mv32; omega)]
/-! cells -/
def mvFv (b : mvBs) (σ : mvS) (a cf f : Nat) : Value := if mvFt cf f = 2 then (if σ.2.1 a f = 0 then .null else .ref (mvB b (σ.2.1 a f))) else if mvFt cf f = 1 then .long (Int64.ofInt (σ.2.2 a (f : Int))) else .int (Int32.ofInt (σ.2.2 a (f : Int)))
def mvNf (cf : Nat) : Nat := ((mvTab[cf]?).map (fun q => q.2.2)).getD 0
def mvCe (b : mvBs) (cA0 cA1 : ClassId) (σ : mvS) (a : Nat) : va_E := if (mvSH a).1 = 0 then .inr ((mvSH a).2.1, (List.range (mvNf (mvSH a).2.1)).map (fun f => mvFv b σ a (mvSH a).2.1 f)) else .inl (if (mvSH a).2.1 = 0 then cA0 else cA1, (mvSH a).2.2, .inl (fun i => Int32.ofInt (σ.2.2 a (i : Int))))
def mvWd (b : mvBs) (cA0 cA1 : ClassId) (σ : mvS) : va_W := (List.range (σ.1 - 3)).map (fun i => (b.1 + i, mvCe b cA0 cA1 σ (i + 3)))
theorem mvWd_get {b : mvBs} {cA0 cA1 : ClassId} {σ : mvS} {a : Nat} (h3 : 3 ≤ a) (hn : a < σ.1) : (mvWd b cA0 cA1 σ)[a - 3]? = some (mvB b a, mvCe b cA0 cA1 σ a) := by
  unfold mvWd mvB
  rw [List.getElem?_map, List.getElem?_range (by omega), if_neg (by omega), if_neg (by omega)]
  simp only [Option.map_some]
  rw [show a - 3 + 3 = a by omega]
theorem mvWd_len {b : mvBs} {cA0 cA1 : ClassId} {σ : mvS} : (mvWd b cA0 cA1 σ).length = σ.1 - 3 := by simp [mvWd]
theorem mvWd_at {b : mvBs} {cA0 cA1 : ClassId} {σ : mvS} {k : Nat} {q : Nat × va_E} (h : (mvWd b cA0 cA1 σ)[k]? = some q) : k < σ.1 - 3 ∧ q = (b.1 + k, mvCe b cA0 cA1 σ (k + 3)) := by
  have hk : k < (mvWd b cA0 cA1 σ).length := (List.getElem?_eq_some_iff.mp h).1
  rw [mvWd_len] at hk
  refine ⟨hk, ?_⟩
  unfold mvWd at h
  rw [List.getElem?_map, List.getElem?_range hk] at h
  exact (Option.some.inj h).symm
theorem mvWd_D {b : mvBs} {cA0 cA1 : ClassId} {σ : mvS} : va_D (fun q => b.1 ≤ q) (mvWd b cA0 cA1 σ) := by
  refine ⟨fun i j x y hi hj hxy => ?_, fun k q hk => ?_⟩
  · obtain ⟨-, rfl⟩ := mvWd_at hi
    obtain ⟨-, rfl⟩ := mvWd_at hj
    simp only at hxy
    omega
  · obtain ⟨-, rfl⟩ := mvWd_at hk
    exact Nat.le_add_right _ _
theorem mvWd_set {b : mvBs} {cA0 cA1 : ClassId} {σ σ' : mvS} {a : Nat} {x : va_E} (h3 : 3 ≤ a) (hn : σ'.1 = σ.1) (ho : ∀ k, k ≠ a → mvCe b cA0 cA1 σ' k = mvCe b cA0 cA1 σ k) (hx : mvCe b cA0 cA1 σ' a = x) : (mvWd b cA0 cA1 σ).set (a - 3) (mvB b a, x) = mvWd b cA0 cA1 σ' := by
  apply List.ext_getElem?
  intro k
  rw [List.getElem?_set]
  by_cases hk : a - 3 = k
  · subst hk
    rw [if_pos rfl, mvWd_len]
    by_cases hl : a - 3 < σ.1 - 3
    · rw [if_pos hl, mvWd_get h3 (by omega), hx]
    · rw [if_neg hl]
      symm
      rw [List.getElem?_eq_none_iff, mvWd_len]
      omega
  · rw [if_neg hk]
    by_cases hl : k < σ.1 - 3
    · have e1 := mvWd_get (b := b) (cA0 := cA0) (cA1 := cA1) (σ := σ) (a := k + 3) (by omega) (by omega)
      have e2 := mvWd_get (b := b) (cA0 := cA0) (cA1 := cA1) (σ := σ') (a := k + 3) (by omega) (by omega)
      rw [Nat.add_sub_cancel] at e1 e2
      rw [e1, e2, ho _ (by omega)]
    · rw [List.getElem?_eq_none_iff.mpr (by rw [mvWd_len]; omega), List.getElem?_eq_none_iff.mpr (by rw [mvWd_len]; omega)]
theorem mvIs_spec {n a k x y : Nat} (h : mvIs n a = (k, x, y)) (hk : ¬ k = 2) : 3 ≤ a ∧ a < n ∧ mvSH a = (k, x, y) := by
  unfold mvIs at h
  split at h
  · rename_i hh; exact ⟨hh.1, hh.2, h⟩
  · cases h; exact absurd rfl hk
theorem mvIs_arr {n a : Nat} (h : (mvIs n a).1 = 1) : 3 ≤ a ∧ a < n ∧ mvSH a = mvIs n a := by
  unfold mvIs at h ⊢
  split at h
  · rename_i hh; rw [if_pos hh]; exact ⟨hh.1, hh.2, rfl⟩
  · simp at h
/-! locals -/
def mvLr (b : mvBs) (L : mvL) (ls : Array Slot) : Prop := ls.size = L.length ∧ lv_wf ls ∧ ∀ (i : Nat) (v : mvV), mvGet L i = some v → ls[i]? = some (.val (mvRv b v))
def mvAsc (b : mvBs) (L : mvL) : List (Nat × Value) := (List.range L.length).filterMap fun i => (mvGet L i).map fun v => (i, mvRv b v)
theorem mvGet_lt {L : mvL} {i : Nat} {v : mvV} (h : mvGet L i = some v) : i < L.length := by
  unfold mvGet at h
  rcases Nat.lt_or_ge i L.length with q | q
  · exact q
  · rw [List.getElem?_eq_none_iff.mpr q] at h; cases h
theorem mvAsc_mem {b : mvBs} {L : mvL} {q : Nat × Value} : q ∈ mvAsc b L ↔ ∃ v, mvGet L q.1 = some v ∧ q.2 = mvRv b v := by
  unfold mvAsc
  rw [List.mem_filterMap]
  constructor
  · rintro ⟨i, -, h⟩
    cases hg : mvGet L i with
    | none => rw [hg] at h; cases h
    | some v => rw [hg] at h; cases h; exact ⟨v, hg, rfl⟩
  · rintro ⟨v, h1, h2⟩
    refine ⟨q.1, List.mem_range.mpr (mvGet_lt h1), ?_⟩
    rw [h1]
    obtain ⟨i, x⟩ := q
    simp only at h2
    rw [h2]
    rfl
theorem mvLr.has {b : mvBs} {L : mvL} {ls : Array Slot} (h : mvLr b L ls) : lv_has ls L.length (mvAsc b L) := ⟨h.1, h.2.1, fun q hq => by
  obtain ⟨v, h1, h2⟩ := mvAsc_mem.mp hq
  rw [h2]
  exact h.2.2 _ _ h1⟩
theorem mvGet_set {L : mvL} {i k : Nat} {o : Option mvV} (h : i < L.length) : mvGet (L.set i o) k = if i = k then o else mvGet L k := by
  unfold mvGet
  rw [List.getElem?_set]
  by_cases hk : i = k
  · rw [if_pos hk, if_pos hk, if_pos h]
    cases o <;> rfl
  · rw [if_neg hk, if_neg hk]
theorem mvPre_spec {L : mvL} {i k : Nat} {v : mvV} (h : mvPre L i = true) (hk : k + 1 = i) (hv : mvGet L k = some v) : ¬ mvCat v = 2 := by
  subst hk
  have h : (!mvIsJ (mvGet L k)) = true := h
  rw [hv] at h
  rcases v with x | x | x
  · intro q; cases q
  · cases h
  · intro q; cases q
theorem mvSt_spec {b : mvBs} {L L' : mvL} {i : Nat} {v : mvV} (h : mvSt L i v = some L') : i < L.length ∧ ∀ ls' : Array Slot, lv_has ls' L.length ((i, mvRv b v) :: (mvAsc b L).filter (fun q => !(q.1 == i) && !(q.1 + 1 == i && q.2.category == 2))) → mvLr b L' ls' := by
  unfold mvSt at h
  split at h
  · rename_i hh
    cases h
    refine ⟨hh.1, fun ls' hl => ⟨by rw [List.length_set]; exact hl.1, hl.2.1, fun k u hk => ?_⟩⟩
    rw [mvGet_set hh.1] at hk
    by_cases hik : i = k
    · rw [if_pos hik] at hk
      cases hk
      subst hik
      exact hl.2.2 (i, mvRv b v) List.mem_cons_self
    · rw [if_neg hik] at hk
      refine hl.2.2 (k, mvRv b u) (List.mem_cons_of_mem _ (List.mem_filter.mpr ⟨mvAsc_mem.mpr ⟨u, hk, rfl⟩, ?_⟩))
      have h1 : ¬ (k + 1 = i ∧ (mvRv b u).category = 2) := fun ⟨q1, q2⟩ => mvPre_spec hh.2 q1 hk (by rw [← mvRv_cat b]; exact q2)
      have h2 : ¬ k = i := fun q => hik q.symm
      simp only [Bool.and_eq_true, Bool.not_eq_true', Bool.and_eq_false_iff, beq_eq_false_iff_ne, ne_eq]
      exact ⟨h2, by
        by_cases hz : k + 1 = i
        · exact Or.inr (fun z => h1 ⟨hz, z⟩)
        · exact Or.inl hz⟩
  · cases h
theorem mvSt2_spec {b : mvBs} {L L' : mvL} {i : Nat} {v : mvV} (h : mvSt2 L i v = some L') : i + 1 < L.length ∧ ∀ ls' : Array Slot, lv_has ls' L.length ((i, mvRv b v) :: (mvAsc b L).filter (fun q => !(q.1 == i) && (!(q.1 == i + 1) && !(q.1 + 1 == i && q.2.category == 2)))) → mvLr b L' ls' := by
  unfold mvSt2 at h
  split at h
  · rename_i hh
    cases h
    refine ⟨hh.1, fun ls' hl => ⟨by rw [List.length_set, List.length_set]; exact hl.1, hl.2.1, fun k u hk => ?_⟩⟩
    rw [mvGet_set (by rw [List.length_set]; exact hh.1)] at hk
    by_cases hik1 : i + 1 = k
    · rw [if_pos hik1] at hk; cases hk
    rw [if_neg hik1, mvGet_set (by omega)] at hk
    by_cases hik : i = k
    · rw [if_pos hik] at hk
      cases hk
      subst hik
      exact hl.2.2 (i, mvRv b v) List.mem_cons_self
    · rw [if_neg hik] at hk
      refine hl.2.2 (k, mvRv b u) (List.mem_cons_of_mem _ (List.mem_filter.mpr ⟨mvAsc_mem.mpr ⟨u, hk, rfl⟩, ?_⟩))
      have h1 : ¬ (k + 1 = i ∧ (mvRv b u).category = 2) := fun ⟨q1, q2⟩ => mvPre_spec hh.2 q1 hk (by rw [← mvRv_cat b]; exact q2)
      have h2 : ¬ k = i := fun q => hik q.symm
      have h3 : ¬ k = i + 1 := fun q => hik1 q.symm
      simp only [Bool.and_eq_true, Bool.not_eq_true', Bool.and_eq_false_iff, beq_eq_false_iff_ne, ne_eq]
      exact ⟨h2, h3, by
        by_cases hz : k + 1 = i
        · exact Or.inr (fun z => h1 ⟨hz, z⟩)
        · exact Or.inl hz⟩
  · cases h
theorem mvTgt_spec {pc t : Nat} {off : Int} (h : mvTgt pc off = some t) : (pc : Int) + off = (t : Int) := by
  unfold mvTgt at h
  split at h
  · rename_i u hu
    cases h
    exact hu
  · cases h
theorem mvGo_spec {t : Option Nat} {L : mvL} {S : List mvV} {σ : mvS} {z : Nat × mvL × List mvV × mvS} (h : mvGo t L S σ = some z) : ∃ u, t = some u ∧ z = (u, L, S, σ) := by
  cases t with
  | none => cases h
  | some u => cases h; exact ⟨u, rfl, rfl⟩
theorem mvLdI_spec {o : Option mvV} {pc : Nat} {L : mvL} {S : List mvV} {σ : mvS} {z : Nat × mvL × List mvV × mvS} (h : mvLdI o pc L S σ = some z) : ∃ x, o = some (mvI x) ∧ z = (pc, L, mvI x :: S, σ) := by
  unfold mvLdI at h
  split at h
  · rename_i x; cases h; exact ⟨x, rfl, rfl⟩
  · cases h
theorem mvLdJ_spec {o : Option mvV} {pc : Nat} {L : mvL} {S : List mvV} {σ : mvS} {z : Nat × mvL × List mvV × mvS} (h : mvLdJ o pc L S σ = some z) : ∃ x, o = some (mvJ x) ∧ z = (pc, L, mvJ x :: S, σ) := by
  unfold mvLdJ at h
  split at h
  · rename_i x; cases h; exact ⟨x, rfl, rfl⟩
  · cases h
theorem mvLdR_spec {o : Option mvV} {pc : Nat} {L : mvL} {S : List mvV} {σ : mvS} {z : Nat × mvL × List mvV × mvS} (h : mvLdR o pc L S σ = some z) : ∃ x, o = some (mvR x) ∧ z = (pc, L, mvR x :: S, σ) := by
  unfold mvLdR at h
  split at h
  · rename_i x; cases h; exact ⟨x, rfl, rfl⟩
  · cases h
theorem mvToL_spec {o : Option mvL} {pc : Nat} {S : List mvV} {σ : mvS} {z : Nat × mvL × List mvV × mvS} (h : mvToL o pc S σ = some z) : ∃ L, o = some L ∧ z = (pc, L, S, σ) := by
  unfold mvToL at h
  split at h
  · rename_i x; cases h; exact ⟨x, rfl, rfl⟩
  · cases h
theorem mv_lookup {α β : Type} [BEq α] [LawfulBEq α] {l : List (α × β)} {a : α} {x : β} (h : l.lookup a = some x) : (a, x) ∈ l := by
  induction l with
  | nil => cases h
  | cons q l ih =>
    obtain ⟨k, y⟩ := q
    rw [List.lookup_cons] at h
    split at h
    · rename_i hk
      cases h
      rw [beq_iff_eq] at hk
      subst hk
      exact List.mem_cons_self
    · exact List.mem_cons_of_mem _ (ih h)
