/-! counting and sorting the cuts -/
noncomputable def cntI (P : Int → Prop) (k : Int) : Int := sumI (fun i => pick (P i) 1 0) k
theorem cntI_0 {P : Int → Prop} : cntI P 0 = 0 := rfl
theorem cntI_s {P : Int → Prop} {k : Int} (h : 0 ≤ k) : cntI P (k + 1) = cntI P k + pick (P k) 1 0 := sumI_s h
theorem cntI_y {P : Int → Prop} {k : Int} (h : 0 ≤ k) (hp : P k) : cntI P (k + 1) = cntI P k + 1 := by rw [cntI_s h, pick_t hp]
theorem cntI_n {P : Int → Prop} {k : Int} (h : 0 ≤ k) (hp : ¬ P k) : cntI P (k + 1) = cntI P k := by rw [cntI_s h, pick_f hp]; omega
theorem pick01 {P : Prop} : (P ∧ pick P (1 : Int) 0 = 1) ∨ (¬ P ∧ pick P (1 : Int) 0 = 0) := by
  by_cases h : P
  · exact Or.inl ⟨h, pick_t h⟩
  · exact Or.inr ⟨h, pick_f h⟩
theorem cntI_mono {P : Int → Prop} {k m : Int} (h : 0 ≤ k) (hm : k ≤ m) : cntI P k ≤ cntI P m := by
  have key : ∀ d : Nat, cntI P k ≤ cntI P (k + d) := by
    intro d
    induction d with
    | zero => rw [show k + ((0 : Nat) : Int) = k by omega]; exact Int.le_refl _
    | succ d ih =>
      rw [show k + ((d + 1 : Nat) : Int) = (k + d) + 1 by omega, cntI_s (by omega)]
      rcases pick01 (P := P (k + d)) with ⟨-, e⟩ | ⟨-, e⟩ <;> rw [e] <;> omega
  have := key (m - k).toNat
  rwa [show k + ((m - k).toNat : Int) = m by omega] at this
theorem cntI_r {P : Int → Prop} {k : Int} (h : 0 ≤ k) : 0 ≤ cntI P k ∧ cntI P k ≤ k := by
  refine int_ind (P := fun k => 0 ≤ cntI P k ∧ cntI P k ≤ k) ⟨Int.le_refl _, Int.le_refl _⟩ ?_ k h
  intro i hi ih
  rw [cntI_s hi]
  rcases pick01 (P := P i) with ⟨-, e⟩ | ⟨-, e⟩ <;> rw [e] <;> omega
theorem cntI_lt {P : Int → Prop} {k m : Int} (h : 0 ≤ k) (hm : k < m) (hp : P k) : cntI P k < cntI P m := by
  have := cntI_mono (P := P) (k := k + 1) (m := m) (by omega) (by omega)
  rw [cntI_y h hp] at this
  omega
theorem cntI_add {P Q R : Int → Prop} {k : Int} (hk : 0 ≤ k) (h : ∀ i, 0 ≤ i → i < k → (R i ↔ P i ∨ Q i) ∧ ¬ (P i ∧ Q i)) : cntI R k = cntI P k + cntI Q k := by
  have key : ∀ m, 0 ≤ m → m ≤ k → cntI R m = cntI P m + cntI Q m := by
    refine int_ind ?_ ?_
    · intro _; rfl
    · intro i hi ih hm
      have ih := ih (by omega)
      obtain ⟨h1, h2⟩ := h i hi (by omega)
      by_cases p : P i
      · rw [cntI_y hi p, cntI_n hi (fun q => h2 ⟨p, q⟩), cntI_y hi (h1.mpr (Or.inl p)), ih]; omega
      · by_cases q : Q i
        · rw [cntI_n hi p, cntI_y hi q, cntI_y hi (h1.mpr (Or.inr q)), ih]; omega
        · rw [cntI_n hi p, cntI_n hi q, cntI_n hi (fun r => by rcases h1.mp r with r | r; exact p r; exact q r), ih]
  exact key k hk (Int.le_refl _)
theorem cntI_cg {P Q : Int → Prop} {k : Int} (h : ∀ i, 0 ≤ i → i < k → (P i ↔ Q i)) : cntI P k = cntI Q k := sumI_congr fun i h0 h1 => pick_cg (h i h0 h1)
theorem cntI_none {P : Int → Prop} {k : Int} (h : ∀ i, 0 ≤ i → i < k → ¬ P i) : cntI P k = 0 := (sumI_congr (g := fun _ => 0) fun i h0 h1 => pick_f (h i h0 h1)).trans (sumI_z k)
/-- cuts of a level before a place; cuts of all levels before one -/
def lvP (C : Cmp) (l j : Int) : Prop := Cons C (ctI C j) ∧ lev (ctI C j) = l
noncomputable def lc (C : Cmp) (l i : Int) : Int := cntI (lvP C l) i
noncomputable def bl (C : Cmp) (l : Int) : Int := cntI (fun j => Cons C (ctI C j) ∧ lev (ctI C j) < l) (NP C)
theorem bl_s {C : Cmp} (W : Wf C) {l : Int} : bl C (l + 1) = bl C l + lc C l (NP C) := by
  have := NP_le W
  refine cntI_add (by omega) (fun i i0 i1 => ⟨⟨fun z => ?_, fun z => ?_⟩, fun z => ?_⟩)
  · by_cases h : lev (ctI C i) = l
    · exact Or.inr ⟨z.1, h⟩
    · exact Or.inl ⟨z.1, by have := z.2; omega⟩
  · rcases z with z | z
    · exact ⟨z.1, by have := z.2; omega⟩
    · exact ⟨z.1, by have := z.2; omega⟩
  · have := z.1.2; have := z.2.2; omega
theorem bl_0 {C : Cmp} (W : Wf C) : bl C 0 = 0 := cntI_none (fun i i0 i1 => by have := lev_nn (ctI_in W i0 i1); omega)
theorem bl_r {C : Cmp} (W : Wf C) (l : Int) : 0 ≤ bl C l ∧ bl C l ≤ NP C := cntI_r (by have := NP_le W; omega)
theorem bl_mono {C : Cmp} (W : Wf C) {l m : Int} (hm : l ≤ m) : bl C l ≤ bl C m := by
  refine sumI_le (by have := NP_le W; omega) (fun i i0 i1 => ?_)
  rcases pick01 (P := Cons C (ctI C i) ∧ lev (ctI C i) < l) with ⟨z, e⟩ | ⟨z, e⟩
  · rw [e, pick_t ⟨z.1, by omega⟩]; exact Int.le_refl _
  · rw [e]
    rcases pick01 (P := Cons C (ctI C i) ∧ lev (ctI C i) < m) with ⟨z, e⟩ | ⟨z, e⟩ <;> rw [e] <;> omega
theorem lc_r {C : Cmp} {l i : Int} (i0 : 0 ≤ i) : 0 ≤ lc C l i ∧ lc C l i ≤ i := cntI_r i0
/-- the rank of a cut -/
noncomputable def rk (C : Cmp) (j : Int) : Int := bl C (lev (ctI C j)) + lc C (lev (ctI C j)) j
theorem rk_r {C : Cmp} (W : Wf C) {j : Int} (j0 : 0 ≤ j) (j1 : j < NP C) (hk : Cons C (ctI C j)) : bl C (lev (ctI C j)) ≤ rk C j ∧ rk C j < bl C (lev (ctI C j) + 1) := by
  have a := lc_r (C := C) (l := lev (ctI C j)) j0
  have b := cntI_lt (P := lvP C (lev (ctI C j))) j0 j1 ⟨hk, rfl⟩
  have c := bl_s W (l := lev (ctI C j))
  unfold rk
  unfold lc at *
  omega
theorem rk_lt {C : Cmp} (W : Wf C) {i j : Int} (i0 : 0 ≤ i) (i1 : i < NP C) (hi : Cons C (ctI C i)) (j0 : 0 ≤ j) (j1 : j < NP C) (hj : Cons C (ctI C j)) (h : lev (ctI C i) < lev (ctI C j) ∨ (lev (ctI C i) = lev (ctI C j) ∧ i < j)) : rk C i < rk C j := by
  have a := rk_r W i0 i1 hi
  have b := rk_r W j0 j1 hj
  rcases h with h | ⟨h, l⟩
  · have := bl_mono W (C := C) (l := lev (ctI C i) + 1) (m := lev (ctI C j)) (by omega)
    omega
  · have := cntI_lt (P := lvP C (lev (ctI C i))) i0 l ⟨hi, rfl⟩
    unfold rk
    rw [← h]
    unfold lc
    omega
theorem rk_ne {C : Cmp} (W : Wf C) {i j : Int} (i0 : 0 ≤ i) (i1 : i < NP C) (hi : Cons C (ctI C i)) (j0 : 0 ≤ j) (j1 : j < NP C) (hj : Cons C (ctI C j)) (h : ¬ i = j) : ¬ rk C i = rk C j := by
  by_cases l : lev (ctI C i) < lev (ctI C j)
  · have := rk_lt W i0 i1 hi j0 j1 hj (Or.inl l); omega
  · by_cases l2 : lev (ctI C j) < lev (ctI C i)
    · have := rk_lt W j0 j1 hj i0 i1 hi (Or.inl l2); omega
    · by_cases l3 : i < j
      · have := rk_lt W i0 i1 hi j0 j1 hj (Or.inr ⟨by omega, l3⟩); omega
      · have := rk_lt W j0 j1 hj i0 i1 hi (Or.inr ⟨by omega, by omega⟩); omega
/-- all cuts have a rank and all ranks a cut -/
theorem bl_all {C : Cmp} (W : Wf C) {l : Int} (h : 17 ≤ l) : bl C l = bl C 17 := cntI_cg (fun i i0 i1 => by
  have := lev_le (ctI_in W i0 i1)
  have := W.2.2.2.2.1
  exact ⟨fun z => ⟨z.1, by omega⟩, fun z => ⟨z.1, by omega⟩⟩)
theorem cntI_at {P : Int → Prop} {k r : Int} (hk : 0 ≤ k) (r0 : 0 ≤ r) (h : r < cntI P k) : ∃ i, 0 ≤ i ∧ i < k ∧ P i ∧ cntI P i = r := by
  have key : ∀ m, 0 ≤ m → m ≤ k → r < cntI P m → ∃ i, 0 ≤ i ∧ i < k ∧ P i ∧ cntI P i = r := by
    refine int_ind ?_ ?_
    · intro _ h; rw [cntI_0] at h; omega
    · intro i hi ih hm hs
      by_cases c : r < cntI P i
      · exact ih (by omega) c
      · by_cases p : P i
        · rw [cntI_y hi p] at hs
          exact ⟨i, hi, by omega, p, by omega⟩
        · rw [cntI_n hi p] at hs; omega
  exact key k hk (Int.le_refl _) h
theorem rk_at {C : Cmp} (W : Wf C) {r : Int} (r0 : 0 ≤ r) (r1 : r < bl C 17) : ∃ i, 0 ≤ i ∧ i < NP C ∧ Cons C (ctI C i) ∧ rk C i = r := by
  have nle := NP_le W
  have key : ∀ l, 0 ≤ l → l ≤ 17 → r < bl C l → ∃ i, 0 ≤ i ∧ i < NP C ∧ Cons C (ctI C i) ∧ rk C i = r := by
    refine int_ind ?_ ?_
    · intro _ h; rw [bl_0 W] at h; omega
    · intro l l0 ih hl h
      by_cases c : r < bl C l
      · exact ih (by omega) c
      · rw [bl_s W] at h
        obtain ⟨i, i0, i1, ⟨i2, i3⟩, i4⟩ := cntI_at (P := lvP C l) (k := NP C) (r := r - bl C l) (by omega) (by omega) (by unfold lc at h; omega)
        refine ⟨i, i0, i1, i2, ?_⟩
        unfold rk
        rw [i3]
        unfold lc
        omega
  exact key 17 (by omega) (by omega) r1
/-- the rows of the levels -/
def LtS (a : Nat) (h : Nat → Int → Int) (C : Cmp) : Prop := h a 1 = bl C 17 ∧ (∀ l, 0 ≤ l → l < 18 → h (a + 1) l = bl C l) ∧ ∀ i, 0 ≤ i → i < NP C → Cons C (ctI C i) → h (a + 4) (rk C i) = i
section LT
variable {sw : Bool} {g : Nat → Nat → Nat} {h : Nat → Int → Int} {a e : Nat} {C : Cmp} {c : Int → Int}
theorem LT_sortByLevel_spec (hG : Gok sw g) (ha : LtId a) (V : Valid C) (hn : 1 ≤ cN C) (L : LtN a h C) (T : ∀ j, 0 ≤ j → j < NP C → h (a + 5) j = npc C (ctI C j)) {K : (Nat → Int → Int) → Prop} (k : ∀ h', (∀ b, ¬ b = a → ¬ b = a + 1 → ¬ b = a + 4 → h' b = h b) → (∀ i, ¬ i = 1 → h' a i = h a i) → LtS a h' C → K h') : LT_sortByLevel g h a K := by
  have W := V.1
  have hN := W.2.1
  have nle := NP_le W
  have lr : ∀ i, 0 ≤ i → i < NP C → 0 ≤ lev (ctI C i) ∧ lev (ctI C i) < 17 := fun i i0 i1 => by
    have := lev_le (ctI_in W i0 i1); have := lev_nn (ctI_in W i0 i1); have := W.2.2.2.2.1; omega
  refine LT_sortByLevel_wp hG ha ?_
  refine AR_fill_spec hG (miA1 ha) (by decide) ?_
  have third : ∀ m, 0 ≤ m → m ≤ NP C → ∀ h', (∀ b, ¬ b = a → ¬ b = a + 1 → ¬ b = a + 4 → h' b = h b) → (∀ i, ¬ i = 1 → h' a i = h a i) → h' a 1 = bl C 17 → (∀ l, 0 ≤ l → l < 18 → h' (a + 1) l = bl C l + lc C l m) → (∀ j, m ≤ j → j < NP C → Cons C (ctI C j) → h' (a + 4) (rk C j) = j) → ∀ u, LT_sortByLevel_103 g h' a (m - 1) u K := by
    refine int_ind ?_ ?_
    · intro _ h' F F2 I1 I2 I3 u
      exact LT_sortByLevel_103_wp hG ha ⟨fun _ => k h' F F2 ⟨I1, fun l l0 l1 => by rw [I2 l l0 l1]; unfold lc; rw [cntI_0]; omega, fun i i0 i1 => I3 i i0 i1⟩, fun z => absurd z (by omega)⟩
    · intro i i0 ih hi h' F F2 I1 I2 I3 u
      rw [show i + 1 - 1 = i by omega]
      have ci := ctI_in W i0 (show i < NP C by omega)
      refine LT_sortByLevel_103_wp hG ha ⟨fun z => absurd z (by omega), fun _ => ⟨⟨i0, by omega⟩, fun hz => ?_, fun hz => ⟨⟨i0, by omega⟩, ?_⟩⟩⟩
      · rw [F (a + 5) (by omega) (by omega) (by omega), T i i0 (by omega)] at hz
        have nk : ¬ Cons C (ctI C i) := fun y => by have := (npc_pos V ci).mpr y; omega
        rw [mwi (z := i + -1) (by omega) (by omega)]
        refine ih (by omega) h' F F2 I1 (fun l l0 l1 => ?_) (fun j j0 j1 hj => ?_) _
        · rw [I2 l l0 l1]; unfold lc; rw [cntI_n i0 (fun z => nk z.1)]
        · by_cases ej : j = i
          · rw [ej] at hj; exact absurd hj nk
          · exact I3 j (by omega) j1 hj
      · rw [F (a + 5) (by omega) (by omega) (by omega), T i i0 (by omega)] at hz
        have hk := (npc_pos V ci).mp hz
        have lv := lr i i0 (by omega)
        have rr := rk_r W i0 (by omega) hk
        have b1 := bl_r W (lev (ctI C i) + 1)
        have b0 := bl_r W (lev (ctI C i))
        rw [F (a + 3) (by omega) (by omega) (by omega), L.2.2 i i0 (by omega)]
        refine RC_levelOf_spec hG W hn ci ⟨⟨by omega, by omega⟩, ⟨by omega, by omega⟩, ?_⟩
        have e1 : h' (a + 1) (lev (ctI C i)) = rk C i + 1 := by
          rw [I2 _ (by omega) (by omega)]
          unfold rk lc
          rw [cntI_y i0 ⟨hk, rfl⟩]
          omega
        rintro h3 rfl
        rw [e1, mwi (z := rk C i + 1 - 1) (by omega) (by omega), show rk C i + 1 - 1 = rk C i by omega, upd_at]
        refine ⟨⟨by omega, by omega⟩, ⟨by omega, by omega⟩, ?_⟩
        rintro h4 rfl
        rw [mwi (z := i + -1) (by omega) (by omega)]
        refine ih (by omega) _ (fun b n1 n2 n3 => ?_) (fun q hq => ?_) ?_ (fun l l0 l1 => ?_) (fun j j0 j1 hj => ?_) _
        · rw [upd_ob n3, upd_ob n2]; exact F b n1 n2 n3
        · rw [upd_ob (by omega), upd_ob (by omega)]; exact F2 q hq
        · rw [upd_ob (by omega), upd_ob (by omega)]; exact I1
        · rw [upd_ob (by omega)]
          by_cases el : l = lev (ctI C i)
          · rw [el, upd_at]; rfl
          · rw [upd_ix el, I2 l l0 l1]
            unfold lc
            rw [cntI_n i0 (fun z => el z.2.symm)]
        · by_cases ej : j = i
          · rw [ej, upd_at]
          · rw [upd_ix (rk_ne W (by omega) j1 hj i0 (by omega) hk ej), upd_ob (by omega)]
            exact I3 j (by omega) j1 hj
  have second : ∀ l, l ≤ 18 → 1 ≤ l → ∀ h', (∀ b, ¬ b = a → ¬ b = a + 1 → ¬ b = a + 4 → h' b = h b) → (∀ i, ¬ i = 1 → h' a i = h a i) → (∀ m, 0 ≤ m → m < l → h' (a + 1) m = bl C (m + 1)) → (∀ m, l ≤ m → m < 18 → h' (a + 1) m = lc C m (NP C)) → ∀ u, LT_sortByLevel_53 g h' a l u K := by
    refine up_ind ?_ ?_
    · intro _ h' F F2 I1 I2 u
      refine LT_sortByLevel_53_wp hG ha ⟨fun _ => ?_, fun z => absurd z (by omega)⟩
      rintro h1 rfl
      have e2 : mvUpd h' a 1 (h' (a + 1) 16) a 2 = NP C := by rw [upd_ix (by omega), F2 2 (by omega)]; exact L.1
      rw [e2, mwi (z := NP C - 1) (by omega) (by omega)]
      rintro v2 rfl
      refine third (NP C) (by omega) (Int.le_refl _) _ (fun b n1 n2 n3 => ?_) (fun i hi => ?_) ?_ (fun m m0 m1 => ?_) (fun j j0 j1 => by omega) _
      · rw [upd_ob n1]; exact F b n1 n2 n3
      · rw [upd_ix hi]; exact F2 i hi
      · rw [upd_at, I1 16 (by omega) (by omega)]; rfl
      · rw [upd_ob (by omega), I1 m m0 m1, bl_s W]
    · intro l hl ih l1 h' F F2 I1 I2 u
      refine LT_sortByLevel_53_wp hG ha ⟨fun z => absurd z (by omega), fun _ => ?_⟩
      rw [mwi (z := l - 1) (by omega) (by omega), I1 (l - 1) (by omega) (by omega), I2 l (Int.le_refl _) hl, show l - 1 + 1 = l by omega]
      have b1 := bl_r W (l + 1)
      rw [bl_s W] at b1
      rw [mwi (z := lc C l (NP C) + bl C l) (by omega) (by omega), mwi (z := l + 1) (by omega) (by omega)]
      refine ⟨⟨by omega, by omega⟩, ⟨by omega, by omega⟩, ⟨by omega, by omega⟩, ?_⟩
      rintro h3 rfl
      refine ih (by omega) _ (fun b n1 n2 n3 => ?_) (fun i hi => ?_) (fun m m0 m1 => ?_) (fun m m0 m1 => ?_) _
      · rw [upd_ob n2]; exact F b n1 n2 n3
      · rw [upd_ob (by omega)]; exact F2 i hi
      · by_cases em : m = l
        · rw [em, upd_at, bl_s W]; omega
        · rw [upd_ix em]; exact I1 m m0 (by omega)
      · rw [upd_ix (by omega)]; exact I2 m (by omega) m1
  have first : ∀ i, i ≤ NP C → 0 ≤ i → ∀ h', (∀ b, ¬ b = a → ¬ b = a + 1 → ¬ b = a + 4 → h' b = h b) → (∀ i, ¬ i = 1 → h' a i = h a i) → (∀ m, 0 ≤ m → m < 18 → h' (a + 1) m = lc C m i) → ∀ u, LT_sortByLevel_10 g h' a i u K := by
    refine up_ind ?_ ?_
    · intro _ h' F F2 I u
      refine LT_sortByLevel_10_wp hG ha ⟨fun _ => ?_, fun z => absurd z (by rw [F2 2 (by omega), L.1]; omega)⟩
      refine second 1 (by omega) (by omega) h' F F2 (fun m m0 m1 => ?_) (fun m m0 m1 => I m (by omega) m1) _
      rw [show m = 0 by omega, I 0 (by omega) (by omega), bl_s W, bl_0 W]; omega
    · intro i hi ih i0 h' F F2 I u
      have ci := ctI_in W i0 hi
      refine LT_sortByLevel_10_wp hG ha ⟨fun z => absurd z (by rw [F2 2 (by omega), L.1]; omega), fun _ => ⟨⟨i0, by omega⟩, fun hz => ?_, fun hz => ⟨⟨i0, by omega⟩, ?_⟩⟩⟩
      · rw [F (a + 5) (by omega) (by omega) (by omega), T i i0 (by omega)] at hz
        have nk : ¬ Cons C (ctI C i) := fun y => by have := (npc_pos V ci).mpr y; omega
        rw [mwi (z := i + 1) (by omega) (by omega)]
        refine ih (by omega) h' F F2 (fun m m0 m1 => ?_) _
        rw [I m m0 m1]; unfold lc; rw [cntI_n i0 (fun z => nk z.1)]
      · rw [F (a + 5) (by omega) (by omega) (by omega), T i i0 (by omega)] at hz
        have hk := (npc_pos V ci).mp hz
        have lv := lr i i0 (by omega)
        have lr2 := lc_r (C := C) (l := lev (ctI C i)) i0
        rw [F (a + 3) (by omega) (by omega) (by omega), L.2.2 i i0 (by omega)]
        refine RC_levelOf_spec hG W hn ci ⟨⟨by omega, by omega⟩, ⟨by omega, by omega⟩, ?_⟩
        rintro h3 rfl
        rw [I _ lv.1 (by omega), mwi (z := lc C (lev (ctI C i)) i + 1) (by omega) (by omega), mwi (z := i + 1) (by omega) (by omega)]
        refine ih (by omega) _ (fun b n1 n2 n3 => ?_) (fun i hi => ?_) (fun m m0 m1 => ?_) _
        · rw [upd_ob n2]; exact F b n1 n2 n3
        · rw [upd_ob (by omega)]; exact F2 i hi
        · by_cases em : m = lev (ctI C i)
          · rw [em, upd_at]; unfold lc; rw [cntI_y i0 ⟨hk, rfl⟩]
          · rw [upd_ix em, I m m0 m1]
            unfold lc
            rw [cntI_n i0 (fun z => em z.2.symm)]
  refine first 0 (by omega) (Int.le_refl _) _ (fun b n1 n2 n3 => ?_) (fun i hi => ?_) (fun m m0 m1 => ?_) _
  · funext i; rw [if_neg (fun z => n2 z.1)]
  · rw [if_neg (fun z => by omega)]
  · rw [if_pos ⟨rfl, m0, by omega⟩]; rfl
end LT
