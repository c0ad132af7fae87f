/-! the model: numbers of cuts -/
theorem wid_out {C : Cmp} (W : Wf C) {p : Int} (h : ¬ (0 ≤ p ∧ p < cN C)) : wid C p = 1 := by unfold wid; rw [W.2.2.2.1 p h]; rfl
def prodW (C : Cmp) (k : Int) : Int := it (fun p s => s * wid C p) 1 k
theorem prodW_s {C : Cmp} {k : Int} (h : 0 ≤ k) : prodW C (k + 1) = prodW C k * wid C k := by unfold prodW; rw [it_s h]
theorem prodW_4 {C : Cmp} : prodW C 4 = NP C := by
  have e0 : prodW C 1 = 1 * wid C 0 := prodW_s (k := 0) (by omega)
  have e1 : prodW C 2 = prodW C 1 * wid C 1 := prodW_s (k := 1) (by omega)
  have e2 : prodW C 3 = prodW C 2 * wid C 2 := prodW_s (k := 2) (by omega)
  have e3 : prodW C 4 = prodW C 3 * wid C 3 := prodW_s (k := 3) (by omega)
  rw [e3, e2, e1, e0, Int.one_mul]; rfl
theorem prodW_N {C : Cmp} (W : Wf C) : prodW C (cN C) = NP C := by
  have hN := W.2.1
  have key : ∀ k : Int, k ≤ 4 → cN C ≤ k → prodW C k = NP C := by
    refine up_ind ?_ ?_
    · intro _; exact prodW_4
    · intro k hk ih hc
      have := ih (by omega)
      have h0 := W.1
      rw [prodW_s (by omega), wid_out W (by omega)] at this
      omega
  exact key _ hN (Int.le_refl _)
theorem prodW_r {C : Cmp} (W : Wf C) {k : Int} (k0 : 0 ≤ k) (k4 : k ≤ 4) : 1 ≤ prodW C k ∧ prodW C k ≤ 625 := by
  have n := NP_le W
  have a1 : ∀ k, 0 ≤ k → 1 ≤ prodW C k := by
    refine int_ind (by show (1 : Int) ≤ 1; omega) ?_
    intro i i0 ih
    rw [prodW_s i0]
    have := le_mul1 (a := prodW C i) (by omega) (wid_r W i).1
    omega
  have a2 : ∀ k, k ≤ 4 → 0 ≤ k → prodW C k ≤ 625 := by
    refine up_ind ?_ ?_
    · intro _; rw [prodW_4]; omega
    · intro i hi ih i0
      have i1 := ih (by omega)
      rw [prodW_s i0] at i1
      have := le_mul1 (a := prodW C i) (by have := a1 i i0; omega) (wid_r W i).1
      omega
  exact ⟨a1 k k0, a2 k k4 k0⟩
theorem st_last {C : Cmp} (W : Wf C) (hn : 1 ≤ cN C) : st C (cN C - 1) = 1 := by
  have hN := W.2.1
  have key : ∀ p, p ≤ 3 → cN C - 1 ≤ p → st C p = 1 := by
    refine up_ind ?_ ?_
    · intro _; rfl
    · intro p hp ih hc
      have e := stx_s (C := C) (p := p + 1) (by omega) (by omega)
      rw [ih (by omega), wid_out W (by omega), show p + 1 - 1 = p by omega] at e
      unfold stx at e
      rw [if_neg (by omega)] at e
      omega
  exact key _ (by omega) (Int.le_refl _)
theorem ctI_div {C : Cmp} (W : Wf C) {x p : Int} (x0 : 0 ≤ x) (x1 : x < NP C) (p0 : 0 ≤ p) (p4 : p < 4) : ctI C x p = x / st C p % wid C p := by
  have w1 := wid_r W 1; have w2 := wid_r W 2; have w3 := wid_r W 3
  have c0 := (ctI_in W x0 x1).w 0
  unfold ctI st
  unfold ctI at c0
  rcases (show p = 0 ∨ p = 1 ∨ p = 2 ∨ p = 3 by omega) with rfl | rfl | rfl | rfl
  · simp only [if_true] at c0 ⊢
    have e : x / (wid C 1 * wid C 2 * wid C 3) = x / wid C 3 / wid C 2 / wid C 1 := by
      rw [Int.ediv_ediv_of_nonneg (by omega), Int.ediv_ediv_of_nonneg (by omega)]
      congr 1; grind
    rw [e, Int.emod_eq_of_lt c0.1 c0.2]
  · simp
    rw [Int.ediv_ediv_of_nonneg (by omega)]
    congr 2; grind
  · simp
  · simp
theorem div_st {C : Cmp} (W : Wf C) {x p : Int} (p0 : 0 ≤ p) (p4 : p < 4) : x / st C p / wid C p = x / stx C (p - 1) := by
  have := st_pos W p
  rw [Int.ediv_ediv_of_nonneg (by omega), stx_s p0 p4]
/-- Horner in mixed digits -/
def ixH (C : Cmp) (c : Int → Int) (k : Int) : Int := it (fun p s => s * wid C p + c p) 0 k
theorem ixH_s {C : Cmp} {c : Int → Int} {k : Int} (h : 0 ≤ k) : ixH C c (k + 1) = ixH C c k * wid C k + c k := by unfold ixH; rw [it_s h]
theorem ixH_4 {C : Cmp} {c : Int → Int} : ixH C c 4 = ixc C c := by
  have e0 : ixH C c 1 = 0 * wid C 0 + c 0 := ixH_s (k := 0) (by omega)
  have e1 : ixH C c 2 = ixH C c 1 * wid C 1 + c 1 := ixH_s (k := 1) (by omega)
  have e2 : ixH C c 3 = ixH C c 2 * wid C 2 + c 2 := ixH_s (k := 2) (by omega)
  have e3 : ixH C c 4 = ixH C c 3 * wid C 3 + c 3 := ixH_s (k := 3) (by omega)
  rw [e3, e2, e1, e0, Int.zero_mul, Int.zero_add]; rfl
theorem ixH_N {C : Cmp} (W : Wf C) {c : Int → Int} (hi : In C c) : ixH C c (cN C) = ixc C c := by
  have hN := W.2.1
  have key : ∀ k : Int, k ≤ 4 → cN C ≤ k → ixH C c k = ixc C c := by
    refine up_ind ?_ ?_
    · intro _; exact ixH_4
    · intro k hk ih hc
      have := ih (by omega)
      have h0 := W.1
      rw [ixH_s (by omega), wid_out W (by omega), hi.out W (by omega)] at this
      omega
  exact key _ hN (Int.le_refl _)
theorem ixH_r {C : Cmp} (W : Wf C) {c : Int → Int} (hi : In C c) {k : Int} (k0 : 0 ≤ k) (k4 : k ≤ 4) : 0 ≤ ixH C c k ∧ ixH C c k ≤ 625 := by
  have n := NP_le W
  have a1 : ∀ k, 0 ≤ k → 0 ≤ ixH C c k := by
    refine int_ind (by show (0 : Int) ≤ 0; omega) ?_
    intro i i0 ih
    rw [ixH_s i0]
    have := le_mul1 (a := ixH C c i) (by omega) (wid_r W i).1
    have := hi i
    omega
  have a2 : ∀ k, k ≤ 4 → 0 ≤ k → ixH C c k ≤ 625 := by
    refine up_ind ?_ ?_
    · intro _; rw [ixH_4]; have := ixc_r hi; omega
    · intro i hi2 ih i0
      have i1 := ih (by omega)
      rw [ixH_s i0] at i1
      have := le_mul1 (a := ixH C c i) (by have := a1 i i0; omega) (wid_r W i).1
      have := hi i
      omega
  exact ⟨a1 k k0, a2 k k4 k0⟩
/-- a cut's number as far as k processes -/
def enP (k : Int) (c : Int → Int) : Int := if k = 0 then 0 else en k c
theorem enP_s {k : Int} {c : Int → Int} (k0 : 0 ≤ k) (k4 : k < 4) : enP (k + 1) c = enP k c * 10 + c k := by
  unfold enP en
  rcases (show k = 0 ∨ k = 1 ∨ k = 2 ∨ k = 3 by omega) with rfl | rfl | rfl | rfl <;> simp <;> omega
theorem enP_r {c : Int → Int} (hc : Dg 4 c) {k : Int} (k0 : 0 ≤ k) (k4 : k ≤ 4) : 0 ≤ enP k c ∧ enP k c < 10000 := by
  unfold enP
  split
  · omega
  · have := en_lt (n := k) (c := c) (by omega) (fun p p0 p1 => hc p p0 (by omega))
    have := ten_le k
    omega
section MD
variable {sw : Bool} {g : Nat → Nat → Nat} {h : Nat → Int → Int} {C : Cmp} {c : Int → Int} {w : Wsh}
theorem MD_cutsAll_spec (hG : Gok sw g) (R : MdR h C) (W : Wf C) {K : Int → (Nat → Int → Int) → Prop} (k : K (NP C) h) : MD_cutsAll g h K := by
  refine MD_cutsAll_wp hG ?_
  have hN := W.2.1
  have key : ∀ p : Int, p ≤ cN C → 0 ≤ p → MD_cutsAll_4 g h (prodW C p) p K := by
    refine up_ind ?_ ?_
    · intro _
      exact MD_cutsAll_4_wp hG ⟨fun _ => by rw [prodW_N W]; exact k, fun z => absurd z (by rw [R.1]; omega)⟩
    · intro p hp ih p0
      have ih := ih (by omega)
      have a := prodW_r W (k := p + 1) (by omega) (by omega)
      have b := W.sz p
      rw [prodW_s p0] at ih a
      unfold wid at ih a
      refine MD_cutsAll_4_wp hG ⟨fun z => absurd z (by rw [R.1]; omega), fun _ => ?_⟩
      simp (disch := omega) only [R.2.1, mwi, forall_eq, bd]
      exact ih
  exact key 0 W.1 (Int.le_refl _)
theorem MD_stride_spec (hG : Gok sw g) (R : MdR h C) (W : Wf C) {p : Int} {K : Int → (Nat → Int → Int) → Prop} (p0 : 0 ≤ p) (p1 : p < cN C) (k : K (st C p) h) : MD_stride g h p K := by
  refine MD_stride_wp hG ?_
  have hN := W.2.1
  have n := NP_le W
  have sle := stx_le W (p := p) (by omega)
  unfold stx at sle
  rw [if_neg (by omega)] at sle
  have key : ∀ q : Int, q ≤ cN C → ∀ x u, p + 1 ≤ q → 1 ≤ x → x * st C (q - 1) = st C p → MD_stride_6 g h u x q K := by
    refine up_ind ?_ ?_
    · intro x u _ _ e
      rw [st_last W (by omega), Int.mul_one] at e
      exact MD_stride_6_wp hG ⟨fun _ => by rw [e]; exact k, fun z => absurd z (by rw [R.1]; omega)⟩
    · intro q hq ih x u q0 x1 e
      have s1 := stx_s (C := C) (p := q) (by omega) (by omega)
      unfold stx at s1
      rw [if_neg (by omega)] at s1
      have sq := st_pos W q
      have wq := wid_r W q
      have b := W.sz q
      have e2 : x * wid C q * st C q = st C p := by rw [← e, ← s1]; grind
      have l1 := le_mul1 (a := x) (by omega) wq.1
      have l2 := le_mul1 (a := x * wid C q) (by omega) sq
      have ih := fun u => ih (x * wid C q) u (by omega) (by omega) (by rw [show q + 1 - 1 = q by omega]; exact e2)
      unfold wid at ih l1 l2 e2
      refine MD_stride_6_wp hG ⟨fun z => absurd z (by rw [R.1]; omega), fun _ => ?_⟩
      simp (disch := omega) only [R.2.1, mwi, forall_eq, bd]
      exact ih _
  have h0 := key (p + 1) (by omega) 1 (some p) (Int.le_refl _) (Int.le_refl _) (by rw [show p + 1 - 1 = p by omega, Int.one_mul])
  simp (disch := omega) only [mwi, forall_eq]
  exact h0
theorem MD_take_spec (hG : Gok sw g) (R : MdR h C) (W : Wf C) (hn : 1 ≤ cN C) {x : Int} {K : (Nat → Int → Int) → Prop} (x0 : 0 ≤ x) (x1 : x < NP C) (k : ∀ h', (∀ b, ¬ b = 81 → h' b = h b) → At h' C (ctI C x) → K h') : MD_take g h x K := by
  refine MD_take_wp hG ?_
  have hN := W.2.1
  have n := NP_le W
  have key : ∀ j : Int, 0 ≤ j → j ≤ cN C → ∀ h' u, (∀ b, ¬ b = 81 → h' b = h b) → (∀ q, j ≤ q → q < cN C → h' 81 q = ctI C x q) → MD_take_9 g h' u (x / stx C (j - 1)) (j - 1) K := by
    refine int_ind ?_ ?_
    · intro _ h' u F D
      exact MD_take_9_wp hG ⟨fun _ => k h' F (fun q q0 q1 => D q q0 q1), fun z => absurd z (by omega)⟩
    · intro j j0 ih hj h' u F D
      have sx := stx_le W (p := j) (by omega)
      have wj := wid_r W j
      have b := W.sz j
      have d1 : 0 ≤ x / stx C j ∧ x / stx C j ≤ x := ⟨Int.ediv_nonneg x0 (by omega), Int.ediv_le_self _ x0⟩
      have ej : h' 69 j = cS C j := by rw [F 69 (by omega)]; exact R.2.1 j j0 (by omega)
      have es : stx C j = st C j := by unfold stx; rw [if_neg (by omega)]
      have ew : wid C j = cS C j + 1 := rfl
      have ed : x / stx C j / wid C j = x / stx C (j - 1) := by rw [es]; exact div_st W j0 (by omega)
      have d2 : 0 ≤ x / stx C j / wid C j ∧ x / stx C j / wid C j ≤ x / stx C j := ⟨Int.ediv_nonneg d1.1 (by omega), Int.ediv_le_self _ d1.1⟩
      rw [show j + 1 - 1 = j by omega]
      refine MD_take_9_wp hG ⟨fun z => absurd z (by omega), fun _ => ?_⟩
      simp (disch := omega) only [ej, mwi, forall_eq, bd, nz, upd_ob, tdv, tmd]
      rw [← ew, mwi (z := x / stx C j / wid C j) (by omega) (by omega), ed, show j + -1 = j - 1 by omega]
      refine ih (by omega) _ u (fun b nb => by rw [upd_ob nb]; exact F b nb) (fun q q0 q1 => ?_)
      by_cases e : q = j
      · rw [e, upd_at, ctI_div W x0 x1 j0 (by omega), es]
      · rw [upd_ix e]; exact D q (by omega) q1
  have h0 := key (cN C) W.1 (Int.le_refl _) h (some x) (fun _ _ => rfl) (fun q q0 q1 => by omega)
  have es : stx C (cN C - 1) = 1 := by unfold stx; rw [if_neg (by omega)]; exact st_last W hn
  rw [es, Int.ediv_one] at h0
  simp (disch := omega) only [R.1, mwi, forall_eq]
  exact h0
theorem MD_indexNow_spec (hG : Gok sw g) (R : MdR h C) (W : Wf C) (A : At h C c) (hi : In C c) {K : Int → (Nat → Int → Int) → Prop} (k : K (ixc C c) h) : MD_indexNow g h K := by
  refine MD_indexNow_wp hG ?_
  have hN := W.2.1
  have key : ∀ p : Int, p ≤ cN C → 0 ≤ p → MD_indexNow_4 g h (ixH C c p) p K := by
    refine up_ind ?_ ?_
    · intro _
      exact MD_indexNow_4_wp hG ⟨fun _ => by rw [ixH_N W hi]; exact k, fun z => absurd z (by rw [R.1]; omega)⟩
    · intro p hp ih p0
      have ih := ih (by omega)
      have a := ixH_r W hi (k := p + 1) (by omega) (by omega)
      have a' := ixH_r W hi (k := p) (by omega) (by omega)
      have b := W.sz p
      have cp := hi p
      rw [ixH_s p0] at ih a
      have wp := le_mul1 (a := ixH C c p) a'.1 (wid_r W p).1
      unfold wid at ih a wp
      refine MD_indexNow_4_wp hG ⟨fun z => absurd z (by rw [R.1]; omega), fun _ => ?_⟩
      simp (disch := omega) only [R.2.1, A p p0 hp, mwi, forall_eq, bd]
      exact ih
  exact key 0 W.1 (Int.le_refl _)
theorem MD_toldNow_spec (hG : Gok sw g) (R : MdR h C) (W : Wf C) (hn : 1 ≤ cN C) (A : At h C c) (hc : Dg 4 c) {K : Int → (Nat → Int → Int) → Prop} (k : K (en (cN C) c) h) : MD_toldNow g h K := by
  refine MD_toldNow_wp hG ?_
  have hN := W.2.1
  have key : ∀ p : Int, p ≤ cN C → 0 ≤ p → MD_toldNow_4 g h (enP p c) p K := by
    refine up_ind ?_ ?_
    · intro _
      exact MD_toldNow_4_wp hG ⟨fun _ => by unfold enP; rw [if_neg (by omega)]; exact k, fun z => absurd z (by rw [R.1]; omega)⟩
    · intro p hp ih p0
      have ih := ih (by omega)
      have a := enP_r hc (k := p) (by omega) (by omega)
      have cp := hc p p0 (by omega)
      rw [enP_s p0 (by omega)] at ih
      refine MD_toldNow_4_wp hG ⟨fun z => absurd z (by rw [R.1]; omega), fun _ => ?_⟩
      simp (disch := omega) only [A p p0 hp, mwi, forall_eq, bd]
      exact ih
  exact key 0 W.1 (Int.le_refl _)
theorem MD_levelNow_spec (hG : Gok sw g) (R : MdR h C) (W : Wf C) (A : At h C c) (hi : In C c) {K : Int → (Nat → Int → Int) → Prop} (k : K (lev c) h) : MD_levelNow g h K := by
  refine MD_levelNow_wp hG ?_
  have hN := W.2.1
  have key : ∀ p : Int, p ≤ cN C → 0 ≤ p → 0 ≤ sumI c p ∧ sumI c p ≤ 9 * p → MD_levelNow_4 g h (sumI c p) p K := by
    refine up_ind ?_ ?_
    · intro _ _
      exact MD_levelNow_4_wp hG ⟨fun _ => by rw [sum_lev W hi]; exact k, fun z => absurd z (by rw [R.1]; omega)⟩
    · intro p hp ih p0 a
      have ih := ih (by omega)
      have cp := hi p
      have b := W.sz p
      rw [sumI_s p0] at ih
      refine MD_levelNow_4_wp hG ⟨fun z => absurd z (by rw [R.1]; omega), fun _ => ?_⟩
      simp (disch := omega) only [A p p0 hp, mwi, forall_eq, bd]
      exact ih (by omega)
  exact key 0 W.1 (Int.le_refl _) (by show (0 : Int) ≤ 0 ∧ (0 : Int) ≤ 9 * 0; omega)
theorem MD_takesTold_spec (hG : Gok sw g) (R : MdR h C) (W : Wf C) (hn : 1 ≤ cN C) {x : Int} {K : Int → (Nat → Int → Int) → Prop} (hx : -2147483648 ≤ x ∧ x < 2147483648)
    (kt : IsC C x → ∀ h', (∀ b, ¬ b = 81 → h' b = h b) → At h' C (cutOf C x) → K 1 h') (kf : ¬ IsC C x → ∀ h', (∀ b, ¬ b = 81 → h' b = h b) → (∀ p, 0 ≤ p → p < cN C → h' 81 p ≤ 9) → K 0 h') : MD_takesTold g h x K := by
  have hN := W.2.1
  have neg : x < 0 → ∀ j : Int, 0 ≤ j → j ≤ cN C → ∀ h' y u, -2147483648 ≤ y ∧ y < 2147483648 → (∀ b, ¬ b = 81 → h' b = h b) → (∀ q, j ≤ q → q < cN C → h' 81 q ≤ 9) → MD_takesTold_20 g h' u y 0 (j - 1) K := by
    intro xn
    refine int_ind ?_ ?_
    · intro _ h' y u _ F D
      exact MD_takesTold_20_wp hG ⟨fun _ => ⟨fun _ => kf (fun z => by have := z.1; omega) h' F (fun p p0 p1 => D p p0 p1), fun z => absurd rfl z⟩, fun z => absurd z (by omega)⟩
    · intro j j0 ih hj h' y u hy F D
      rw [show j + 1 - 1 = j by omega]
      have t1 : y.tmod 10 ≤ 9 := by have := Int.tmod_lt_of_pos y (b := 10) (by omega); omega
      have t2 : -2147483648 ≤ y.tdiv 10 ∧ y.tdiv 10 < 2147483648 := by
        rcases Int.le_total 0 y with z | z
        · rw [tdv z]; omega
        · have e := Int.mul_tdiv_add_tmod y 10
          have e3 := Int.lt_tmod_of_pos y (b := 10) (by omega)
          omega
      refine MD_takesTold_20_wp hG ⟨fun z => absurd z (by omega), fun _ => ⟨⟨j0, by omega⟩, ?_⟩⟩
      simp only [forall_eq]
      rw [mwi (z := y.tdiv 10) (by omega) (by omega), mwi (z := j + -1) (by omega) (by omega), show j + -1 = j - 1 by omega]
      refine ⟨fun _ => ih (by omega) _ _ _ t2 (fun b nb => by rw [upd_ob nb]; exact F b nb) (fun q q0 q1 => ?_), fun z => absurd trivial z⟩
      by_cases e : q = j
      · rw [e, upd_at]; exact t1
      · rw [upd_ix e]; exact D q (by omega) q1
  have pos : 0 ≤ x → ∀ j : Int, j ≤ cN C → 0 ≤ j → ∀ h' u, (∀ b, ¬ b = 81 → h' b = h b) → (∀ q, cN C - 1 - j < q → q < cN C → h' 81 q = dg (cN C) x q) → ∀ y, y = pick (∀ q, cN C - 1 - j < q → q < cN C → dg (cN C) x q ≤ cS C q) 1 0 → MD_takesTold_20 g h' u (x / ten j) y (cN C - 1 - j) K := by
    intro x0
    refine up_ind ?_ ?_
    · intro _ h' u F D y hy
      have B : ∀ p, 0 ≤ p → p < cN C → h' 81 p ≤ 9 := fun p p0 p1 => by rw [D p (by omega) p1]; unfold dg; omega
      have A : At h' C (cutOf C x) := fun p p0 p1 => by rw [D p (by omega) p1]; unfold cutOf; rw [if_pos ⟨p0, p1⟩]
      refine MD_takesTold_20_wp hG ⟨fun _ => ⟨fun z => kf (fun y2 => ?_) h' F B, fun z => ⟨fun z2 => kf (fun y2 => z2 ((lt_ten x0 W.1 hN).mp y2.2.1)) h' F B, fun z2 => kt ⟨x0, (lt_ten x0 W.1 hN).mpr z2, fun p p0 p1 => ?_⟩ h' F A⟩⟩, fun z => absurd z (by omega)⟩
      · rw [hy, pick_t (fun q q0 q1 => y2.2.2 q (by omega) q1)] at z; omega
      · refine Classical.byContradiction (fun n => z ?_)
        rw [hy, pick_f (fun y2 => n (y2 p (by omega) p1))]
    · intro j hj ih j0 h' u F D y hy
      have hd := ten_div (j := j) x0 hx.2
      have hdg : dg (cN C) x (cN C - 1 - j) = x / ten j % 10 := by unfold dg; rw [show cN C - 1 - (cN C - 1 - j) = j by omega]
      have ej : h' 69 (cN C - 1 - j) = cS C (cN C - 1 - j) := by rw [F 69 (by omega)]; exact R.2.1 _ (by omega) (by omega)
      refine MD_takesTold_20_wp hG ⟨fun z => absurd z (by omega), fun _ => ⟨⟨by omega, by omega⟩, ?_⟩⟩
      simp (disch := omega) only [ej, mwi, forall_eq, bd, upd_ob, upd_at, tdv, tmd]
      rw [div_ten x0 j0 (by omega), show cN C - 1 - j + -1 = cN C - 1 - (j + 1) by omega]
      have nx : ∀ y, y = pick (∀ q, cN C - 1 - (j + 1) < q → q < cN C → dg (cN C) x q ≤ cS C q) 1 0 → MD_takesTold_20 g (mvUpd h' 81 (cN C - 1 - j) (x / ten j % 10)) u (x / ten (j + 1)) y (cN C - 1 - (j + 1)) K := by
        intro y hy
        refine ih (by omega) _ u (fun b nb => by rw [upd_ob nb]; exact F b nb) (fun q q0 q1 => ?_) y hy
        by_cases e : q = cN C - 1 - j
        · rw [e, upd_at, hdg]
        · rw [upd_ix e]; exact D q (by omega) q1
      refine ⟨fun z => nx _ ?_, fun z => ⟨fun z2 => nx _ ?_, fun z2 => nx _ ?_⟩⟩
      · refine (pick_f (fun y2 => ?_)).symm
        rw [hy, pick_t (fun q q0 q1 => y2 q (by omega) q1)] at z; omega
      · refine (pick_f (fun y2 => ?_)).symm
        have := y2 (cN C - 1 - j) (by omega) (by omega)
        omega
      · refine (pick_t (fun q q0 q1 => ?_)).symm
        by_cases e : q = cN C - 1 - j
        · rw [e, hdg]; exact z2
        · refine Classical.byContradiction (fun n => z ?_)
          rw [hy, pick_f (fun y2 => n (y2 q (by omega) q1))]
  refine MD_takesTold_wp hG ⟨fun z => ?_, fun z => ?_⟩
  · have h0 := neg z (cN C) W.1 (Int.le_refl _) h x (some x) hx (fun _ _ => rfl) (fun q q0 q1 => by omega)
    simp (disch := omega) only [R.1, mwi, forall_eq]
    exact h0
  · have h0 := pos z 0 W.1 (Int.le_refl _) h (some x) (fun _ _ => rfl) (fun q q0 q1 => by omega) 1 (pick_t (fun q q0 q1 => by omega)).symm
    have e0 : x / ten 0 = x := by unfold ten; simp
    rw [e0, show cN C - 1 - 0 = cN C - 1 by omega] at h0
    simp (disch := omega) only [R.1, mwi, forall_eq]
    exact h0
theorem MD_isConsistent_raw (hG : Gok sw g) (R : MdR h C) (W : Wf C) (B : ∀ p, 0 ≤ p → p < cN C → h 81 p ≤ 9) {K : Int → (Nat → Int → Int) → Prop}
    (kt : (∀ p q, 0 ≤ p → p < cN C → 0 < h 81 p → 0 ≤ q → q < cN C → h 73 (4 * (9 * p + (h 81 p - 1)) + q) ≤ h 81 q) → K 1 h) (kf : (¬ ∀ p q, 0 ≤ p → p < cN C → 0 < h 81 p → 0 ≤ q → q < cN C → h 73 (4 * (9 * p + (h 81 p - 1)) + q) ≤ h 81 q) → K 0 h) : MD_isConsistent g h K := by
  have hN := W.2.1
  refine MD_isConsistent_wp hG ?_
  have inner : ∀ p, 0 ≤ p → p < cN C → (∀ y u, y = pick (∀ r q, 0 ≤ r → r < p + 1 → 0 < h 81 r → 0 ≤ q → q < cN C → h 73 (4 * (9 * r + (h 81 r - 1)) + q) ≤ h 81 q) 1 0 → MD_isConsistent_4 g h y (p + 1) u K) →
      ∀ s : Int, s ≤ cN C → 0 ≤ s → ∀ y, y = pick ((∀ r q, 0 ≤ r → r < p → 0 < h 81 r → 0 ≤ q → q < cN C → h 73 (4 * (9 * r + (h 81 r - 1)) + q) ≤ h 81 q) ∧ (0 < h 81 p → ∀ q, 0 ≤ q → q < s → h 73 (4 * (9 * p + (h 81 p - 1)) + q) ≤ h 81 q)) 1 0 → MD_isConsistent_14 g h y p s K := by
    intro p p0 p1 next
    have Bp := B p p0 p1
    have next2 : ∀ y u, y = pick ((∀ r q, 0 ≤ r → r < p → 0 < h 81 r → 0 ≤ q → q < cN C → h 73 (4 * (9 * r + (h 81 r - 1)) + q) ≤ h 81 q) ∧ (0 < h 81 p → ∀ q, 0 ≤ q → q < cN C → h 73 (4 * (9 * p + (h 81 p - 1)) + q) ≤ h 81 q)) 1 0 → MD_isConsistent_4 g h y (p + 1) u K := by
      intro y u hy
      refine next y u (hy.trans (pick_cg ⟨fun z r q r0 r1 c0 q0 q1 => ?_, fun z => ⟨fun r q r0 r1 c0 q0 q1 => z r q r0 (by omega) c0 q0 q1, fun c0 q q0 q1 => z p q p0 (by omega) c0 q0 q1⟩⟩))
      by_cases e : r = p
      · rw [e] at c0 ⊢; exact z.2 c0 q q0 q1
      · exact z.1 r q r0 (by omega) c0 q0 q1
    refine up_ind ?_ ?_
    · intro _ y hy
      refine MD_isConsistent_14_wp hG ⟨fun _ => ?_, fun z => absurd z (by rw [R.1]; omega)⟩
      rw [mwi (z := p + 1) (by omega) (by omega)]
      exact next2 y _ hy
    · intro s hs ih s0 y hy
      refine MD_isConsistent_14_wp hG ⟨fun z => absurd z (by rw [R.1]; omega), fun _ => ⟨⟨p0, by omega⟩, fun z => ?_, fun z => ?_⟩⟩
      · rw [mwi (z := p + 1) (by omega) (by omega)]
        exact next2 y _ (hy.trans (pick_cg ⟨fun y2 => ⟨y2.1, fun c0 => by omega⟩, fun y2 => ⟨y2.1, fun c0 => by omega⟩⟩))
      · have ih := ih (by omega)
        have e1 : mw (mw (4 * mw (mw (mw (9 * p) + h 81 p) - 1)) + s) = 4 * (9 * p + (h 81 p - 1)) + s := by
          rw [mwi (z := 9 * p) (by omega) (by omega), mwi (z := 9 * p + h 81 p) (by omega) (by omega), mwi (z := 9 * p + h 81 p - 1) (by omega) (by omega), mwi (z := 4 * (9 * p + h 81 p - 1)) (by omega) (by omega), mwi (by omega) (by omega)]
          omega
        rw [e1]
        simp (disch := omega) only [mwi, bd]
        refine ⟨fun y0 => ih 0 ?_, fun y0 => ⟨fun lt => ih 0 ?_, fun le => ih 1 ?_⟩⟩
        · refine (pick_f (fun y2 => ?_)).symm
          rw [hy, pick_t ⟨y2.1, fun c0 q q0 q1 => y2.2 c0 q q0 (by omega)⟩] at y0; omega
        · refine (pick_f (fun y2 => ?_)).symm
          have := y2.2 z s s0 (by omega); omega
        · refine (pick_t (Classical.byContradiction (fun n => y0 ?_))).symm
          rw [hy]
          refine pick_f (fun y2 => n ⟨y2.1, fun c0 q q0 q1 => ?_⟩)
          by_cases e : q = s
          · rw [e]; exact le
          · exact y2.2 c0 q q0 (by omega)
  have outer : ∀ p : Int, p ≤ cN C → 0 ≤ p → ∀ y u, y = pick (∀ r q, 0 ≤ r → r < p → 0 < h 81 r → 0 ≤ q → q < cN C → h 73 (4 * (9 * r + (h 81 r - 1)) + q) ≤ h 81 q) 1 0 → MD_isConsistent_4 g h y p u K := by
    refine up_ind ?_ ?_
    · intro _ y u hy
      refine MD_isConsistent_4_wp hG ⟨fun _ => ?_, fun z => absurd z (by rw [R.1]; omega)⟩
      rcases Classical.em (∀ r q, 0 ≤ r → r < cN C → 0 < h 81 r → 0 ≤ q → q < cN C → h 73 (4 * (9 * r + (h 81 r - 1)) + q) ≤ h 81 q) with a | a
      · rw [hy, pick_t a]; exact ⟨Or.inr rfl, kt a⟩
      · rw [hy, pick_f a]; exact ⟨Or.inl rfl, kf a⟩
    · intro p hp ih p0 y u hy
      refine MD_isConsistent_4_wp hG ⟨fun z => absurd z (by rw [R.1]; omega), fun _ => ?_⟩
      exact inner p p0 hp (fun y u hy => ih (by omega) y u hy) 0 W.1 (Int.le_refl _) y (hy.trans (pick_cg ⟨fun z => ⟨z, fun _ q q0 q1 => by omega⟩, fun z => z.1⟩))
  exact outer 0 W.1 (Int.le_refl _) 1 none (pick_t (fun r q r0 r1 => by omega)).symm
theorem MD_isConsistent_spec (hG : Gok sw g) (E : MdOk h C) (A : At h C c) (hi : In C c) {K : Int → (Nat → Int → Int) → Prop} (kt : Cons C c → K 1 h) (kf : ¬ Cons C c → K 0 h) : MD_isConsistent g h K := by
  obtain ⟨R, L, V, iV, hn⟩ := E
  have W := V.1
  have key : (∀ p q, 0 ≤ p → p < cN C → 0 < h 81 p → 0 ≤ q → q < cN C → h 73 (4 * (9 * p + (h 81 p - 1)) + q) ≤ h 81 q) ↔ Cons C c := by
    rw [← vcons V iV hi]
    constructor
    · intro z p q p0 p1 c0 q0 q1
      have := z p q p0 p1 (by rw [A p p0 p1]; exact c0) q0 q1
      rw [A p p0 p1, A q q0 q1, L.2 p (c p - 1) q p0 p1 (by omega) (by have := hi p; omega) q0 q1] at this
      exact this
    · intro z p q p0 p1 c0 q0 q1
      rw [A p p0 p1] at c0 ⊢
      rw [A q q0 q1, L.2 p (c p - 1) q p0 p1 (by omega) (by have := hi p; omega) q0 q1]
      exact z p q p0 p1 c0 q0 q1
  exact MD_isConsistent_raw hG R W (fun p p0 p1 => by rw [A p p0 p1]; have := hi p; have := W.sz p; omega) (fun z => kt (key.mp z)) (fun z => kf (fun y => z (key.mpr y)))
end MD
