/-! the model: what the laid cuts tell -/
theorem cutsMany_bl {C : Cmp} (W : Wf C) : cntI (fun j => Cons C (ctI C j)) (NP C) = bl C 17 := cntI_cg (fun i i0 i1 => ⟨fun z => ⟨z, by
  have a := lev_le (ctI_in W i0 i1)
  have b := cT_r W
  omega⟩, fun z => z.1⟩)
theorem rk_nn {C : Cmp} (W : Wf C) {j : Int} (j0 : 0 ≤ j) : 0 ≤ rk C j := by
  have a := bl_r W (lev (ctI C j))
  have b := lc_r (C := C) (l := lev (ctI C j)) j0
  unfold rk; omega
noncomputable def cutJ (C : Cmp) (l x : Int) : Int := fst (fun j => lvP C l j ∧ lc C l j = x) (NP C)
noncomputable def aLevel (C : Cmp) (l x : Int) : Int := pick (0 ≤ x ∧ x < lc C l (NP C)) (en (cN C) (ctI C (cutJ C l x))) (-101)
theorem cutJ_at {C : Cmp} {l x j : Int} (j0 : 0 ≤ j) (j1 : j < NP C) (h1 : lvP C l j) (h2 : lc C l j = x) : cutJ C l x = j := by
  refine fst_at j0 j1 ⟨h1, h2⟩ (fun q q0 q1 z => ?_)
  have := cntI_lt (P := lvP C l) q0 q1 z.1
  have e := z.2
  unfold lc at e h2
  omega
theorem cutJ_ok {C : Cmp} (W : Wf C) {l x : Int} (x0 : 0 ≤ x) (x1 : x < lc C l (NP C)) : 0 ≤ cutJ C l x ∧ cutJ C l x < NP C ∧ lvP C l (cutJ C l x) ∧ lc C l (cutJ C l x) = x := by
  have n := NP_le W
  obtain ⟨i, i0, i1, i2, i3⟩ := cntI_at (P := lvP C l) (k := NP C) (by omega) x0 x1
  rw [cutJ_at i0 i1 i2 i3]
  exact ⟨i0, i1, i2, i3⟩
theorem at0 {C : Cmp} (W : Wf C) : Cons C (ctI C 0) := by rw [ctI_0 W]; exact Cons_0 (fun _ => rfl)
section MD
variable {sw : Bool} {g : Nat → Nat → Nat} {h : Nat → Int → Int} {C : Cmp} {c : Int → Int} {w : Wsh}
theorem MD_cutsOf_spec (hG : Gok sw g) (R : MdR h C) (W : Wf C) (L : LcOk h C w) {l : Int} {K : Int → (Nat → Int → Int) → Prop} (k : K (lc C l (NP C)) h) : MD_cutsOf g h l K := by
  have n := NP_le W
  refine MD_cutsOf_wp hG ?_
  have key : ∀ i : Int, i ≤ NP C → 0 ≤ i → MD_cutsOf_4 g h l (lc C l i) i K := by
    refine up_ind ?_ ?_
    · intro _
      exact MD_cutsOf_4_wp hG (MD_cutsAll_spec hG R W ⟨fun _ => k, fun z => absurd z (by omega)⟩)
    · intro i hi ih i0
      obtain ⟨d2, d3, d4, d5, d6, d7⟩ := L i i0 hi
      have cr := lc_r (C := C) (l := l) i0
      refine MD_cutsOf_4_wp hG (MD_cutsAll_spec hG R W ⟨fun z => absurd z (by omega), fun _ => ?_⟩)
      have ih := ih (by omega)
      simp (disch := omega) only [mwi, bd, forall_eq, d2, d7, pick_0, Classical.not_not, Int.add_zero]
      refine ⟨fun z => ?_, fun z => ⟨fun z2 => ?_, fun z2 => ?_⟩⟩
      · unfold lc at ih; rw [cntI_n i0 (fun y => z y.1)] at ih; exact ih
      · unfold lc at ih; rw [cntI_n i0 (fun y => z2 y.2)] at ih; exact ih
      · unfold lc at ih; rw [cntI_y i0 ⟨z, z2⟩] at ih; exact ih
  exact key 0 (by omega) (Int.le_refl _)
theorem MD_cutsMany_spec (hG : Gok sw g) (R : MdR h C) (W : Wf C) (L : LcOk h C w) {K : Int → (Nat → Int → Int) → Prop} (k : K (bl C 17) h) : MD_cutsMany g h K := by
  have n := NP_le W
  refine MD_cutsMany_wp hG ?_
  have key : ∀ i : Int, i ≤ NP C → 0 ≤ i → MD_cutsMany_4 g h (cntI (fun j => Cons C (ctI C j)) i) i K := by
    refine up_ind ?_ ?_
    · intro _
      exact MD_cutsMany_4_wp hG (MD_cutsAll_spec hG R W ⟨fun _ => by rw [cutsMany_bl W]; exact k, fun z => absurd z (by omega)⟩)
    · intro i hi ih i0
      obtain ⟨d2, d3, d4, d5, d6, d7⟩ := L i i0 hi
      have cr := cntI_r (P := fun j => Cons C (ctI C j)) i0
      refine MD_cutsMany_4_wp hG (MD_cutsAll_spec hG R W ⟨fun z => absurd z (by omega), fun _ => ?_⟩)
      have ih := ih (by omega)
      simp (disch := omega) only [mwi, bd, forall_eq, d2, pick_0, Classical.not_not, Int.add_zero]
      refine ⟨fun z => ?_, fun z => ?_⟩
      · rw [cntI_n i0 z] at ih; exact ih
      · rw [cntI_y i0 z] at ih; exact ih
  exact key 0 (by omega) (Int.le_refl _)
theorem MD_heldMany_spec (hG : Gok sw g) (R : MdR h C) (W : Wf C) (L : LcOk h C w) {K : Int → (Nat → Int → Int) → Prop} (k : K (hld C w) h) : MD_heldMany g h K := by
  have n := NP_le W
  refine MD_heldMany_wp hG ?_
  have key : ∀ i : Int, i ≤ NP C → 0 ≤ i → MD_heldMany_4 g h (cntI (held C w) i) i K := by
    refine up_ind ?_ ?_
    · intro _
      exact MD_heldMany_4_wp hG (MD_cutsAll_spec hG R W ⟨fun _ => k, fun z => absurd z (by omega)⟩)
    · intro i hi ih i0
      obtain ⟨d2, d3, d4, d5, d6, d7⟩ := L i i0 hi
      have cr := cntI_r (P := held C w) i0
      refine MD_heldMany_4_wp hG (MD_cutsAll_spec hG R W ⟨fun z => absurd z (by omega), fun _ => ?_⟩)
      have ih := ih (by omega)
      simp (disch := omega) only [mwi, bd, forall_eq, d3, pick_0, Classical.not_not, Int.add_zero]
      refine ⟨fun z => ?_, fun z => ?_⟩
      · rw [cntI_n i0 z] at ih; exact ih
      · rw [cntI_y i0 z] at ih; exact ih
  exact key 0 (by omega) (Int.le_refl _)
theorem MD_widest_spec (hG : Gok sw g) (R : MdR h C) (W : Wf C) (L : LcOk h C w) {K : Int → (Nat → Int → Int) → Prop} (k : K (wdl C (cT C)) h) : MD_widest g h K := by
  have hT := cT_r W
  refine MD_widest_wp hG ?_
  have key : ∀ i : Int, i ≤ cT C → 0 ≤ i → MD_widest_4 g h (wdl C i) (i + 1) K := by
    refine up_ind ?_ ?_
    · intro _
      exact MD_widest_4_wp hG (MD_eventsAll_spec hG R W ⟨fun _ => k, fun z => absurd z (by omega)⟩)
    · intro i hi ih i0
      have ih := ih (by omega)
      rw [wdl_s i0] at ih
      refine MD_widest_4_wp hG (MD_eventsAll_spec hG R W ⟨fun z => absurd z (by omega), fun _ => MD_cutsOf_spec hG R W L (MD_cutsOf_spec hG R W L ?_)⟩)
      rw [mwi (z := i + 1 + 1) (by omega) (by omega)]
      refine ⟨fun z => ?_, fun z => ?_⟩
      · rw [if_neg (by omega)] at ih; exact ih
      · rw [if_pos z] at ih; exact ih
  exact key 0 hT.1 (Int.le_refl _)
theorem MD_latticeNow_spec (hG : Gok sw g) (E : MdOk h C) (Wh : MdW h w) {x : Int} {K : Int → (Nat → Int → Int) → Prop} (x0 : 0 ≤ x) (x1 : x ≤ 4) (k : ∀ h', (∀ b, ¬ (81 ≤ b ∧ b ≤ 87) → h' b = h b) → K (latP C x) h') : MD_latticeNow g h x K := by
  have W := E.2.2.1.1
  have n := NP_le W
  refine MD_latticeNow_wp hG (MD_layCuts_spec hG E Wh (fun h1 F L => ?_))
  have R1 := (E.keep (h' := h1) (by rw [F 68 (by omega)]) (fun b b1 b2 => F b (by omega))).1
  have k := k h1 F
  unfold latP at k
  refine ⟨fun z => MD_eventsAll_spec hG R1 W ?_, fun z => MD_cutsMany_spec hG R1 W L ?_, fun z => MD_widest_spec hG R1 W L (MD_cutsOf_spec hG R1 W L ?_), fun z => MD_widest_spec hG R1 W L ?_, fun z => ?_⟩
  · rw [if_neg (by omega), if_neg (by omega), if_neg (by omega), if_neg (by omega)] at k; exact k
  · rw [if_pos z] at k; exact k
  · rw [if_neg (by omega), if_pos z] at k; exact k
  · rw [if_neg (by omega), if_neg (by omega), if_pos z] at k; exact k
  · rw [if_neg (by omega), if_neg (by omega), if_neg (by omega), if_pos z] at k
    rw [(L 0 (by omega) (by omega)).2.2.2.1]; exact k
theorem MD_cutAt_spec (hG : Gok sw g) (R : MdR h C) (W : Wf C) (L : LcOk h C w) {l x : Int} {K : Int → (Nat → Int → Int) → Prop} (hx : mv32 x) (kt : (0 ≤ x ∧ x < lc C l (NP C)) → K (cutJ C l x) h) (kf : ¬ (0 ≤ x ∧ x < lc C l (NP C)) → K (-1) h) : MD_cutAt g h l x K := by
  have n := NP_le W
  unfold mv32 at hx
  refine MD_cutAt_wp hG ?_
  have key : ∀ i : Int, i ≤ NP C → 0 ≤ i → (0 ≤ x → lc C l i ≤ x) → ∀ y, (0 ≤ x → y = x - lc C l i) → MD_cutAt_5 g h l x y i K := by
    refine up_ind ?_ ?_
    · intro _ hl y hy
      exact MD_cutAt_5_wp hG (MD_cutsAll_spec hG R W ⟨fun _ => kf (fun z => by have := hl z.1; omega), fun z => absurd z (by omega)⟩)
    · intro i hi ih i0 hl y hy
      obtain ⟨d2, d3, d4, d5, d6, d7⟩ := L i i0 hi
      have cr := lc_r (C := C) (l := l) i0
      refine MD_cutAt_5_wp hG (MD_cutsAll_spec hG R W ⟨fun z => absurd z (by omega), fun _ => ⟨fun z => kf (fun z2 => by omega), fun x0 => ?_⟩⟩)
      have hl := hl x0
      have hy := hy x0
      have ih := ih (by omega)
      simp (disch := omega) only [mwi, bd, forall_eq, d2, d7, pick_0, Classical.not_not]
      have no : ¬ lvP C l i → MD_cutAt_5 g h l x y (i + 1) K := fun z => by
        have e : lc C l (i + 1) = lc C l i := cntI_n i0 z
        exact ih (fun _ => by omega) y (fun _ => by omega)
      refine ⟨fun z => no (fun y => z y.1), fun z => ⟨fun z2 => no (fun y => z2 y.2), fun z2 => ⟨fun z3 => ?_, fun z3 => ?_⟩⟩⟩
      · have e : lc C l (i + 1) = lc C l i + 1 := cntI_y i0 ⟨z, z2⟩
        exact ih (fun _ => by omega) _ (fun _ => by omega)
      · have e : cutJ C l x = i := cutJ_at i0 hi ⟨z, z2⟩ (by omega)
        have lt := cntI_lt (P := lvP C l) i0 hi ⟨z, z2⟩
        have kt := kt ⟨x0, by unfold lc at hy ⊢; omega⟩
        rw [e] at kt
        exact kt
  exact key 0 (by omega) (Int.le_refl _) (fun x0 => x0) x (fun _ => by
    have e : lc C l 0 = 0 := rfl
    omega)
theorem MD_levelAt_spec (hG : Gok sw g) (E : MdOk h C) (Wh : MdW h w) {l x : Int} {K : Int → (Nat → Int → Int) → Prop} (hx : mv32 x) (k : ∀ h', (∀ b, ¬ (81 ≤ b ∧ b ≤ 87) → h' b = h b) → K (aLevel C l x) h') : MD_levelAt g h l x K := by
  have V := E.2.2.1
  have W := V.1
  have hn := E.2.2.2.2
  refine MD_levelAt_wp hG (MD_layCuts_spec hG E Wh (fun h1 F L => ?_))
  have R1 := (E.keep (h' := h1) (by rw [F 68 (by omega)]) (fun b b1 b2 => F b (by omega))).1
  unfold aLevel at k
  refine MD_cutAt_spec hG R1 W L hx (fun z => ?_) (fun z => ?_)
  · obtain ⟨j0, j1, j2, j3⟩ := cutJ_ok W z.1 z.2
    refine ⟨fun _ => MD_take_spec hG R1 W hn j0 j1 (fun h2 F2 A2 => ?_), fun z => absurd z (by omega)⟩
    have R2 : MdR h2 C := R1.keep (by rw [F2 68 (by omega)]) (F2 69 (by omega)) (F2 70 (by omega)) (F2 71 (by omega))
    refine MD_toldNow_spec hG R2 W hn A2 ((ctI_in W j0 j1).dg W) ?_
    have k := k h2 (fun b nb => (F2 b (by omega)).trans (F b nb))
    rw [pick_t z] at k
    exact k
  · have k := k h1 F
    rw [pick_f z] at k
    exact ⟨fun y => absurd rfl y, fun _ => k⟩
theorem MD_heldFirst_spec (hG : Gok sw g) (R : MdR h C) (W : Wf C) (hn : 1 ≤ cN C) (L : LcOk h C w) {K : Int → (Nat → Int → Int) → Prop} (k : ∀ h', (∀ b, ¬ b = 81 → h' b = h b) → K (lowV C w) h') : MD_heldFirst g h K := by
  have n := NP_le W
  refine MD_heldFirst_wp hG ?_
  have key : ∀ i : Int, i ≤ NP C → 0 ≤ i → ∀ b u, (b = -1 ∧ ∀ j, 0 ≤ j → j < i → ¬ held C w j) ∨ (0 ≤ b ∧ b < i ∧ held C w b ∧ ∀ j, 0 ≤ j → j < i → held C w j → lev (ctI C b) < lev (ctI C j) ∨ (lev (ctI C b) = lev (ctI C j) ∧ b ≤ j)) → MD_heldFirst_4 g h b i u K := by
    refine up_ind ?_ ?_
    · intro _ b u H
      refine MD_heldFirst_4_wp hG (MD_cutsAll_spec hG R W ⟨fun _ => ⟨fun z => ?_, fun z => ?_⟩, fun z => absurd z (by omega)⟩)
      · rcases H with ⟨H, -⟩ | ⟨b0, b1, b2, b3⟩
        · exact absurd H z
        · have low : IsLow C w 0 b := ⟨b0, b1, b2, rk_nn W b0, fun j j0 j1 j2 _ => by
            rcases b3 j j0 j1 j2 with y | ⟨y, y2⟩
            · have := rk_lt W b0 b1 b2.1 j0 j1 j2.1 (Or.inl y); omega
            · by_cases e : b = j
              · rw [e]; exact Int.le_refl _
              · have := rk_lt W b0 b1 b2.1 j0 j1 j2.1 (Or.inr ⟨y, by omega⟩); omega⟩
          refine MD_take_spec hG R W hn b0 b1 (fun h2 F2 A2 => ?_)
          have R2 : MdR h2 C := R.keep (by rw [F2 68 (by omega)]) (F2 69 (by omega)) (F2 70 (by omega)) (F2 71 (by omega))
          refine MD_toldNow_spec hG R2 W hn A2 ((ctI_in W b0 b1).dg W) ?_
          have k := k h2 F2
          rw [lowV_at W hn low] at k
          exact k
      · rcases H with ⟨-, H⟩ | ⟨b0, -⟩
        · have k := k h (fun _ _ => rfl)
          rw [lowV_none H] at k
          exact k
        · omega
    · intro i hi ih i0 b u H
      obtain ⟨d2, d3, d4, d5, d6, d7⟩ := L i i0 hi
      have ih := ih (by omega)
      have keep : (¬ held C w i ∨ (¬ b = -1 ∧ lev (ctI C b) ≤ lev (ctI C i))) → MD_heldFirst_47 g h b i 0 K := fun hk => by
        refine MD_heldFirst_47_wp hG ⟨fun _ => ?_, fun z => absurd rfl z⟩
        rw [mwi (by omega) (by omega)]
        refine ih b _ ?_
        rcases H with ⟨H1, H2⟩ | ⟨b0, b1, b2, b3⟩
        · rcases hk with hk | hk
          · exact Or.inl ⟨H1, fun j j0 j1 => by
              by_cases e : j = i
              · rw [e]; exact hk
              · exact H2 j j0 (by omega)⟩
          · exact absurd H1 hk.1
        · refine Or.inr ⟨b0, by omega, b2, fun j j0 j1 j2 => ?_⟩
          by_cases e : j = i
          · subst e
            rcases hk with hk | hk
            · exact absurd j2 hk
            · have := hk.2; omega
          · exact b3 j j0 (by omega) j2
      have new : held C w i → (b = -1 ∨ lev (ctI C i) < lev (ctI C b)) → MD_heldFirst_47 g h b i 1 K := fun hk hl => by
        refine MD_heldFirst_47_wp hG ⟨fun z => absurd z (by decide), fun _ => ?_⟩
        rw [mwi (by omega) (by omega)]
        refine ih i _ (Or.inr ⟨i0, by omega, hk, fun j j0 j1 j2 => ?_⟩)
        by_cases e : j = i
        · subst e; exact Or.inr ⟨rfl, Int.le_refl _⟩
        · rcases H with ⟨H1, H2⟩ | ⟨b0, b1, b2, b3⟩
          · exact absurd j2 (H2 j j0 (by omega))
          · have := b3 j j0 (by omega) j2
            left
            omega
      refine MD_heldFirst_4_wp hG (MD_cutsAll_spec hG R W ⟨fun z => absurd z (by omega), fun _ => ?_⟩)
      simp (disch := omega) only [bd, d3, pick_0, Classical.not_not]
      refine ⟨fun z => keep (Or.inl z), fun z => ⟨fun z2 => new z (Or.inl z2), fun z2 => ?_⟩⟩
      rcases H with ⟨H1, H2⟩ | ⟨b0, b1, b2, b3⟩
      · exact absurd H1 z2
      · have e7 := (L b b0 (by omega)).2.2.2.2.2
        simp (disch := omega) only [bd, d7, e7]
        exact ⟨fun z3 => keep (Or.inr ⟨z2, z3⟩), fun z3 => new z (Or.inr z3)⟩
  exact key 0 (by omega) (Int.le_refl _) (-1) none (Or.inl ⟨rfl, fun j j0 j1 => by omega⟩)
theorem MD_wishedNow_spec (hG : Gok sw g) (E : MdOk h C) (Wh : MdW h w) {x : Int} {K : Int → (Nat → Int → Int) → Prop} (x0 : 0 ≤ x) (x1 : x ≤ 3) (k : ∀ h', (∀ b, ¬ (81 ≤ b ∧ b ≤ 87) → h' b = h b) → K (seaP C w x) h') : MD_wishedNow g h x K := by
  have V := E.2.2.1
  have W := V.1
  have hn := E.2.2.2.2
  have n := NP_le W
  refine MD_wishedNow_wp hG (MD_layCuts_spec hG E Wh (fun h1 F L => ?_))
  have R1 := (E.keep (h' := h1) (by rw [F 68 (by omega)]) (fun b b1 b2 => F b (by omega))).1
  have e6 := (L 0 (by omega) (by omega)).2.2.2.2.1
  unfold seaP at k
  rw [ctI_0 W] at e6
  have c0 : Cons C (fun _ => 0) := Cons_0 (fun _ => rfl)
  refine ⟨fun z => ⟨fun z2 => ?_, fun z2 => ?_⟩, fun z => MD_heldMany_spec hG R1 W L ⟨fun z2 => ?_, fun z2 => ?_⟩, fun z => MD_heldMany_spec hG R1 W L ?_, fun z => MD_heldFirst_spec hG R1 W hn L (fun h2 F2 => ?_)⟩
  · rw [e6, pick_0] at z2
    have k := k h1 F
    rw [if_neg (by omega), if_neg (by omega), if_neg (by omega), pick_f (fun y => z2 ⟨c0, y⟩)] at k; exact k
  · rw [e6, pick_1] at z2
    have k := k h1 F
    rw [if_neg (by omega), if_neg (by omega), if_neg (by omega), pick_t z2.2] at k; exact k
  · have k := k h1 F
    rw [if_pos z, if_neg (by omega)] at k; exact k
  · have k := k h1 F
    rw [if_pos z, if_pos z2] at k; exact k
  · have k := k h1 F
    rw [if_neg (by omega), if_pos z] at k; exact k
  · have k := k h2 (fun b nb => (F2 b (by omega)).trans (F b nb))
    rw [if_neg (by omega), if_neg (by omega), if_pos z] at k; exact k
theorem MD_aroundNow_spec (hG : Gok sw g) (R : MdR h C) (V : Valid C) (hn : 1 ≤ cN C) (L : LcOk h C w) (ha : av C w (fun _ => 0)) {s : Int} {K : Int → (Nat → Int → Int) → Prop} (s0 : 0 ≤ s) (s1 : s < cT C) (k : ∀ h', (∀ b, ¬ b = 81 → h' b = h b) → K (gst C w (pthC C w s)) h') : MD_aroundNow g h s K := by
  have W := V.1
  have hN := W.2.1
  have n := NP_le W
  have hT := cT_r W
  have hp := pthC_ok W ha
  refine MD_aroundNow_wp hG ?_
  have key : ∀ m : Int, m ≤ s + 1 → 0 ≤ m → ∀ h' y, (∀ b, ¬ b = 81 → h' b = h b) → (0 < m → y = gst C w (pthC C w (m - 1))) → MD_aroundNow_7 g h' s (ixc C (pthC C w m)) y m K := by
    refine up_ind ?_ ?_
    · intro _ h' y F hy
      refine MD_aroundNow_7_wp hG ⟨fun _ => ?_, fun z => absurd z (by omega)⟩
      have k := k h' F
      rw [hy (by omega), show s + 1 - 1 = s by omega]
      exact k
    · intro m hm ih m0 h' y F hy
      obtain ⟨p1, p2, p3, p4⟩ := hp m m0 (by omega)
      obtain ⟨g1, g2, g3⟩ := gst_ok W (by omega) p4
      have ir := ixc_r p1
      have ei := ctI_ixc W p1
      refine MD_aroundNow_7_wp hG ⟨fun z => absurd z (by omega), fun _ => ?_⟩
      have least : ∀ q, 0 ≤ q → q < gst C w (pthC C w m) → ¬ goes C w (pthC C w m) q := by
        rcases fst_cases (P := goes C w (pthC C w m)) W.1 with ⟨z, -⟩ | ⟨-, -, -, z⟩
        · exact absurd g1 (by show ¬ 0 ≤ fst (goes C w (pthC C w m)) (cN C); omega)
        · exact z
      have inner : ∀ q, q ≤ gst C w (pthC C w m) → 0 ≤ q → ∀ h', (∀ b, ¬ b = 81 → h' b = h b) → MD_aroundNow_15 g h' s (ixc C (pthC C w m)) q m K := by
        have both : ∀ q, 0 ≤ q → q < cN C → (goes C w (pthC C w m) q → q = gst C w (pthC C w m)) → (¬ goes C w (pthC C w m) q → ∀ h', (∀ b, ¬ b = 81 → h' b = h b) → MD_aroundNow_15 g h' s (ixc C (pthC C w m)) (q + 1) m K) → ∀ h', (∀ b, ¬ b = 81 → h' b = h b) → MD_aroundNow_15 g h' s (ixc C (pthC C w m)) q m K := by
          intro q q0 q1 yes nx h' F
          have R' : MdR h' C := R.keep (by rw [F 68 (by omega)]) (F 69 (by omega)) (F 70 (by omega)) (F 71 (by omega))
          refine MD_aroundNow_15_wp hG (MD_canGoOn_spec hG R' V hn (fun j j0 j1 => by rw [F 82 (by omega)]; exact (L j j0 j1).1) ir.1 ir.2 (by rw [ei]; exact p2) q0 q1 (fun cf h1 F1 _ => ⟨fun z => absurd z (by decide), fun _ => ?_⟩) (fun cf h1 F1 _ => ⟨fun _ => ?_, fun z => absurd rfl z⟩))
          · have F1' : ∀ b, ¬ b = 81 → h1 b = h b := fun b nb => (F1 b nb).trans (F b nb)
            have R1 : MdR h1 C := R.keep (by rw [F1' 68 (by omega)]) (F1' 69 (by omega)) (F1' 70 (by omega)) (F1' 71 (by omega))
            refine MD_stride_spec hG R1 W q0 q1 ?_
            obtain ⟨c1, c2⟩ := ctI_inc W ir.1 ir.2 q0 (by omega) cf.1
            have sp := st_pos W q
            have e6 := (L _ (by omega) c2).2.2.2.2.1
            rw [← F1' 86 (by omega), c1, ei] at e6
            rw [ei] at cf
            have cc := (Cons_inc W p1 p2 q0 q1 cf.1).mpr cf
            simp (disch := omega) only [mwi, bd, e6, pick_0, Classical.not_not]
            refine ⟨fun z => MD_stride_spec hG R1 W q0 q1 ?_, fun z => ?_⟩
            · have eq := yes ⟨cf, z.2⟩
              simp (disch := omega) only [mwi, forall_eq]
              have ih := ih (by omega) h1 q F1' (fun _ => by rw [show m + 1 - 1 = m by omega]; exact eq)
              rw [pthC_s m0, ← eq, ixc_inc q0 (by omega)] at ih
              exact ih
            · exact nx (fun y => z ⟨cc, y.2⟩) h1 F1'
          · rw [ei] at cf
            rw [mwi (by omega) (by omega)]
            exact nx (fun y => cf y.1) h1 (fun b nb => (F1 b nb).trans (F b nb))
        refine up_ind ?_ ?_
        · intro _ h' F
          exact both _ g1 g2 (fun _ => rfl) (fun z => absurd g3 z) h' F
        · intro q hq ih2 q0 h' F
          exact both q q0 (by omega) (fun z => absurd z (least q q0 hq)) (fun _ h' F => ih2 (by omega) h' F) h' F
      exact inner 0 g1 (Int.le_refl _) h' F
  have h0 := key 0 (by omega) (Int.le_refl _) h (-1) (fun _ _ => rfl) (fun z => by omega)
  have e0 : ixc C (pthC C w 0) = 0 := by
    show ixc C (fun _ => 0) = 0
    unfold ixc
    simp
  rw [e0] at h0
  exact h0
end MD
