/-! the model: the least cut, the intervals -/
/-- the smallest numbers of events so far -/
def lsI (C : Cmp) (w : Wsh) (i : Int) (o : Int → Int) : Prop := ((∀ j, 0 ≤ j → j < i → ¬ held C w j) ∧ ∀ p, 0 ≤ p → p < cN C → o p = 16) ∨ ∃ m, In C m ∧ Cons C m ∧ Hold C w m ∧ (∀ j, 0 ≤ j → j < i → held C w j → ∀ p, 0 ≤ p → p < cN C → m p ≤ ctI C j p) ∧ ∀ p, 0 ≤ p → p < cN C → o p = m p
theorem lsI.no {C : Cmp} {w : Wsh} {i : Int} {o : Int → Int} (I : lsI C w i o) (hn : ¬ held C w i) : lsI C w (i + 1) o := by
  rcases I with ⟨a, b⟩ | ⟨m, m1, m2, m3, m4, m5⟩
  · refine Or.inl ⟨fun j j0 j1 => ?_, b⟩
    by_cases e : j = i
    · rw [e]; exact hn
    · exact a j j0 (by omega)
  · refine Or.inr ⟨m, m1, m2, m3, fun j j0 j1 j2 => ?_, m5⟩
    by_cases e : j = i
    · rw [e] at j2; exact absurd j2 hn
    · exact m4 j j0 (by omega) j2
theorem lsI.yes {C : Cmp} (W : Wf C) {w : Wsh} (w0 : w.1 = 0) {i : Int} {o o' : Int → Int} (I : lsI C w i o) (i0 : 0 ≤ i) (i1 : i < NP C) (hy : held C w i) (ho : ∀ p, 0 ≤ p → p < cN C → o' p = min (o p) (ctI C i p)) : lsI C w (i + 1) o' := by
  have ci := ctI_in W i0 i1
  rcases I with ⟨a, b⟩ | ⟨m, m1, m2, m3, m4, m5⟩
  · refine Or.inr ⟨ctI C i, ci, hy.1, hy.2, fun j j0 j1 j2 p p0 p1 => ?_, fun p p0 p1 => ?_⟩
    · by_cases e : j = i
      · rw [e]; exact Int.le_refl _
      · exact absurd j2 (a j j0 (by omega))
    · have := ci p
      have := W.sz p
      rw [ho p p0 p1, b p p0 p1]; omega
  · refine Or.inr ⟨fun p => min (m p) (ctI C i p), fun p => ?_, Cons_min m1 ci m2 hy.1, ?_, fun j j0 j1 j2 p p0 p1 => ?_, fun p p0 p1 => ?_⟩
    · have := ci p
      have := m1 p
      simp only; omega
    · have h2 := hy.2
      unfold Hold at m3 h2 ⊢
      rw [if_pos w0] at m3 h2 ⊢
      intro p p0 p1
      simp only
      rcases Int.le_total (m p) (ctI C i p) with z | z
      · rw [Int.min_eq_left z]; exact m3 p p0 p1
      · rw [Int.min_eq_right z]; exact h2 p p0 p1
    · simp only
      by_cases e : j = i
      · rw [e]; omega
      · have := m4 j j0 (by omega) j2 p p0 p1; omega
    · rw [ho p p0 p1, m5 p p0 p1]
theorem low_of {C : Cmp} (W : Wf C) (hn : 1 ≤ cN C) {w : Wsh} {m : Int → Int} (m1 : In C m) (m2 : Cons C m) (m3 : Hold C w m) (m4 : ∀ j, 0 ≤ j → j < NP C → held C w j → ∀ p, 0 ≤ p → p < cN C → m p ≤ ctI C j p) : lowV C w = en (cN C) m ∧ 0 < hld C w := by
  have ir := ixc_r m1
  have ei := ctI_ixc W m1
  have hh : held C w (ixc C m) := by unfold held; rw [ei]; exact ⟨m2, m3⟩
  have low : IsLow C w 0 (ixc C m) := ⟨ir.1, ir.2, hh, rk_nn W ir.1, fun j j0 j1 j2 _ => by
    have cj := ctI_in W j0 j1
    have le : ∀ p, m p ≤ ctI C j p := fun p => by
      by_cases hp : 0 ≤ p ∧ p < cN C
      · exact m4 j j0 j1 j2 p hp.1 hp.2
      · rw [m1.out W hp, cj.out W hp]; exact Int.le_refl _
    have l0 := le 0; have l1 := le 1; have l2 := le 2; have l3 := le 3
    by_cases el : lev m = lev (ctI C j)
    · have eq : m = ctI C j := by
        unfold lev at el
        funext p
        have := le p
        by_cases hp : 0 ≤ p ∧ p < 4
        · rcases (show p = 0 ∨ p = 1 ∨ p = 2 ∨ p = 3 by omega) with rfl | rfl | rfl | rfl <;> omega
        · have hN := W.2.1
          rw [m1.out W (by omega), cj.out W (by omega)]
      rw [eq, ixc_ctI]; exact Int.le_refl _
    · have : lev m < lev (ctI C j) := by unfold lev at el ⊢; omega
      have := rk_lt W ir.1 ir.2 hh.1 j0 j1 j2.1 (Or.inl (by rw [ei]; exact this))
      omega⟩
  have e := lowV_at W hn low
  rw [ei] at e
  refine ⟨e, ?_⟩
  have := cntI_lt (P := held C w) ir.1 ir.2 hh
  have := (cntI_r (P := held C w) ir.1).1
  unfold hld; omega
theorem bgn_none {C : Cmp} (W : Wf C) {w : Wsh} {p r : Int} (hr : ¬ (0 ≤ r ∧ r < nIv C w p (cS C p + 1))) : bgn C w p r = -1 := by
  have hs := W.sz p
  refine fst_none (by omega) (fun b b0 b1 z => hr ?_)
  have a := (nIv_le (C := C) (w := w) (p := p) b0).1
  have c := cntI_lt (P := ivB C w p) b0 b1 z.1
  have e := z.2
  unfold nIv at e ⊢
  unfold nIv at a
  omega
section MD
variable {sw : Bool} {g : Nat → Nat → Nat} {h : Nat → Int → Int} {C : Cmp} {c : Int → Int} {w : Wsh}
theorem MD_leastNow_spec (hG : Gok sw g) (E : MdOk h C) (Wh : MdW h w) (w0 : w.1 = 0) {K : Int → (Nat → Int → Int) → Prop} (k : ∀ h', (∀ b, ¬ (81 ≤ b ∧ b ≤ 88) → h' b = h b) → K (lowV C w) h') : MD_leastNow g h K := by
  have V := E.2.2.1
  have W := V.1
  have hN := W.2.1
  have hn := E.2.2.2.2
  have n := NP_le W
  refine MD_leastNow_wp hG (MD_layCuts_spec hG E Wh (fun h1 F1 L1 => ?_))
  have kE : ∀ h' : Nat → Int → Int, (∀ b, ¬ b = 81 → ¬ b = 88 → h' b = h1 b) → MdR h' C := fun h' F => E.1.keep (by rw [F 68 (by omega) (by omega), F1 68 (by omega)]) (by rw [F 69 (by omega) (by omega), F1 69 (by omega)]) (by rw [F 70 (by omega) (by omega), F1 70 (by omega)]) (by rw [F 71 (by omega) (by omega), F1 71 (by omega)])
  have kL : ∀ h' : Nat → Int → Int, (∀ b, ¬ b = 81 → ¬ b = 88 → h' b = h1 b) → LcOk h' C w := fun h' F => L1.keep (fun b b1 b2 => F b (by omega) (by omega))
  have last : ∀ p : Int, p ≤ 4 → 0 ≤ p → ∀ (h' : Nat → Int → Int) (o : Int → Int) u, (∀ b, ¬ b = 81 → ¬ b = 88 → h' b = h1 b) → lsI C w (NP C) o → (∀ q, 0 ≤ q → q < 4 → h' 88 q = o q) → (∀ q, 0 ≤ q → q < p → h' 81 q = o q) → MD_leastNow_109 g h' p u K := by
    refine up_ind ?_ ?_
    · intro _ h' o u F I Ho Ha
      refine MD_leastNow_109_wp hG ⟨fun _ => MD_heldMany_spec hG (kE h' F) W (kL h' F) ?_, fun z => absurd z (by omega)⟩
      have k := k h' (fun b nb => (F b (by omega) (by omega)).trans (F1 b (by omega)))
      rcases I with ⟨a, b⟩ | ⟨m, m1, m2, m3, m4, m5⟩
      · have e : hld C w = 0 := cntI_none a
        rw [lowV_none a] at k
        exact ⟨fun z => absurd e z, fun _ => k⟩
      · obtain ⟨e1, e2⟩ := low_of W hn m1 m2 m3 m4
        rw [e1] at k
        refine ⟨fun _ => MD_toldNow_spec hG (kE h' F) W hn (c := m) (fun p p0 p1 => ?_) (m1.dg W) k, fun z => absurd z (by omega)⟩
        rw [Ha p p0 (by omega), m5 p p0 p1]
    · intro p hp ih p0 h' o u F I Ho Ha
      refine MD_leastNow_109_wp hG ⟨fun z => absurd z (by omega), fun _ => ?_⟩
      simp (disch := omega) only [mwi, bd, forall_eq]
      refine ih (by omega) _ o u (fun b a1 a2 => by rw [upd_ob a1]; exact F b a1 a2) I (fun q q0 q1 => by rw [upd_ob (by omega)]; exact Ho q q0 q1) (fun q q0 q1 => ?_)
      by_cases e : q = p
      · rw [e, upd_at]; exact Ho p p0 hp
      · rw [upd_ix e]; exact Ha q q0 (by omega)
  have mid : ∀ i, i ≤ NP C → 0 ≤ i → ∀ (h' : Nat → Int → Int) u, (∀ b, ¬ b = 81 → ¬ b = 88 → h' b = h1 b) → lsI C w i (h' 88) → MD_leastNow_27 g h' i u K := by
    refine up_ind ?_ ?_
    · intro _ h' u F I
      exact MD_leastNow_27_wp hG (MD_cutsAll_spec hG (kE h' F) W ⟨fun _ => last 0 (by omega) (Int.le_refl _) h' (h' 88) u F I (fun _ _ _ => rfl) (fun q q0 q1 => by omega), fun z => absurd z (by omega)⟩)
    · intro i hi ih i0 h' u F I
      refine MD_leastNow_27_wp hG (MD_cutsAll_spec hG (kE h' F) W ⟨fun z => absurd z (by omega), fun _ => MD_take_spec hG (kE h' F) W hn i0 hi (fun h2 F2 A2 => ?_)⟩)
      have F2' : ∀ b, ¬ b = 81 → ¬ b = 88 → h2 b = h1 b := fun b a1 a2 => (F2 b a1).trans (F b a1 a2)
      have I2 : lsI C w i (h2 88) := by rw [F2 88 (by omega)]; exact I
      have e3 : h1 83 i = pick (held C w i) 1 0 := (L1 i i0 hi).2.1
      have inner : ∀ p, p ≤ cN C → 0 ≤ p → ∀ (h' : Nat → Int → Int), (∀ b, ¬ b = 88 → h' b = h2 b) → (∀ q, 0 ≤ q → q < p → h' 88 q = min (h2 88 q) (ctI C i q)) → (∀ q, ¬ (0 ≤ q ∧ q < p) → h' 88 q = h2 88 q) → (held C w i ∨ p = 0) → MD_leastNow_42 g h' i p K := by
        refine up_ind ?_ ?_
        · intro _ h' F3 D1 D2 hh
          have F3' : ∀ b, ¬ b = 81 → ¬ b = 88 → h' b = h1 b := fun b a1 a2 => (F3 b a2).trans (F2' b a1 a2)
          refine MD_leastNow_42_wp hG ⟨fun _ => ?_, fun z => absurd z (by rw [(kE h' F3').1]; omega)⟩
          rw [mwi (by omega) (by omega)]
          rcases hh with hh | hh
          · exact ih (by omega) h' _ F3' (I2.yes W w0 i0 hi hh D1)
          · omega
        · intro p hp ih2 p0 h' F3 D1 D2 hh
          have F3' : ∀ b, ¬ b = 81 → ¬ b = 88 → h' b = h1 b := fun b a1 a2 => (F3 b a2).trans (F2' b a1 a2)
          have A3 : h' 81 p = ctI C i p := by rw [F3 81 (by omega)]; exact A2 p p0 hp
          refine MD_leastNow_42_wp hG ⟨fun z => absurd z (by rw [(kE h' F3').1]; omega), fun _ => ?_⟩
          rw [F3' 83 (by omega) (by omega), e3, pick_1, pick_0]
          refine ⟨⟨i0, by omega⟩, fun z => ?_, fun z => ?_⟩
          · rw [mwi (by omega) (by omega)]
            rcases hh with hh | hh
            · exact absurd hh z
            · subst hh
              have e88 : h' 88 = h2 88 := by
                funext q
                exact D2 q (by omega)
              exact ih (by omega) h' _ F3' (by rw [e88]; exact I2.no z)
          · have fin : ∀ x, x = min (h' 88 p) (ctI C i p) → MD_leastNow_42 g (mvUpd h' 88 p x) i (p + 1) K := fun x hx => by
              refine ih2 (by omega) _ (fun b nb => by rw [upd_ob nb]; exact F3 b nb) (fun q q0 q1 => ?_) (fun q q0 => ?_) (Or.inl z)
              · by_cases e : q = p
                · rw [e, upd_at, hx, D2 p (by omega)]
                · rw [upd_ix e]; exact D1 q q0 (by omega)
              · rw [upd_ix (by omega)]; exact D2 q (by omega)
            simp (disch := omega) only [mwi, bd, forall_eq, A3]
            exact ⟨fun z => fin _ (by omega), fun z => fin _ (by omega)⟩
      exact inner 0 W.1 (Int.le_refl _) h2 (fun _ _ => rfl) (fun q q0 q1 => by omega) (fun _ _ => rfl) (Or.inr rfl)
  have first : ∀ p : Int, p ≤ 4 → 0 ≤ p → ∀ (h' : Nat → Int → Int) u, (∀ b, ¬ b = 81 → ¬ b = 88 → h' b = h1 b) → (∀ q, 0 ≤ q → q < p → h' 88 q = 16) → MD_leastNow_6 g h' p u K := by
    refine up_ind ?_ ?_
    · intro _ h' u F D
      exact MD_leastNow_6_wp hG ⟨fun _ => mid 0 (by omega) (Int.le_refl _) h' u F (Or.inl ⟨fun j j0 j1 => by omega, fun p p0 p1 => D p p0 (by omega)⟩), fun z => absurd z (by omega)⟩
    · intro p hp ih p0 h' u F D
      refine MD_leastNow_6_wp hG ⟨fun z => absurd z (by omega), fun _ => ?_⟩
      simp (disch := omega) only [mwi, bd, forall_eq]
      refine ih (by omega) _ u (fun b a1 a2 => by rw [upd_ob a2]; exact F b a1 a2) (fun q q0 q1 => ?_)
      by_cases e : q = p
      · rw [e, upd_at]
      · rw [upd_ix e]; exact D q q0 (by omega)
  exact first 0 (by omega) (Int.le_refl _) h1 none (fun _ _ _ => rfl) (fun q q0 q1 => by omega)
theorem MD_beginOf_spec (hG : Gok sw g) (R : MdR h C) (W : Wf C) (Wh : MdW h w) {p r : Int} (hr : mv32 r) {K : Int → (Nat → Int → Int) → Prop} (p0 : 0 ≤ p) (p1 : p < cN C) (k : K (bgn C w p r) h) : MD_beginOf g h p r K := by
  have hN := W.2.1
  have hs := W.sz p
  unfold mv32 at hr
  refine MD_beginOf_wp hG ?_
  by_cases r0 : 0 ≤ r
  · have key : ∀ i : Int, i ≤ cS C p + 1 → ∀ u, 0 ≤ i → nIv C w p i ≤ r → MD_beginOf_5 g h p r (r - nIv C w p i) i u K := by
      refine up_ind ?_ ?_
      · intro u _ hl
        refine MD_beginOf_5_wp hG ⟨⟨p0, by omega⟩, fun _ => ?_, fun z => absurd z (by rw [R.2.1 p p0 (by omega)]; omega)⟩
        rw [bgn_none W (by omega)] at k
        exact k
      · intro i hi ih u i0 hl
        have ih := fun u => ih u (by omega)
        have nn := (nIv_le (C := C) (w := w) (p := p) i0).1
        have no : ¬ ivB C w p i → MD_beginOf_54 g h p r (r - nIv C w p i) i 0 K := fun z => by
          have e : nIv C w p (i + 1) = nIv C w p i := cntI_n i0 z
          refine MD_beginOf_54_wp hG ⟨fun _ => ⟨fun _ => ?_, fun z => absurd rfl z⟩, fun z => absurd rfl z⟩
          simp (disch := omega) only [mwi, forall_eq, Int.sub_zero]
          have := ih (some 0)
          rw [e] at this
          exact this hl
        have yes : ivB C w p i → MD_beginOf_54 g h p r (r - nIv C w p i) i 1 K := fun z => by
          have e : nIv C w p (i + 1) = nIv C w p i + 1 := cntI_y i0 z
          refine MD_beginOf_54_wp hG ⟨fun z => absurd z (by decide), fun _ => ⟨fun z2 => ⟨fun z => absurd z (by decide), fun _ => ?_⟩, fun z2 => ?_⟩⟩
          · simp (disch := omega) only [mwi, forall_eq]
            have := ih (some 1)
            rw [e, show r - (nIv C w p i + 1) = r - nIv C w p i - 1 by omega] at this
            exact this (by omega)
          · have e2 : bgn C w p r = i := by
              refine fst_at i0 hi ⟨z, by omega⟩ (fun q q0 q1 y => ?_)
              have := cntI_lt (P := ivB C w p) q0 q1 y.1
              have y2 := y.2
              unfold nIv at y2 z2
              omega
            rw [e2] at k
            exact k
        refine MD_beginOf_5_wp hG ⟨⟨p0, by omega⟩, fun z => absurd z (by rw [R.2.1 p p0 (by omega)]; omega), fun _ => ⟨fun z => absurd z (by omega), fun _ => MD_isAllowed_spec hG R W Wh p0 p1 i0 (by omega) (fun o => ⟨fun z => absurd z (by decide), fun _ => ⟨fun z => yes ⟨o, Or.inl z⟩, fun z => ?_⟩⟩) (fun o => ⟨fun _ => no (fun y => o y.1), fun z => absurd rfl z⟩)⟩⟩
        rw [mwi (by omega) (by omega)]
        refine MD_isAllowed_spec hG R W Wh p0 p1 (by omega) (by omega) (fun o2 => ⟨fun _ => no (fun y => ?_), fun z => absurd z (by decide)⟩) (fun o2 => ⟨fun z => absurd rfl z, fun _ => yes ⟨o, Or.inr o2⟩⟩)
        rcases y.2 with y | y
        · exact z y
        · exact y o2
    have h0 := key 0 (by omega) none (Int.le_refl _) (by show (0 : Int) ≤ r; omega)
    have e0 : r - nIv C w p 0 = r := by show r - 0 = r; omega
    rw [e0] at h0
    exact h0
  · rw [bgn_none W (by omega)] at k
    refine MD_beginOf_5_wp hG ⟨⟨p0, by omega⟩, fun _ => k, fun _ => ⟨fun _ => k, fun z => absurd z (by omega)⟩⟩
theorem MD_endOf_spec (hG : Gok sw g) (R : MdR h C) (W : Wf C) (Wh : MdW h w) {p r b : Int} {K : Int → (Nat → Int → Int) → Prop} (p0 : 0 ≤ p) (p1 : p < cN C) (b0 : 0 ≤ b) (b1 : b ≤ cS C p) (ho : okv C w p b) (hn : nIv C w p (b + 1) = r + 1) (k : K (endv C w p r) h) : MD_endOf g h p b K := by
  have hN := W.2.1
  have hs := W.sz p
  obtain ⟨x, x0, x1, x2, x3⟩ := end_ex (C := C) (w := w) (p := p) (r := r) b b1 b0 ho hn
  rw [endv_at (by omega) x1 x2] at k
  refine MD_endOf_wp hG ?_
  have key : ∀ i : Int, i ≤ x → b ≤ i → ∀ u, MD_endOf_2 g h p u i K := by
    refine up_ind ?_ ?_
    · intro _ u
      refine MD_endOf_2_wp hG ⟨⟨p0, by omega⟩, fun _ => k, fun z => ?_⟩
      rw [R.2.1 p p0 (by omega)] at z
      rw [mwi (by omega) (by omega)]
      refine MD_isAllowed_spec hG R W Wh p0 p1 (by omega) (by omega) (fun o => ?_) (fun _ => ⟨fun _ => k, fun z => absurd rfl z⟩)
      rcases x2.2.2 with y | y
      · omega
      · exact absurd o y
    · intro i hi ih bi u
      refine MD_endOf_2_wp hG ⟨⟨p0, by omega⟩, fun z => absurd z (by rw [R.2.1 p p0 (by omega)]; omega), fun z => ?_⟩
      rw [mwi (by omega) (by omega)]
      exact MD_isAllowed_spec hG R W Wh p0 p1 (by omega) (by omega) (fun _ => ⟨fun z => absurd z (by decide), fun _ => ih (by omega) u⟩) (fun o => absurd (x3 i bi hi) o)
  exact key b x0 (Int.le_refl _) _
/-- .. from the begin of an interval on -/
theorem MD_endOf_bgn (hG : Gok sw g) (R : MdR h C) (W : Wf C) (Wh : MdW h w) {p r : Int} {K : Int → (Nat → Int → Int) → Prop} (p0 : 0 ≤ p) (p1 : p < cN C) (r0 : 0 ≤ r) (r1 : r < nIv C w p (cS C p + 1)) (k : K (endv C w p r) h) : MD_endOf g h p (bgn C w p r) K := by
  obtain ⟨b0, b1, b2, b3⟩ := bgn_ok W r0 r1
  refine MD_endOf_spec hG R W Wh p0 p1 b0 b1 b2.1 ?_ k
  have e : nIv C w p (bgn C w p r + 1) = nIv C w p (bgn C w p r) + 1 := cntI_y b0 b2
  omega
theorem MD_intervals_spec (hG : Gok sw g) (R : MdR h C) (W : Wf C) (Wh : MdW h w) {p : Int} {K : Int → (Nat → Int → Int) → Prop} (p0 : 0 ≤ p) (p1 : p < cN C) (k : K (nIn C w p) h) : MD_intervals g h p K := by
  have hN := W.2.1
  have hs := W.sz p
  rw [nIn_in p0 p1] at k
  have nl := nIv_le (C := C) (w := w) (p := p) (k := cS C p + 1) (by omega)
  refine MD_intervals_wp hG ?_
  have key : ∀ i : Int, i ≤ nIv C w p (cS C p + 1) → 0 ≤ i → MD_intervals_2 g h p i K := by
    refine up_ind ?_ ?_
    · intro _
      refine MD_intervals_2_wp hG (MD_beginOf_spec hG R W Wh (by unfold mv32; omega) p0 p1 ?_)
      exact ⟨fun _ => k, fun z => absurd (bgn_none W (by omega)) z⟩
    · intro i hi ih i0
      refine MD_intervals_2_wp hG (MD_beginOf_spec hG R W Wh (by unfold mv32; omega) p0 p1 ?_)
      have b := (bgn_ok W i0 hi).1
      rw [mwi (by omega) (by omega)]
      exact ⟨fun z => absurd z (by omega), fun _ => ih (by omega)⟩
  exact key 0 nl.1 (Int.le_refl _)
/-- begins and ends as they stand -/
theorem MD_isOverlap_spec (hG : Gok sw g) (E : MdOk h C) {b x : Int → Int} (B : ∀ p, 0 ≤ p → p < cN C → h 89 p = b p ∧ 0 ≤ b p ∧ b p ≤ cS C p) (X : ∀ p, 0 ≤ p → p < cN C → h 90 p = x p ∧ 0 ≤ x p ∧ x p ≤ cS C p) {K : Int → (Nat → Int → Int) → Prop}
    (kt : (∀ p q, 0 ≤ p → p < cN C → 0 ≤ q → q < cN C → ¬ p = q → ovl C p q (b p) (x q)) → K 1 h) (kf : (¬ ∀ p q, 0 ≤ p → p < cN C → 0 ≤ q → q < cN C → ¬ p = q → ovl C p q (b p) (x q)) → K 0 h) : MD_isOverlap g h K := by
  have W := E.2.2.1.1
  have hN := W.2.1
  have R := E.1
  refine MD_isOverlap_wp hG ?_
  have key : ∀ i : Int, i ≤ 16 → 0 ≤ i → ∀ y u v t, y = pick (∀ j, 0 ≤ j → j < i → ¬ j / 4 = j % 4 → j / 4 < cN C → j % 4 < cN C → ovl C (j / 4) (j % 4) (b (j / 4)) (x (j % 4))) 1 0 → MD_isOverlap_4 g h y i u v t K := by
    refine up_ind ?_ ?_
    · intro _ y u v t hy
      have e : (∀ j, 0 ≤ j → j < 16 → ¬ j / 4 = j % 4 → j / 4 < cN C → j % 4 < cN C → ovl C (j / 4) (j % 4) (b (j / 4)) (x (j % 4))) ↔ ∀ p q, 0 ≤ p → p < cN C → 0 ≤ q → q < cN C → ¬ p = q → ovl C p q (b p) (x q) := by
        constructor
        · intro z p q p0 p1 q0 q1 ne
          have e1 : (4 * p + q) / 4 = p := by omega
          have e2 : (4 * p + q) % 4 = q := by omega
          have := z (4 * p + q) (by omega) (by omega)
          rw [e1, e2] at this
          exact this ne p1 q1
        · intro z j j0 j1 ne a1 a2
          exact z _ _ (by omega) a1 (by omega) a2 ne
      refine MD_isOverlap_4_wp hG ⟨fun _ => ?_, fun z => absurd z (by omega)⟩
      rw [pick_cg e] at hy
      rcases Classical.em (∀ p q, 0 ≤ p → p < cN C → 0 ≤ q → q < cN C → ¬ p = q → ovl C p q (b p) (x q)) with a | a
      · rw [hy, pick_t a]; exact ⟨Or.inr rfl, kt a⟩
      · rw [hy, pick_f a]; exact ⟨Or.inl rfl, kf a⟩
    · intro i hi ih i0 y u v t hy
      have ih := ih (by omega)
      have e1 : mw (i.tdiv 4) = i / 4 := by rw [tdv i0, mwi (by omega) (by omega)]
      have e2 : i.tmod 4 = i % 4 := tmd i0
      have ext : (∀ j, 0 ≤ j → j < i + 1 → ¬ j / 4 = j % 4 → j / 4 < cN C → j % 4 < cN C → ovl C (j / 4) (j % 4) (b (j / 4)) (x (j % 4))) ↔ (∀ j, 0 ≤ j → j < i → ¬ j / 4 = j % 4 → j / 4 < cN C → j % 4 < cN C → ovl C (j / 4) (j % 4) (b (j / 4)) (x (j % 4))) ∧ (¬ i / 4 = i % 4 → i / 4 < cN C → i % 4 < cN C → ovl C (i / 4) (i % 4) (b (i / 4)) (x (i % 4))) := by
        constructor
        · intro z; exact ⟨fun j j0 j1 => z j j0 (by omega), z i i0 (by omega)⟩
        · rintro ⟨z1, z2⟩ j j0 j1
          by_cases e : j = i
          · rw [e]; exact z2
          · exact z1 j j0 (by omega)
      have nx : ∀ y' u v t, (y' = 1 ∧ ¬ y = 0 ∧ (¬ i / 4 = i % 4 → i / 4 < cN C → i % 4 < cN C → ovl C (i / 4) (i % 4) (b (i / 4)) (x (i % 4)))) ∨ (y' = 0 ∧ (y = 0 ∨ ¬ (¬ i / 4 = i % 4 → i / 4 < cN C → i % 4 < cN C → ovl C (i / 4) (i % 4) (b (i / 4)) (x (i % 4))))) → MD_isOverlap_4 g h y' (i + 1) u v t K := by
        intro y' u v t hc
        refine ih y' u v t ?_
        rw [pick_cg ext]
        rcases hc with ⟨a1, a2, a3⟩ | ⟨a1, a2⟩
        · rw [a1]
          refine (pick_t ⟨?_, a3⟩).symm
          rw [hy] at a2
          exact pick_1.mp a2
        · rw [a1]
          refine (pick_f (fun z => ?_)).symm
          rcases a2 with a2 | a2
          · rw [hy] at a2
            exact pick_0.mp a2 z.1
          · exact a2 z.2
      have zero : (¬ i / 4 = i % 4 → i / 4 < cN C → i % 4 < cN C → ovl C (i / 4) (i % 4) (b (i / 4)) (x (i % 4))) → MD_isOverlap_75 g h y i (i / 4) (i % 4) 0 K := fun z => by
        refine MD_isOverlap_75_wp hG ⟨fun y0 => ?_, fun y0 => ⟨fun _ => ?_, fun z => absurd rfl z⟩⟩
        · rw [mwi (by omega) (by omega)]; exact nx 0 _ _ _ (Or.inr ⟨rfl, Or.inl y0⟩)
        · rw [mwi (by omega) (by omega)]; exact nx 1 _ _ _ (Or.inl ⟨rfl, y0, z⟩)
      refine MD_isOverlap_4_wp hG ⟨fun z => absurd z (by omega), fun _ => ?_⟩
      simp only [forall_eq, e1, e2, R.1]
      refine ⟨fun z => zero (fun n => absurd z n), fun ne => ⟨fun z => zero (fun _ n => absurd n (by omega)), fun l1 => ⟨fun z => zero (fun _ _ n => absurd n (by omega)), fun l2 => ?_⟩⟩⟩
      obtain ⟨B1, B2, B3⟩ := B (i / 4) (by omega) l1
      obtain ⟨X1, X2, X3⟩ := X (i % 4) (by omega) l2
      have s1 := W.sz (i / 4)
      simp (disch := omega) only [bd, B1, X1, R.2.1]
      refine ⟨fun z => zero (fun _ _ _ => Or.inl (by omega)), fun b0 => ⟨fun z => zero (fun _ _ _ => Or.inr (Or.inl (by omega))), fun xl => ?_⟩⟩
      refine MD_isOverlap_75_wp hG ⟨fun y0 => ?_, fun y0 => ⟨fun z => absurd z (by decide), fun _ => ?_⟩⟩
      · rw [mwi (by omega) (by omega)]; exact nx 0 _ _ _ (Or.inr ⟨rfl, Or.inl y0⟩)
      · simp (disch := omega) only [bd, B1, X1, mwi]
        refine MD_isAhead_spec hG E (by omega) l1 (by omega) l2 X2 xl (fun a => ⟨fun z => absurd z (by decide), fun _ => ?_⟩) (fun a => ⟨fun _ => ?_, fun z => absurd rfl z⟩)
        · exact nx 1 _ _ _ (Or.inl ⟨rfl, y0, fun _ _ _ => Or.inr (Or.inr a.1)⟩)
        · refine nx 0 _ _ _ (Or.inr ⟨rfl, Or.inr (fun z => ?_)⟩)
          rcases z ne l1 l2 with z | z | z
          · omega
          · omega
          · exact a ⟨z, fun y => ne y.1⟩
  exact key 0 (by omega) (Int.le_refl _) 1 _ _ _ (pick_t (fun j j0 j1 => by omega)).symm
theorem MD_strongNow_spec (hG : Gok sw g) (E : MdOk h C) (Wh : MdW h w) {K : Int → (Nat → Int → Int) → Prop} (k : ∀ h', (∀ b, ¬ b = 89 → ¬ b = 90 → h' b = h b) → K (pick (str C w) 1 0) h') : MD_strongNow g h K := by
  have V := E.2.2.1
  have W := V.1
  have hN := W.2.1
  have ar := allI_r W (w := w) (cN C) W.1 hN
  have p5 : ∀ p, pw5 p ≤ 625 := fun p => by unfold pw5; repeat' split <;> omega
  have a625 := p5 (cN C)
  refine MD_strongNow_wp hG ?_
  have kE : ∀ h' : Nat → Int → Int, (∀ b, ¬ b = 89 → ¬ b = 90 → h' b = h b) → MdOk h' C ∧ MdW h' w := fun h' F => ⟨E.keep (by rw [F 68 (by omega) (by omega)]) (fun b b1 b2 => F b (by omega) (by omega)), Wh.keep (by rw [F 68 (by omega) (by omega)]) (by rw [F 68 (by omega) (by omega)]) (F 74 (by omega) (by omega))⟩
  have found : ∀ (h' : Nat → Int → Int) r y u v, (∀ b, ¬ b = 89 → ¬ b = 90 → h' b = h b) → ¬ y = 0 → str C w → MD_strongNow_30 g h' (allI C w (cN C)) y r u v K := fun h' r y u v F hy hs => by
    have k := k h' F
    rw [pick_t hs] at k
    exact MD_strongNow_30_wp hG ⟨fun _ => ⟨fun z => absurd z hy, fun _ => k⟩, fun _ => ⟨fun _ => ⟨fun z => absurd z hy, fun _ => k⟩, fun z => absurd z hy⟩⟩
  have second : ∀ r, r ≤ allI C w (cN C) → 0 ≤ r → (∀ s, 0 ≤ s → s < r → ¬ stC C w s) → ∀ (h' : Nat → Int → Int) u v, (∀ b, ¬ b = 89 → ¬ b = 90 → h' b = h b) → MD_strongNow_30 g h' (allI C w (cN C)) 0 r u v K := by
    refine up_ind ?_ ?_
    · intro _ hz h' u v F
      have k := k h' F
      rw [pick_f (fun ⟨s, s0, s1, s2⟩ => hz s s0 s1 s2)] at k
      exact MD_strongNow_30_wp hG ⟨fun _ => ⟨fun _ => k, fun z => absurd rfl z⟩, fun z => absurd z (by omega)⟩
    · intro r hr ih r0 hz h' u v F
      have np := allI_pos W (w := w) (cN C) W.1 hN (by omega)
      refine MD_strongNow_30_wp hG ⟨fun z => absurd z (by omega), fun _ => ⟨fun z => absurd rfl z, fun _ => ?_⟩⟩
      have inner : ∀ p, p ≤ cN C → 0 ≤ p → ∀ (h' : Nat → Int → Int) u, (∀ b, ¬ b = 89 → ¬ b = 90 → h' b = h b) → (∀ q, 0 ≤ q → q < p → h' 89 q = bgn C w q (dgt C w r q) ∧ h' 90 q = endv C w q (dgt C w r q)) → MD_strongNow_45 g h' (allI C w (cN C)) u r (lft C w r p) p K := by
        refine up_ind ?_ ?_
        · intro _ h' u F D
          obtain ⟨E', W'⟩ := kE h' F
          have dr : ∀ q, 0 ≤ q → q < cN C → 0 ≤ dgt C w r q ∧ dgt C w r q < nIv C w q (cS C q + 1) := fun q q0 q1 => by
            have n := np q q0 q1
            rw [← nIn_in q0 q1]
            exact ⟨Int.emod_nonneg _ (by omega), Int.emod_lt_of_pos _ (by omega)⟩
          refine MD_strongNow_45_wp hG ⟨fun _ => MD_isOverlap_spec hG E' (b := fun q => bgn C w q (dgt C w r q)) (x := fun q => endv C w q (dgt C w r q)) (fun q q0 q1 => ?_) (fun q q0 q1 => ?_) (fun a => ?_) (fun a => ?_), fun z => absurd z (by rw [E'.1.1]; omega)⟩
          · have d := dr q q0 q1
            have b := bgn_ok W d.1 d.2
            exact ⟨(D q q0 q1).1, b.1, b.2.1⟩
          · have d := dr q q0 q1
            have b := endv_ok W d.1 d.2
            exact ⟨(D q q0 q1).2, b.1, b.2.1⟩
          · exact found h' _ 1 _ _ F (by decide) ⟨r, r0, hr, a⟩
          · rw [mwi (by omega) (by omega)]
            refine ih (by omega) (fun s s0 s1 => ?_) h' _ _ F
            by_cases e : s = r
            · rw [e]; exact a
            · exact hz s s0 (by omega)
        · intro p hp ih2 p0 h' u F D
          obtain ⟨E', W'⟩ := kE h' F
          have n := np p p0 hp
          have nr := nIn_r W (w := w) (p := p)
          have ln := lft_nn W (w := w) (r := r) (p := p) r0 p0
          have lle : lft C w r p ≤ r := by
            refine int_ind (P := fun p => lft C w r p ≤ r) (Int.le_refl _) ?_ p p0
            intro i i0 ihi
            rw [lft_s i0]
            have := Int.ediv_le_self (nIn C w i) (lft_nn W (w := w) (r := r) (p := i) r0 i0)
            omega
          have d0 : 0 ≤ dgt C w r p ∧ dgt C w r p < nIn C w p := ⟨Int.emod_nonneg _ (by omega), Int.emod_lt_of_pos _ (by omega)⟩
          have d1 := d0
          rw [nIn_in p0 hp] at d1
          refine MD_strongNow_45_wp hG ⟨fun z => absurd z (by rw [E'.1.1]; omega), fun _ => MD_intervals_spec hG E'.1 W W' p0 hp ⟨by omega, ?_⟩⟩
          rw [tmd ln]
          have ed : lft C w r p % nIn C w p = dgt C w r p := rfl
          rw [ed]
          refine MD_beginOf_spec hG E'.1 W W' (by unfold mv32; omega) p0 hp ?_
          simp (disch := omega) only [bd, forall_eq, upd_at]
          have F2 : ∀ b, ¬ b = 89 → ¬ b = 90 → mvUpd h' 89 p (bgn C w p (dgt C w r p)) b = h b := fun b a1 a2 => by rw [upd_ob a1]; exact F b a1 a2
          obtain ⟨E2, W2⟩ := kE _ F2
          refine MD_endOf_bgn hG E2.1 W W2 p0 hp d1.1 d1.2 ?_
          have F3 : ∀ b, ¬ b = 89 → ¬ b = 90 → mvUpd (mvUpd h' 89 p (bgn C w p (dgt C w r p))) 90 p (endv C w p (dgt C w r p)) b = h b := fun b a1 a2 => by rw [upd_ob a2, upd_ob a1]; exact F b a1 a2
          obtain ⟨E3, W3⟩ := kE _ F3
          refine MD_intervals_spec hG E3.1 W W3 p0 hp ⟨by omega, ?_⟩
          have dl : 0 ≤ lft C w r p / nIn C w p ∧ lft C w r p / nIn C w p ≤ lft C w r p := ⟨Int.ediv_nonneg ln (by omega), Int.ediv_le_self _ ln⟩
          simp only [tdv ln, forall_eq]
          rw [mwi (z := lft C w r p / nIn C w p) (by omega) (by omega), mwi (z := p + 1) (by omega) (by omega), ← lft_s p0]
          refine ih2 (by omega) _ _ F3 (fun q q0 q1 => ?_)
          by_cases e : q = p
          · rw [e, upd_at, upd_ob (by omega), upd_at]; exact ⟨rfl, rfl⟩
          · rw [upd_no (b := 89) (fun z => by omega), upd_no (b := 89) (fun z => e z.2), upd_no (b := 90) (fun z => e z.2), upd_no (b := 90) (fun z => by omega)]; exact D q q0 (by omega)
      exact inner 0 W.1 (Int.le_refl _) h' _ F (fun q q0 q1 => by omega)
  have first : ∀ p, p ≤ cN C → 0 ≤ p → ∀ u v t, MD_strongNow_4 g h (allI C w p) p u v t K := by
    refine up_ind ?_ ?_
    · intro _ u v t
      exact MD_strongNow_4_wp hG ⟨fun _ => second 0 ar.1 (Int.le_refl _) (fun s s0 s1 => by omega) h _ _ (fun _ _ _ => rfl), fun z => absurd z (by rw [E.1.1]; omega)⟩
    · intro p hp ih p0 u v t
      have a := allI_r W (w := w) (p + 1) (by omega) (by omega)
      have a6 := p5 (p + 1)
      have ih := ih (by omega)
      rw [allI_s p0] at a ih
      refine MD_strongNow_4_wp hG ⟨fun z => absurd z (by rw [E.1.1]; omega), fun _ => MD_intervals_spec hG E.1 W Wh p0 hp ?_⟩
      simp (disch := omega) only [mwi, forall_eq]
      exact ih _ _ _
  exact first 0 W.1 (Int.le_refl _) _ _ _
end MD
