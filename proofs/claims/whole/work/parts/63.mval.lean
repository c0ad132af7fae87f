/-! the model: values, messages under way, the predicate -/
theorem and1 (x : Int) : mvAnd x 1 = 0 ∨ mvAnd x 1 = 1 := by
  obtain ⟨j, hj, e⟩ := pk_andE (Int32.ofInt x) (m := Int32.ofInt 1) 1 (by decide)
  unfold mvAnd
  rw [e]
  rcases (show j = 0 ∨ j = 1 by omega) with rfl | rfl
  · left; rfl
  · right; rfl
theorem cOf_self {C : Cmp} (W : Wf C) {p x : Int} (p0 : 0 ≤ p) (p1 : p < cN C) (hx : x = 1 ∨ x = 2) {k : Int} (k0 : 0 ≤ k) (k1 : k ≤ cS C p) : cOf C p x p k = 0 := by
  have key : ∀ k, 0 ≤ k → k ≤ cS C p → cOf C p x p k = 0 := by
    refine int_ind (fun _ => rfl) ?_
    intro i i0 ih hi
    rw [cOf_s i0, if_neg (fun z => ?_), ih (by omega)]
    rcases W.2.2.2.2.2 p i p0 p1 i0 (by omega) with ⟨a, -⟩ | ⟨-, -, -, b⟩
    · omega
    · exact b z.2
  exact key k k0 k1
theorem sumI_1 {f : Int → Int} : sumI f 1 = f 0 := by
  have e : sumI f 1 = sumI f 0 + f 0 := sumI_s (k := 0) (by omega)
  rw [e]; show 0 + f 0 = f 0; omega
theorem sumI_2 {f : Int → Int} : sumI f 2 = f 0 + f 1 := by
  have e : sumI f 2 = sumI f 1 + f 1 := sumI_s (k := 1) (by omega)
  rw [e, sumI_1]
theorem sumI_3 {f : Int → Int} : sumI f 3 = f 0 + f 1 + f 2 := by
  have e : sumI f 3 = sumI f 2 + f 2 := sumI_s (k := 2) (by omega)
  rw [e, sumI_2]
theorem sumI_4 {f : Int → Int} : sumI f 4 = f 0 + f 1 + f 2 + f 3 := by
  have e : sumI f 4 = sumI f 3 + f 3 := sumI_s (k := 3) (by omega)
  rw [e, sumI_3]
theorem sumI_16 {f : Int → Int} : sumI f 16 = f 0 + f 1 + f 2 + f 3 + f 4 + f 5 + f 6 + f 7 + f 8 + f 9 + f 10 + f 11 + f 12 + f 13 + f 14 + f 15 := by
  have e4 : sumI f 5 = sumI f 4 + f 4 := sumI_s (k := 4) (by omega)
  have e5 : sumI f 6 = sumI f 5 + f 5 := sumI_s (k := 5) (by omega)
  have e6 : sumI f 7 = sumI f 6 + f 6 := sumI_s (k := 6) (by omega)
  have e7 : sumI f 8 = sumI f 7 + f 7 := sumI_s (k := 7) (by omega)
  have e8 : sumI f 9 = sumI f 8 + f 8 := sumI_s (k := 8) (by omega)
  have e9 : sumI f 10 = sumI f 9 + f 9 := sumI_s (k := 9) (by omega)
  have ea : sumI f 11 = sumI f 10 + f 10 := sumI_s (k := 10) (by omega)
  have eb : sumI f 12 = sumI f 11 + f 11 := sumI_s (k := 11) (by omega)
  have ec : sumI f 13 = sumI f 12 + f 12 := sumI_s (k := 12) (by omega)
  have ed : sumI f 14 = sumI f 13 + f 13 := sumI_s (k := 13) (by omega)
  have ee : sumI f 15 = sumI f 14 + f 14 := sumI_s (k := 14) (by omega)
  have ef : sumI f 16 = sumI f 15 + f 15 := sumI_s (k := 15) (by omega)
  rw [ef, ee, ed, ec, eb, ea, e9, e8, e7, e6, e5, e4, sumI_4]
/-- what was sent more than received: by the other processes -/
theorem sr_sum {C : Cmp} (W : Wf C) {p : Int} (p0 : 0 ≤ p) (p1 : p < cN C) {k : Int} (k0 : 0 ≤ k) (k1 : k ≤ cS C p) : sr C p k = sumI (fun t => cOf C p 1 t k) (cN C) - sumI (fun t => cOf C p 2 t k) (cN C) := by
  have key : ∀ k, 0 ≤ k → k ≤ cS C p → sr C p k = sumI (fun t => cOf C p 1 t k) (cN C) - sumI (fun t => cOf C p 2 t k) (cN C) := by
    refine int_ind ?_ ?_
    · intro _
      rw [show sr C p 0 = 0 from rfl]
      have e1 : sumI (fun t => cOf C p 1 t 0) (cN C) = 0 := (sumI_congr (g := fun _ => 0) (fun i _ _ => rfl)).trans (sumI_z _)
      have e2 : sumI (fun t => cOf C p 2 t 0) (cN C) = 0 := (sumI_congr (g := fun _ => 0) (fun i _ _ => rfl)).trans (sumI_z _)
      omega
    · intro i i0 ih hi
      have ih := ih (by omega)
      have same : ∀ x, ¬ cK C p i = x → sumI (fun t => cOf C p x t (i + 1)) (cN C) = sumI (fun t => cOf C p x t i) (cN C) := fun x hx => sumI_congr (fun t t0 t1 => by show cOf C p x t (i + 1) = _; rw [cOf_s i0, if_neg (fun z => hx z.1)])
      have more : ∀ x, cK C p i = x → 0 ≤ cD C p i → cD C p i < cN C → sumI (fun t => cOf C p x t (i + 1)) (cN C) = sumI (fun t => cOf C p x t i) (cN C) + 1 := fun x hx d0 d1 => sumI_one (p := cD C p i) W.1 d0 d1 (fun t t0 t1 n => by show cOf C p x t (i + 1) = _; rw [cOf_s i0, if_neg (fun z => n z.2.symm)]) (by show cOf C p x (cD C p i) (i + 1) = _; rw [cOf_s i0, if_pos ⟨hx, rfl⟩])
      rw [sr_s i0]
      rcases W.2.2.2.2.2 p i p0 p1 i0 (by omega) with ⟨a, -⟩ | ⟨a, b0, b1, -⟩
      · rw [if_neg (by omega), if_neg (by omega), same 1 (by omega), same 2 (by omega)]; exact ih
      · rcases a with a | a
        · rw [if_pos a, more 1 a b0 b1, same 2 (by omega)]; omega
        · rw [if_neg (by omega), if_pos a, more 2 a b0 b1, same 1 (by omega)]; omega
  exact key k k0 k1
theorem ub_cons {C : Cmp} (V : Valid C) {c : Int → Int} (hi : In C c) (hc : Cons C c) {f t : Int} (f0 : 0 ≤ f) (f1 : f < cN C) (t0 : 0 ≤ t) (t1 : t < cN C) : ub C c f t (c f) = cOf C f 1 t (c f) - cOf C t 2 f (c t) := by
  have W := V.1
  have hst := W.sz t
  have hct := hi t
  have hcf := hi f
  have r0 := (cOf_le (C := C) (p := t) (K := 2) (q := f) hct.1).1
  have key : ∀ m, 0 ≤ m → m ≤ c f → ub C c f t m = max 0 (cOf C f 1 t m - cOf C t 2 f (c t)) := by
    refine int_ind ?_ ?_
    · intro _
      rw [show ub C c f t 0 = 0 from rfl, cOf_0]; omega
    · intro m m0 ih hm
      have ih := ih (by omega)
      rw [ub_s m0, cOf_s m0]
      by_cases a : cK C f m = 1 ∧ cD C f m = t
      · rw [if_pos a]
        have cb := (cOf_le (C := C) (p := f) (K := 1) (q := t) m0).1
        have ep : cPt C f m = cNth C t 2 f (cOf C f 1 t m) (cS C t) := by
          unfold cPt
          rw [if_neg (by omega), a.1, a.2]; rfl
        have iff : (cPt C f m = -1 ∨ c t ≤ cPt C f m) ↔ cOf C t 2 f (c t) ≤ cOf C f 1 t m := by
          rw [ep]
          by_cases e : cNth C t 2 f (cOf C f 1 t m) (cS C t) = -1
          · have l := (cNth_none hst.1 cb).mp e
            have l2 := cOf_mono (C := C) (p := t) (K := 2) (q := f) hct.1 hct.2
            constructor
            · intro _; omega
            · intro _; exact Or.inl e
          · have n := cNth_nth hst.1 e
            have l := isNth_lt n hct.1
            constructor
            · rintro (z | z)
              · exact absurd z e
              · omega
            · intro z; right; omega
        by_cases z : cOf C t 2 f (c t) ≤ cOf C f 1 t m
        · rw [if_pos ⟨a.1, a.2, iff.mpr z⟩]; omega
        · rw [if_neg (fun y => z (iff.mp y.2.2))]; omega
      · rw [if_neg a, if_neg (fun y => a ⟨y.1, y.2.1⟩)]; exact ih
  rw [key (c f) hcf.1 (Int.le_refl _)]
  have := hc t f t0 t1 f0 f1
  omega
/-- all pairs, one behind the other -/
def uaT (C : Cmp) (c : Int → Int) (i : Int) : Int := if ¬ i / 4 = i % 4 ∧ i / 4 < cN C ∧ i % 4 < cN C then ub C c (i / 4) (i % 4) (c (i / 4)) else 0
theorem ua_uw {C : Cmp} (V : Valid C) (hn : 1 ≤ cN C) {c : Int → Int} (hi : In C c) (hc : Cons C c) : sumI (uaT C c) 16 = uw C c (cN C) := by
  have W := V.1
  have hN := W.2.1
  have L : ∀ f t, 0 ≤ f → f < cN C → 0 ≤ t → t < cN C → ub C c f t (c f) = cOf C f 1 t (c f) - cOf C t 2 f (c t) := fun f t a b d e => ub_cons V hi hc a b d e
  have S : ∀ p, 0 ≤ p → p < cN C → sr C p (c p) = sumI (fun t => cOf C p 1 t (c p)) (cN C) - sumI (fun t => cOf C p 2 t (c p)) (cN C) := fun p a b => sr_sum W a b (hi p).1 (hi p).2
  have Z1 : ∀ p, 0 ≤ p → p < cN C → cOf C p 1 p (c p) = 0 := fun p a b => cOf_self W a b (Or.inl rfl) (hi p).1 (hi p).2
  have Z2 : ∀ p, 0 ≤ p → p < cN C → cOf C p 2 p (c p) = 0 := fun p a b => cOf_self W a b (Or.inr rfl) (hi p).1 (hi p).2
  have eu : uw C c (cN C) = sumI (fun p => sr C p (c p)) (cN C) := rfl
  rw [eu, sumI_16]
  rcases (show cN C = 1 ∨ cN C = 2 ∨ cN C = 3 ∨ cN C = 4 by omega) with e | e | e | e
  · have s0 := S 0 (by omega) (by omega)
    rw [e] at s0 ⊢
    simp only [sumI_1] at s0 ⊢
    simp [uaT, e]
    have := Z1 0 (by omega) (by omega); have := Z2 0 (by omega) (by omega)
    omega
  · have s0 := S 0 (by omega) (by omega); have s1 := S 1 (by omega) (by omega)
    have l1 := L 0 1 (by omega) (by omega) (by omega) (by omega); have l2 := L 1 0 (by omega) (by omega) (by omega) (by omega)
    have := Z1 0 (by omega) (by omega); have := Z2 0 (by omega) (by omega)
    have := Z1 1 (by omega) (by omega); have := Z2 1 (by omega) (by omega)
    rw [e] at s0 s1 ⊢
    simp only [sumI_2] at s0 s1 ⊢
    simp [uaT, e]
    omega
  · have s0 := S 0 (by omega) (by omega); have s1 := S 1 (by omega) (by omega); have s2 := S 2 (by omega) (by omega)
    have l1 := L 0 1 (by omega) (by omega) (by omega) (by omega); have l2 := L 1 0 (by omega) (by omega) (by omega) (by omega)
    have l3 := L 0 2 (by omega) (by omega) (by omega) (by omega); have l4 := L 2 0 (by omega) (by omega) (by omega) (by omega)
    have l5 := L 1 2 (by omega) (by omega) (by omega) (by omega); have l6 := L 2 1 (by omega) (by omega) (by omega) (by omega)
    have := Z1 0 (by omega) (by omega); have := Z2 0 (by omega) (by omega)
    have := Z1 1 (by omega) (by omega); have := Z2 1 (by omega) (by omega)
    have := Z1 2 (by omega) (by omega); have := Z2 2 (by omega) (by omega)
    rw [e] at s0 s1 s2 ⊢
    simp only [sumI_3] at s0 s1 s2 ⊢
    simp [uaT, e]
    omega
  · have s0 := S 0 (by omega) (by omega); have s1 := S 1 (by omega) (by omega); have s2 := S 2 (by omega) (by omega); have s3 := S 3 (by omega) (by omega)
    have l1 := L 0 1 (by omega) (by omega) (by omega) (by omega); have l2 := L 1 0 (by omega) (by omega) (by omega) (by omega)
    have l3 := L 0 2 (by omega) (by omega) (by omega) (by omega); have l4 := L 2 0 (by omega) (by omega) (by omega) (by omega)
    have l5 := L 1 2 (by omega) (by omega) (by omega) (by omega); have l6 := L 2 1 (by omega) (by omega) (by omega) (by omega)
    have l7 := L 0 3 (by omega) (by omega) (by omega) (by omega); have l8 := L 3 0 (by omega) (by omega) (by omega) (by omega)
    have l9 := L 1 3 (by omega) (by omega) (by omega) (by omega); have la := L 3 1 (by omega) (by omega) (by omega) (by omega)
    have lb := L 2 3 (by omega) (by omega) (by omega) (by omega); have lc := L 3 2 (by omega) (by omega) (by omega) (by omega)
    have := Z1 0 (by omega) (by omega); have := Z2 0 (by omega) (by omega)
    have := Z1 1 (by omega) (by omega); have := Z2 1 (by omega) (by omega)
    have := Z1 2 (by omega) (by omega); have := Z2 2 (by omega) (by omega)
    have := Z1 3 (by omega) (by omega); have := Z2 3 (by omega) (by omega)
    rw [e] at s0 s1 s2 s3 ⊢
    simp only [sumI_4] at s0 s1 s2 s3 ⊢
    simp [uaT, e]
    omega
section MD
variable {sw : Bool} {g : Nat → Nat → Nat} {h : Nat → Int → Int} {C : Cmp} {c : Int → Int} {w : Wsh}
theorem MD_valueOf_spec (hG : Gok sw g) (R : MdR h C) (W : Wf C) {p m : Int} {K : Int → (Nat → Int → Int) → Prop} (p0 : 0 ≤ p) (p1 : p < cN C) (m0 : 0 ≤ m) (m1 : m ≤ cS C p) (k : K (vl C p m) h) : MD_valueOf g h p m K := by
  have hN := W.2.1
  have hs := W.sz p
  refine MD_valueOf_wp hG ?_
  have key : ∀ i : Int, i ≤ m → ∀ u, 0 ≤ i → MD_valueOf_5 g h p m (vl C p i) i u K := by
    refine up_ind ?_ ?_
    · intro u _
      exact MD_valueOf_5_wp hG ⟨fun _ => k, fun z => absurd z (by omega)⟩
    · intro i hi ih u i0
      have r := R.2.2 p i p0 p1 i0 (by omega)
      have ih := fun u => ih u (by omega)
      rw [vl_s i0] at ih
      refine MD_valueOf_5_wp hG ⟨fun z => absurd z (by omega), fun _ => ?_⟩
      simp (disch := omega) only [mwi, forall_eq, bd, r.1, r.2]
      refine ⟨fun n => ?_, fun y => ?_⟩
      · rw [if_neg n] at ih; exact ih _
      · rw [if_pos y] at ih; exact ih _
  exact key 0 m0 none (Int.le_refl _)
theorem MD_underOf_spec (hG : Gok sw g) (E : MdOk h C) (A : At h C c) (hi : In C c) {f t : Int} {K : Int → (Nat → Int → Int) → Prop} (f0 : 0 ≤ f) (f1 : f < cN C) (t0 : 0 ≤ t) (t1 : t < cN C) (k : K (ub C c f t (c f)) h) : MD_underOf g h f t K := by
  obtain ⟨R, L, V, iV, hn⟩ := E
  have W := V.1
  have hN := W.2.1
  have hs := W.sz f
  have hcf := hi f
  refine MD_underOf_wp hG ?_
  have key : ∀ i : Int, i ≤ c f → ∀ u v, 0 ≤ i → MD_underOf_5 g h f t (ub C c f t i) i u v K := by
    refine up_ind ?_ ?_
    · intro u v _
      exact MD_underOf_5_wp hG ⟨⟨f0, by omega⟩, fun _ => k, fun z => absurd z (by rw [A f f0 f1]; omega)⟩
    · intro i hi2 ih u v i0
      have r := R.2.2 f i f0 f1 i0 (by omega)
      have r3 := L.1 f i f0 f1 i0 (by omega)
      have hr := ub_r (C := C) (c := c) (f := f) (t := t) i0
      have ih := fun u v => ih u v (by omega)
      rw [ub_s i0] at ih
      refine MD_underOf_5_wp hG ⟨⟨f0, by omega⟩, fun z => absurd z (by rw [A f f0 f1]; omega), fun _ => ?_⟩
      simp (disch := omega) only [mwi, forall_eq, bd, r.1, r.2, r3, A t t0 t1, Int.add_zero]
      refine ⟨fun n => ?_, fun y => ⟨fun n => ?_, fun y2 => ⟨fun y3 => ?_, fun n3 => ⟨fun n4 => ?_, fun y4 => ?_⟩⟩⟩⟩
      · rw [if_neg (fun z => n z.1)] at ih; exact ih _ _
      · rw [if_neg (fun z => n z.2.1)] at ih; exact ih _ _
      · rw [if_pos ⟨y, y2, Or.inl y3⟩] at ih; exact ih _ _
      · rw [if_neg (fun z => by rcases z.2.2 with q | q <;> omega)] at ih; exact ih _ _
      · rw [if_pos ⟨y, y2, Or.inr y4⟩] at ih; exact ih _ _
  exact key 0 hcf.1 none none (Int.le_refl _)
theorem MD_underAll_spec (hG : Gok sw g) (E : MdOk h C) (A : At h C c) (hi : In C c) (hc : Cons C c) {K : Int → (Nat → Int → Int) → Prop} (k : K (uw C c (cN C)) h) : MD_underAll g h K := by
  have E0 := E
  obtain ⟨R, L, V, iV, hn⟩ := E
  have W := V.1
  have hN := W.2.1
  refine MD_underAll_wp hG ?_
  have ur : ∀ f t, 0 ≤ f → 0 ≤ ub C c f t (c f) ∧ ub C c f t (c f) ≤ 9 := fun f t f0 => by
    have := ub_r (C := C) (c := c) (f := f) (t := t) (hi f).1
    have := hi f
    have := W.sz f
    omega
  have key : ∀ i : Int, i ≤ 16 → ∀ u v, 0 ≤ i → 0 ≤ sumI (uaT C c) i ∧ sumI (uaT C c) i ≤ 9 * i → MD_underAll_4 g h (sumI (uaT C c) i) i u v K := by
    refine up_ind ?_ ?_
    · intro u v _ _
      exact MD_underAll_4_wp hG ⟨fun _ => by rw [ua_uw V hn hi hc]; exact k, fun z => absurd z (by omega)⟩
    · intro i hi2 ih u v i0 hr
      have ih := fun u v => ih u v (by omega)
      rw [sumI_s i0] at ih
      refine MD_underAll_4_wp hG ⟨fun z => absurd z (by omega), fun _ => ?_⟩
      simp (disch := omega) only [tdv, tmd, mwi, forall_eq, R.1, Int.add_zero]
      have no : ¬ (¬ i / 4 = i % 4 ∧ i / 4 < cN C ∧ i % 4 < cN C) → ∀ u v, MD_underAll_4 g h (sumI (uaT C c) i) (i + 1) u v K := fun n u v => by
        have ih := ih u v
        unfold uaT at ih
        rw [if_neg n, Int.add_zero] at ih
        exact ih (by unfold uaT at hr; omega)
      refine ⟨fun z => no (fun y => y.1 z) _ _, fun z => ⟨fun z2 => no (fun y => by omega) _ _, fun z2 => ⟨fun z3 => no (fun y => by omega) _ _, fun z3 => ?_⟩⟩⟩
      have u9 := ur (i / 4) (i % 4) (by omega)
      refine MD_underOf_spec hG E0 A hi (by omega) z2 (by omega) z3 ?_
      rw [mwi (by omega) (by omega)]
      have ih := ih (some (i / 4)) (some (i % 4))
      have e : uaT C c i = ub C c (i / 4) (i % 4) (c (i / 4)) := by unfold uaT; rw [if_pos ⟨z, z2, z3⟩]
      rw [e] at ih
      exact ih (by omega)
  exact key 0 (by omega) none none (Int.le_refl _) (by show (0 : Int) ≤ 0 ∧ (0 : Int) ≤ 9 * 0; omega)
theorem MD_isAllowed_spec (hG : Gok sw g) (R : MdR h C) (W : Wf C) (Wh : MdW h w) {p m : Int} {K : Int → (Nat → Int → Int) → Prop} (p0 : 0 ≤ p) (p1 : p < cN C) (m0 : 0 ≤ m) (m1 : m ≤ cS C p) (kt : okv C w p m → K 1 h) (kf : ¬ okv C w p m → K 0 h) : MD_isAllowed g h p m K := by
  have hN := W.2.1
  refine MD_isAllowed_wp hG ⟨⟨p0, by omega⟩, MD_valueOf_spec hG R W p0 p1 m0 m1 ?_⟩
  rw [Wh.2.2.1 p p0 (by omega)]
  have b := and1 (mvShr (w.2.2 p) (vl C p m))
  unfold okv bit at kt kf
  exact ⟨fun n => kf (fun z => by omega), fun y => kt (by omega)⟩
theorem MD_areAllowed_spec (hG : Gok sw g) (R : MdR h C) (W : Wf C) (Wh : MdW h w) (A : At h C c) (hi : In C c) {K : Int → (Nat → Int → Int) → Prop} (kt : (∀ p, 0 ≤ p → p < cN C → bit (w.2.2 p) (vl C p (c p))) → K 1 h) (kf : (¬ ∀ p, 0 ≤ p → p < cN C → bit (w.2.2 p) (vl C p (c p))) → K 0 h) : MD_areAllowed g h K := by
  have hN := W.2.1
  refine MD_areAllowed_wp hG ?_
  have key : ∀ p : Int, p ≤ cN C → 0 ≤ p → ∀ y, y = pick (∀ q, 0 ≤ q → q < p → bit (w.2.2 q) (vl C q (c q))) 1 0 → MD_areAllowed_4 g h y p K := by
    refine up_ind ?_ ?_
    · intro _ y hy
      refine MD_areAllowed_4_wp hG ⟨fun _ => ?_, fun z => absurd z (by rw [R.1]; omega)⟩
      rcases Classical.em (∀ q, 0 ≤ q → q < cN C → bit (w.2.2 q) (vl C q (c q))) with a | a
      · rw [hy, pick_t a]; exact ⟨Or.inr rfl, kt a⟩
      · rw [hy, pick_f a]; exact ⟨Or.inl rfl, kf a⟩
    · intro p hp ih p0 y hy
      refine MD_areAllowed_4_wp hG ⟨fun z => absurd z (by rw [R.1]; omega), fun _ => ?_⟩
      simp (disch := omega) only [mwi, bd, A p p0 hp]
      refine ⟨fun y0 => ih (by omega) 0 ?_, fun y0 => MD_isAllowed_spec hG R W Wh p0 hp (hi p).1 (hi p).2 (fun o => ⟨fun z => absurd z (by decide), fun _ => ih (by omega) 1 ?_⟩) (fun o => ⟨fun _ => ih (by omega) 0 ?_, fun z => absurd rfl z⟩)⟩
      · refine (pick_f (fun y2 => ?_)).symm
        rw [hy, pick_t (fun q q0 q1 => y2 q q0 (by omega))] at y0; omega
      · refine (pick_t (Classical.byContradiction (fun n => y0 ?_))).symm
        rw [hy]
        refine pick_f (fun y2 => n (fun q q0 q1 => ?_))
        by_cases e : q = p
        · rw [e]; exact o
        · exact y2 q q0 (by omega)
      · exact (pick_f (fun y2 => o (y2 p p0 (by omega)))).symm
  exact key 0 W.1 (Int.le_refl _) 1 (pick_t (fun q q0 q1 => by omega)).symm
theorem MD_sumOfValues_spec (hG : Gok sw g) (R : MdR h C) (W : Wf C) (A : At h C c) (hi : In C c) {K : Int → (Nat → Int → Int) → Prop} (k : K (sumV C c (cN C)) h) : MD_sumOfValues g h K := by
  have hN := W.2.1
  refine MD_sumOfValues_wp hG ?_
  have key : ∀ p : Int, p ≤ cN C → 0 ≤ p → 0 ≤ sumV C c p ∧ sumV C c p ≤ 9 * p → MD_sumOfValues_4 g h (sumV C c p) p K := by
    refine up_ind ?_ ?_
    · intro _ _
      exact MD_sumOfValues_4_wp hG ⟨fun _ => k, fun z => absurd z (by rw [R.1]; omega)⟩
    · intro p hp ih p0 hr
      have hv := vl_cut W hi p0 hp
      have ih := ih (by omega)
      rw [sumV_s p0] at ih
      refine MD_sumOfValues_4_wp hG ⟨fun z => absurd z (by rw [R.1]; omega), fun _ => ⟨⟨p0, by omega⟩, ?_⟩⟩
      rw [A p p0 hp]
      refine MD_valueOf_spec hG R W p0 hp (hi p).1 (hi p).2 ?_
      simp (disch := omega) only [mwi, forall_eq]
      exact ih (by omega)
  exact key 0 W.1 (Int.le_refl _) (by show (0 : Int) ≤ 0 ∧ (0 : Int) ≤ 9 * 0; omega)
theorem MD_spreadNow_spec (hG : Gok sw g) (R : MdR h C) (W : Wf C) (hn : 1 ≤ cN C) (A : At h C c) (hi : In C c) {K : Int → (Nat → Int → Int) → Prop} (k : K (maxV C c (cN C) - minV C c (cN C)) h) : MD_spreadNow g h K := by
  have hN := W.2.1
  refine MD_spreadNow_wp hG ?_
  have key : ∀ p : Int, p ≤ cN C → ∀ u, 1 ≤ p → (0 ≤ minV C c p ∧ minV C c p ≤ 9) ∧ (0 ≤ maxV C c p ∧ maxV C c p ≤ 9) → MD_spreadNow_16 g h (maxV C c p) (minV C c p) p u K := by
    refine up_ind ?_ ?_
    · intro u _ hr
      refine MD_spreadNow_16_wp hG ⟨fun _ => ?_, fun z => absurd z (by rw [R.1]; omega)⟩
      rw [mwi (by omega) (by omega)]; exact k
    · intro p hp ih u p0 hr
      have hv := vl_cut W hi (p := p) (by omega) hp
      have ih := fun u => ih u (by omega)
      rw [minV_s (by omega), maxV_s (by omega)] at ih
      have ih := fun u => ih u (by omega)
      refine MD_spreadNow_16_wp hG ⟨fun z => absurd z (by rw [R.1]; omega), fun _ => ⟨⟨by omega, by omega⟩, ?_⟩⟩
      rw [A p (by omega) hp]
      refine MD_valueOf_spec hG R W (by omega) hp (hi p).1 (hi p).2 ?_
      rw [mwi (z := p + 1) (by omega) (by omega)]
      refine ⟨fun a => ⟨fun b => ?_, fun b => ?_⟩, fun a => ⟨fun b => ?_, fun b => ?_⟩⟩
      · rw [Int.max_eq_left a, Int.min_eq_left b] at ih; exact ih _
      · rw [Int.max_eq_left a, Int.min_eq_right (by omega)] at ih; exact ih _
      · rw [Int.max_eq_right (by omega), Int.min_eq_left b] at ih; exact ih _
      · rw [Int.max_eq_right (by omega), Int.min_eq_right (by omega)] at ih; exact ih _
  have hv := vl_cut W hi (p := 0) (by omega) (by omega)
  rw [A 0 (by omega) (by omega)]
  refine MD_valueOf_spec hG R W (by omega) (by omega) (hi 0).1 (hi 0).2 ?_
  have e1 : maxV C c 1 = vl C 0 (c 0) := by
    have e : maxV C c 1 = max (maxV C c 0) (vl C 0 (c 0)) := maxV_s (p := 0) (by omega)
    rw [e]; show max 0 _ = _; omega
  have e2 : minV C c 1 = vl C 0 (c 0) := by
    have e : minV C c 1 = min (minV C c 0) (vl C 0 (c 0)) := minV_s (p := 0) (by omega)
    rw [e]; show min 9 _ = _; omega
  have h0 := key 1 hn none (Int.le_refl _) (by rw [e1, e2]; omega)
  rw [e1, e2] at h0
  exact h0
theorem MD_holds_spec (hG : Gok sw g) (E : MdOk h C) (Wh : MdW h w) (A : At h C c) (hi : In C c) (hc : Cons C c) {K : Int → (Nat → Int → Int) → Prop} (kt : Hold C w c → K 1 h) (kf : ¬ Hold C w c → K 0 h) : MD_holds g h K := by
  have E0 := E
  obtain ⟨R, L, V, iV, hn⟩ := E
  have W := V.1
  obtain ⟨W1, W2, W3, W4, W5, W6, W7⟩ := id Wh
  unfold Hold at kt kf
  refine MD_holds_wp hG ?_
  rw [W1]
  refine ⟨fun z => ?_, fun z => ?_, fun z => ?_, fun z => ?_⟩
  · rw [if_neg (by omega), if_neg (by omega), if_neg (by omega)] at kt kf
    refine MD_spreadNow_spec hG R W hn A hi ?_
    rw [W2]
    exact ⟨fun y => kf (by omega), fun y => kt y⟩
  · rw [if_pos z] at kt kf
    exact MD_areAllowed_spec hG R W Wh A hi (fun y => ⟨Or.inr rfl, kt y⟩) (fun y => ⟨Or.inl rfl, kf y⟩)
  · rw [if_neg (by omega), if_pos z] at kt kf
    refine MD_sumOfValues_spec hG R W A hi ?_
    rw [W2]
    exact ⟨fun y => kf y, fun y => kt y⟩
  · rw [if_neg (by omega), if_neg (by omega), if_pos z] at kt kf
    exact MD_underAll_spec hG E0 A hi hc ⟨fun y => kf y, fun y => kt y⟩
theorem MD_eventNow_spec (hG : Gok sw g) (E : MdOk h C) {p k x : Int} {K : Int → (Nat → Int → Int) → Prop} (p0 : 0 ≤ p) (p1 : p < cN C) (k0 : 0 ≤ k) (k1 : k < cS C p) (x0 : 0 ≤ x) (x1 : x ≤ 6) (kk : K (evProp C p k x) h) : MD_eventNow g h p k x K := by
  obtain ⟨R, L, V, iV, hn⟩ := E
  have W := V.1
  have hN := W.2.1
  have hs := W.sz p
  obtain ⟨r1, r2⟩ := R.2.2 p k p0 p1 k0 k1
  have r3 := L.1 p k p0 p1 k0 k1
  unfold evProp at kk
  refine MD_eventNow_wp hG ?_
  simp (disch := omega) only [mwi, forall_eq, bd, r1, r2, r3, R.1]
  refine ⟨fun z => ?_, fun z => ?_, fun z => ?_, fun z => ?_⟩
  · rw [if_neg (by omega), if_neg (by omega), if_neg (by omega)] at kk
    refine ⟨fun y => ?_, fun y => ?_⟩
    · rw [if_neg (by omega)] at kk; exact kk
    · rw [if_pos y] at kk
      have e : 4 * (9 * p + k) + x - 3 = 4 * (9 * p + k) + (x - 3) := by omega
      simp (disch := omega) only [mwi, bd]
      rw [e, L.2 p k (x - 3) p0 p1 k0 k1 (by omega) y]
      exact kk
  · rw [if_pos z] at kk; exact kk
  · rw [if_neg (by omega), if_pos z] at kk; exact kk
  · rw [if_neg (by omega), if_neg (by omega), if_pos z] at kk; exact kk
/-- before, told by the vectors -/
def bfr (C : Cmp) (p k q m : Int) : Prop := k < vec C q m p ∧ ¬ (p = q ∧ k = m)
theorem MD_isAhead_spec (hG : Gok sw g) (E : MdOk h C) {p k q m : Int} {K : Int → (Nat → Int → Int) → Prop} (p0 : 0 ≤ p) (p1 : p < cN C) (q0 : 0 ≤ q) (q1 : q < cN C) (m0 : 0 ≤ m) (m1 : m < cS C q) (kt : bfr C p k q m → K 1 h) (kf : ¬ bfr C p k q m → K 0 h) : MD_isAhead g h p k q m K := by
  obtain ⟨R, L, V, iV, hn⟩ := E
  have W := V.1
  have hN := W.2.1
  have hs := W.sz q
  have r := L.2 q m p q0 q1 m0 m1 p0 p1
  refine MD_isAhead_wp hG ?_
  unfold bfr at kt kf
  simp (disch := omega) only [mwi, bd, r]
  exact ⟨fun z => kf (fun y => by omega), fun z => ⟨fun n => kt ⟨z, fun y => n y.1⟩, fun e => ⟨fun e2 => kf (fun y => y.2 ⟨e, e2⟩), fun n2 => kt ⟨z, fun y => n2 y.2⟩⟩⟩⟩
noncomputable def aOrd (C : Cmp) (p k q m : Int) : Int := pick (p = q ∧ k = m) 2 (pick (bfr C p k q m) 1 (pick (bfr C q m p k) (-1) 0))
theorem MD_orderNow_spec (hG : Gok sw g) (E : MdOk h C) {p k q m : Int} {K : Int → (Nat → Int → Int) → Prop} (p0 : 0 ≤ p) (p1 : p < cN C) (k0 : 0 ≤ k) (k1 : k < cS C p) (q0 : 0 ≤ q) (q1 : q < cN C) (m0 : 0 ≤ m) (m1 : m < cS C q) (kk : K (aOrd C p k q m) h) : MD_orderNow g h p k q m K := by
  unfold aOrd at kk
  have ne : ¬ (p = q ∧ k = m) → MD_isAhead g h p k q m (fun r2 h1 => ((r2 = 0 → MD_isAhead g h1 q m p k (fun r4 h3 => ((r4 = 0 → K 0 h3) ∧ (¬ r4 = 0 → K (-1) h3)))) ∧ (¬ r2 = 0 → K 1 h1))) := fun n => by
    rw [pick_f n] at kk
    refine MD_isAhead_spec hG E p0 p1 q0 q1 m0 m1 (fun a => ⟨fun z => absurd z (by decide), fun _ => ?_⟩) (fun a => ⟨fun _ => MD_isAhead_spec hG E q0 q1 p0 p1 k0 k1 (fun b => ⟨fun z => absurd z (by decide), fun _ => ?_⟩) (fun b => ⟨fun _ => ?_, fun z => absurd rfl z⟩), fun z => absurd rfl z⟩)
    · rw [pick_t a] at kk; exact kk
    · rw [pick_f a, pick_t b] at kk; exact kk
    · rw [pick_f a, pick_f b] at kk; exact kk
  refine MD_orderNow_wp hG ⟨fun n => ne (fun y => n y.1), fun e => ⟨fun n => ne (fun y => n y.2), fun e2 => ?_⟩⟩
  rw [pick_t ⟨e, e2⟩] at kk; exact kk
theorem MD_eventsOf_spec (hG : Gok sw g) (R : MdR h C) (W : Wf C) {x : Int} {K : Int → (Nat → Int → Int) → Prop} (k : K (ck C x (cN C)) h) : MD_eventsOf g h x K := by
  have hN := W.2.1
  refine MD_eventsOf_wp hG ?_
  have key : ∀ p : Int, p ≤ cN C → ∀ u, 0 ≤ p → MD_eventsOf_4 g h x (ck C x p) p u K := by
    refine up_ind ?_ ?_
    · intro u _
      exact MD_eventsOf_4_wp hG ⟨fun _ => k, fun z => absurd z (by rw [R.1]; omega)⟩
    · intro p hp ih u p0
      have ih := fun u => ih u (by omega)
      rw [ck_s p0] at ih
      have hs := W.sz p
      have cr := ck_r W (K := x) p0
      refine MD_eventsOf_4_wp hG ⟨fun z => absurd z (by rw [R.1]; omega), fun _ => ?_⟩
      have inner : ∀ i : Int, i ≤ cS C p → 0 ≤ i → MD_eventsOf_15 g h x (ck1 C x p i (ck C x p)) p i K := by
        refine up_ind ?_ ?_
        · intro i0
          refine MD_eventsOf_15_wp hG ⟨⟨p0, by omega⟩, fun _ => ?_, fun z => absurd z (by rw [R.2.1 p p0 (by omega)]; omega)⟩
          rw [mwi (by omega) (by omega)]
          exact ih _
        · intro i hi ih2 i0
          have r := (R.2.2 p i p0 hp i0 hi).1
          have c1 := ck1_r (C := C) (K := x) (p := p) (a := ck C x p) i0
          have ih2 := ih2 (by omega)
          rw [ck1_s i0] at ih2
          refine MD_eventsOf_15_wp hG ⟨⟨p0, by omega⟩, fun z => absurd z (by rw [R.2.1 p p0 (by omega)]; omega), fun _ => ?_⟩
          simp (disch := omega) only [mwi, forall_eq, bd, r, Int.add_zero]
          refine ⟨fun n => ?_, fun y => ?_⟩
          · rw [if_neg n] at ih2; exact ih2
          · rw [if_pos y] at ih2; exact ih2
      exact inner 0 hs.1 (Int.le_refl _)
  exact key 0 W.1 none (Int.le_refl _)
end MD
