/-! Events: the other looking methods -/
def ck1 (C : Cmp) (K p k : Int) (a : Int) : Int := it (fun i s => if cK C p i = K then s + 1 else s) a k
theorem ck1_s {C : Cmp} {K p k a : Int} (h : 0 ≤ k) : ck1 C K p (k + 1) a = if cK C p k = K then ck1 C K p k a + 1 else ck1 C K p k a := by unfold ck1; rw [it_s h]
theorem ck1_r {C : Cmp} {K p k a : Int} (h : 0 ≤ k) : a ≤ ck1 C K p k a ∧ ck1 C K p k a ≤ a + k := by
  refine int_ind (P := fun k => a ≤ ck1 C K p k a ∧ ck1 C K p k a ≤ a + k) ?_ ?_ k h
  · show a ≤ a ∧ a ≤ a + 0; omega
  · intro i hi ih
    rw [ck1_s hi]
    split <;> omega
/-- how many events of a kind the first p processes have -/
def ck (C : Cmp) (K p : Int) : Int := it (fun i s => ck1 C K i (cS C i) s) 0 p
theorem ck_s {C : Cmp} {K p : Int} (h : 0 ≤ p) : ck C K (p + 1) = ck1 C K p (cS C p) (ck C K p) := by unfold ck; rw [it_s h]
theorem ck_r {C : Cmp} (W : Wf C) {K p : Int} (h : 0 ≤ p) : 0 ≤ ck C K p ∧ ck C K p ≤ 9 * p := by
  refine int_ind (P := fun p => 0 ≤ ck C K p ∧ ck C K p ≤ 9 * p) ?_ ?_ p h
  · show (0 : Int) ≤ 0 ∧ (0 : Int) ≤ 9 * 0; omega
  · intro i hi ih
    rw [ck_s hi]
    have := W.sz i
    have := ck1_r (C := C) (K := K) (p := i) (k := cS C i) (a := ck C K i) (by omega)
    omega
/-- a number is one of a cut -/
def IsC (C : Cmp) (x : Int) : Prop := 0 ≤ x ∧ x < ten (cN C) ∧ ∀ p, 0 ≤ p → p < cN C → dg (cN C) x p ≤ cS C p
/-- the cut that a number tells -/
def cutOf (C : Cmp) (x : Int) : Int → Int := fun p => if 0 ≤ p ∧ p < cN C then dg (cN C) x p else 0
theorem IsC.cut {C : Cmp} (W : Wf C) (hn : 1 ≤ cN C) {x : Int} (h : IsC C x) : In C (cutOf C x) ∧ en (cN C) (cutOf C x) = x := by
  refine ⟨fun p => ?_, ?_⟩
  · unfold cutOf
    by_cases hp : 0 ≤ p ∧ p < cN C
    · rw [if_pos hp]
      have := h.2.2 p hp.1 hp.2
      unfold dg at this ⊢
      omega
    · rw [if_neg hp]
      have := W.sz p
      omega
  · rw [en_congr (d := dg (cN C) x) ⟨hn, W.2.1⟩ (fun p p0 p1 => by unfold cutOf; rw [if_pos ⟨p0, p1⟩])]
    exact en_dg ⟨hn, W.2.1⟩ h.1 h.2.1
theorem ten_s {j : Int} (h0 : 0 ≤ j) (h1 : j < 4) : ten (j + 1) = 10 * ten j := by
  unfold ten
  rcases (show j = 0 ∨ j = 1 ∨ j = 2 ∨ j = 3 by omega) with rfl | rfl | rfl | rfl <;> simp
theorem div_ten {x j : Int} (x0 : 0 ≤ x) (h0 : 0 ≤ j) (h1 : j < 4) : x / ten j / 10 = x / ten (j + 1) := by
  unfold ten
  rcases (show j = 0 ∨ j = 1 ∨ j = 2 ∨ j = 3 by omega) with rfl | rfl | rfl | rfl <;> simp <;> omega
theorem lt_ten {x n : Int} (x0 : 0 ≤ x) (n0 : 0 ≤ n) (n1 : n ≤ 4) : x < ten n ↔ x / ten n = 0 := by
  unfold ten
  rcases (show n = 0 ∨ n = 1 ∨ n = 2 ∨ n = 3 ∨ n = 4 by omega) with rfl | rfl | rfl | rfl | rfl <;> simp <;> omega
/-- the messages under way, counted by what was sent more than received -/
def uw (C : Cmp) (c : Int → Int) (p : Int) : Int := it (fun i s => s + sr C i (c i)) 0 p
theorem uw_s {C : Cmp} {c : Int → Int} {p : Int} (h : 0 ≤ p) : uw C c (p + 1) = uw C c p + sr C p (c p) := by unfold uw; rw [it_s h]
theorem uw_r {C : Cmp} {c : Int → Int} (hc : ∀ p, 0 ≤ c p ∧ c p ≤ 9) {p : Int} (h : 0 ≤ p) : -(9 * p) ≤ uw C c p ∧ uw C c p ≤ 9 * p := by
  refine int_ind (P := fun p => -(9 * p) ≤ uw C c p ∧ uw C c p ≤ 9 * p) ?_ ?_ p h
  · show -(9 * (0 : Int)) ≤ 0 ∧ (0 : Int) ≤ 9 * 0; omega
  · intro i hi ih
    rw [uw_s hi]
    have := hc i
    have := sr_range (C := C) (p := i) (k := c i) (by omega)
    omega
/-- .. from f to t, one by one -/
def ub (C : Cmp) (c : Int → Int) (f t m : Int) : Int := it (fun s a => if cK C f s = 1 ∧ cD C f s = t ∧ (cPt C f s = -1 ∨ c t ≤ cPt C f s) then a + 1 else a) 0 m
theorem ub_s {C : Cmp} {c : Int → Int} {f t m : Int} (h : 0 ≤ m) : ub C c f t (m + 1) = if cK C f m = 1 ∧ cD C f m = t ∧ (cPt C f m = -1 ∨ c t ≤ cPt C f m) then ub C c f t m + 1 else ub C c f t m := by unfold ub; rw [it_s h]
theorem ub_r {C : Cmp} {c : Int → Int} {f t m : Int} (h : 0 ≤ m) : 0 ≤ ub C c f t m ∧ ub C c f t m ≤ m := by
  refine int_ind (P := fun m => 0 ≤ ub C c f t m ∧ ub C c f t m ≤ m) ⟨Int.le_refl _, Int.le_refl _⟩ ?_ m h
  intro i hi ih
  rw [ub_s hi]
  split <;> omega
noncomputable def evProp (C : Cmp) (p k w : Int) : Int := if w = 0 then cK C p k else if w = 1 then cD C p k else if w = 2 then cPt C p k else if w - 3 < cN C then vec C p k (w - 3) else -1
section EV
variable {sw : Bool} {g : Nat → Nat → Nat} {h : Nat → Int → Int} {e : Nat} {C : Cmp} {c : Int → Int}
theorem EV_hasFreeSend_spec (hG : Gok sw g) (he : EvId e) (E : EvOk e h C) {f t : Int} {K : Int → (Nat → Int → Int) → Prop} (f0 : 0 ≤ f) (f1 : f < cN C) (t0 : 0 ≤ t) (t1 : t < cN C)
    (kt : cOf C t 2 f (cS C t) < cOf C f 1 t (cS C f) → K 1 h) (kf : cOf C f 1 t (cS C f) ≤ cOf C t 2 f (cS C t) → K 0 h) : EV_hasFreeSend g h e f t K := by
  obtain ⟨R, Lk, V, iV, hn, ht⟩ := E
  have W := V.1
  have hN := W.2.1
  have hsf := W.sz f
  have hst := W.sz t
  refine EV_hasFreeSend_wp hG he ?_
  have key : ∀ s : Int, s ≤ cS C f → ∀ u, 0 ≤ s → (∀ m, 0 ≤ m → m < s → cK C f m = 1 → cD C f m = t → ¬ cPt C f m = -1) → EV_hasFreeSend_2 g h e f t s u K := by
    refine up_ind ?_ ?_
    · intro u _ hz
      refine EV_hasFreeSend_2_wp hG he ⟨⟨f0, by omega⟩, fun _ => ?_, fun z => absurd z (by rw [R.2.2.1 f f0 (by omega)]; omega)⟩
      rcases Int.lt_or_le (cOf C t 2 f (cS C t)) (cOf C f 1 t (cS C f)) with a | a
      · exfalso
        obtain ⟨s, s0, s1, s2, s3, s4⟩ := cNth_ex hsf.1 (cOf_le (C := C) (p := t) (K := 2) (q := f) hst.1).1 a
        refine hz s s0 s1 s2 s3 ?_
        unfold cPt
        rw [if_neg (by omega), s2, s3, s4]
        exact (cNth_none hst.1 (cOf_le hst.1).1).mpr (Int.le_refl _)
      · exact kf a
    · intro s hs ih u s0 hz
      obtain ⟨a1, a2⟩ := R.2.2.2 f s f0 f1 s0 hs
      have a3 := Lk.1 f s f0 f1 s0 hs
      refine EV_hasFreeSend_2_wp hG he ⟨⟨f0, by omega⟩, fun z => absurd z (by rw [R.2.2.1 f f0 (by omega)]; omega), fun _ => ?_⟩
      rintro v rfl
      rw [row9 f0 (by omega) s0 (by omega), a1, a2, a3, mwi (z := s + 1) (by omega) (by omega)]
      have skip : ¬ (cK C f s = 1 ∧ cD C f s = t ∧ cPt C f s = -1) → EV_hasFreeSend_2 g h e f t (s + 1) (some (9 * f + s)) K := fun hn' => ih _ (by omega) (fun m m0 m1 mk md => by
        by_cases em : m = s
        · subst em; exact fun z => hn' ⟨mk, md, z⟩
        · exact hz m m0 (by omega) mk md)
      refine ⟨⟨by omega, by omega⟩, fun z => skip (fun y => z y.1), fun z1 => ⟨⟨by omega, by omega⟩, fun z => skip (fun y => z y.2.1), fun z2 => ⟨⟨by omega, by omega⟩, fun z => skip (fun y => z y.2.2), fun z3 => kt ?_⟩⟩⟩
      unfold cPt at z3
      rw [if_neg (by omega), z1, z2] at z3
      have h1 := (cNth_none hst.1 (cOf_le s0).1).mp z3
      have h2 := cOf_lt s0 hs z1 z2
      exact Int.lt_of_le_of_lt h1 h2
  exact key 0 hsf.1 none (Int.le_refl _) (fun m m0 m1 => by omega)
theorem EV_countKind_spec (hG : Gok sw g) (he : EvId e) (R : EvR e h C) (W : Wf C) {k : Int} {K : Int → (Nat → Int → Int) → Prop} (kk : K (ck C k (cN C)) h) : EV_countKind g h e k K := by
  have hN := W.2.1
  refine EV_countKind_wp hG he ?_
  have key : ∀ p : Int, p ≤ cN C → ∀ u, 0 ≤ p → EV_countKind_4 g h e k (ck C k p) p u K := by
    refine up_ind ?_ ?_
    · intro u _
      exact EV_countKind_4_wp hG he ⟨fun _ => kk, fun z => absurd z (by rw [R.1]; omega)⟩
    · intro p hp ih u p0
      have hsz := W.sz p
      have hcr := ck_r W (K := k) p0
      refine EV_countKind_4_wp hG he ⟨fun z => absurd z (by rw [R.1]; omega), fun _ => ?_⟩
      have inner : ∀ m : Int, m ≤ cS C p → 0 ≤ m → EV_countKind_15 g h e k (ck1 C k p m (ck C k p)) p m K := by
        refine up_ind ?_ ?_
        · intro _
          refine EV_countKind_15_wp hG he ⟨⟨p0, by omega⟩, fun _ => ?_, fun z => absurd z (by rw [R.2.2.1 p p0 (by omega)]; omega)⟩
          rw [mwi (by omega) (by omega), ← ck_s p0]
          exact ih _ (by omega)
        · intro m hm ihm m0
          have h1 := ck1_r (C := C) (K := k) (p := p) (a := ck C k p) m0
          refine EV_countKind_15_wp hG he ⟨⟨p0, by omega⟩, fun z => absurd z (by rw [R.2.2.1 p p0 (by omega)]; omega), fun _ => ?_⟩
          have ihm := ihm (by omega)
          rw [ck1_s m0] at ihm
          rw [row9 p0 (by omega) m0 (by omega), (R.2.2.2 p m p0 hp m0 hm).1, mwi (z := m + 1) (by omega) (by omega), mwi (z := ck1 C k p m (ck C k p) + 1) (by omega) (by omega)]
          refine ⟨⟨by omega, by omega⟩, fun z => ?_, fun z => ?_⟩
          · rw [if_neg z] at ihm; exact ihm
          · rw [if_pos z] at ihm; exact ihm
      exact inner 0 hsz.1 (Int.le_refl _)
  exact key 0 W.1 none (Int.le_refl _)
theorem EV_isCut_spec (hG : Gok sw g) (he : EvId e) (R : EvR e h C) (W : Wf C) (hn : 1 ≤ cN C) {x : Int} {K : Int → (Nat → Int → Int) → Prop} (hx : x < 2147483648) (kt : IsC C x → K 1 h) (kf : ¬ IsC C x → K 0 h) : EV_isCut g h e x K := by
  have hN := W.2.1
  refine EV_isCut_wp hG he ⟨fun x0 => ?_, fun x0 => kf (fun z => by have := z.1; omega)⟩
  rintro v rfl
  rw [R.1, mwi (z := cN C - 1) (by omega) (by omega)]
  have key : ∀ j : Int, j ≤ cN C → 0 ≤ j → (∀ p, cN C - 1 - j < p → p < cN C → dg (cN C) x p ≤ cS C p) → EV_isCut_15 g h e (some x) (x / ten j) (cN C - 1 - j) K := by
    refine up_ind ?_ ?_
    · intro j0 hz
      refine EV_isCut_15_wp hG he ⟨fun _ => ⟨fun z => kf (fun y => z ((lt_ten x0 (by omega) hN).mp y.2.1)), fun z => kt ⟨x0, (lt_ten x0 (by omega) hN).mpr z, fun p p0 p1 => hz p (by omega) p1⟩⟩, fun z => absurd z (by omega)⟩
    · intro j hj ih j0 hz
      have hd := ten_div (j := j) x0 hx
      have hdg : dg (cN C) x (cN C - 1 - j) = x / ten j % 10 := by unfold dg; rw [show cN C - 1 - (cN C - 1 - j) = j by omega]
      refine EV_isCut_15_wp hG he ⟨fun z => absurd z (by omega), fun _ => ⟨⟨by omega, by omega⟩, ?_⟩⟩
      rw [R.2.2.1 _ (by omega) (by omega), tmodn hd.1, tdivn hd.1, mwi (z := x / ten j / 10) (by omega) (by omega), mwi (z := cN C - 1 - j + -1) (by omega) (by omega)]
      refine ⟨fun hle => ?_, fun hlt => kf (fun y => by have := y.2.2 (cN C - 1 - j) (by omega) (by omega); omega)⟩
      rintro v rfl
      rw [div_ten x0 j0 (by omega), show cN C - 1 - j + -1 = cN C - 1 - (j + 1) by omega]
      refine ih (by omega) (fun p p0 p1 => ?_)
      by_cases ep : p = cN C - 1 - j
      · rw [ep]; omega
      · exact hz p (by omega) p1
  have h0 := key 0 (by omega) (Int.le_refl _) (fun p p0 p1 => by omega)
  have e0 : x / ten 0 = x := by unfold ten; simp
  rw [e0, show cN C - 1 - 0 = cN C - 1 by omega] at h0
  exact h0
theorem EV_valueIn_spec (hG : Gok sw g) (he : EvId e) (E : EvOk e h C) {p : Int} {K : Int → (Nat → Int → Int) → Prop} (hi : In C c) (p0 : 0 ≤ p) (p1 : p < cN C) (k : K (vl C p (c p)) h) : EV_valueIn g h e (en (cN C) c) p K := by
  obtain ⟨R, Lk, V, iV, hn, ht⟩ := E
  have W := V.1
  have hN := W.2.1
  have hsz := W.sz p
  have hcp := hi p
  refine EV_valueIn_wp hG he ?_
  have e1 : mw (mw (h e 0 - 1) - p) = cN C - 1 - p := by rw [R.1, mwi (z := cN C - 1) (by omega) (by omega), mwi (by omega) (by omega)]
  rw [e1, ht.at (by omega) (by omega)]
  have l := en_lt ⟨hn, hN⟩ (hi.dg W)
  have t := ten_le (cN C)
  have hd := ten_div (x := en (cN C) c) (j := cN C - 1 - p) l.1 (by omega)
  have hdg := dg_en ⟨hn, hN⟩ (hi.dg W) p0 p1
  unfold dg at hdg
  rw [tdivn l.1, mwi (z := en (cN C) c / ten (cN C - 1 - p)) (by omega) (by omega), tmodn hd.1, hdg, row10 p0 (by omega) hcp.1 (by omega), (Lk.2.2 p (c p) p0 p1 hcp.1 hcp.2).1]
  exact ⟨⟨by omega, by omega⟩, ten_ne _, ⟨by omega, by omega⟩, k⟩
theorem EV_underWay_spec (hG : Gok sw g) (he : EvId e) (E : EvOk e h C) {K : Int → (Nat → Int → Int) → Prop} (hi : In C c) (k : K (uw C c (cN C)) h) : EV_underWay g h e (en (cN C) c) K := by
  obtain ⟨R, Lk, V, iV, hn, ht⟩ := E
  have W := V.1
  have hN := W.2.1
  have h9 : ∀ p, 0 ≤ c p ∧ c p ≤ 9 := fun p => by have := hi p; have := W.sz p; omega
  refine EV_underWay_wp hG he ?_
  have key : ∀ p : Int, p ≤ cN C → 0 ≤ p → EV_underWay_4 g h e (en (cN C) c) (uw C c p) p K := by
    refine up_ind ?_ ?_
    · intro _
      exact EV_underWay_4_wp hG he ⟨fun _ => k, fun z => absurd z (by rw [R.1]; omega)⟩
    · intro p hp ih p0
      have hcp := hi p
      have hc9 := h9 p
      have hur := uw_r (C := C) h9 p0
      have hsr := sr_range (C := C) (p := p) (k := c p) hcp.1
      refine EV_underWay_4_wp hG he ⟨fun z => absurd z (by rw [R.1]; omega), fun _ => EV_count hG he R W hn ht hi p0 hp ?_⟩
      rw [row10 p0 (by omega) hcp.1 (by omega), (Lk.2.2 p (c p) p0 hp hcp.1 hcp.2).2]
      refine ⟨⟨by omega, by omega⟩, ?_⟩
      rintro v rfl
      rw [mwi (z := uw C c p + sr C p (c p)) (by omega) (by omega), mwi (z := p + 1) (by omega) (by omega), ← uw_s p0]
      exact ih (by omega)
  exact key 0 W.1 (Int.le_refl _)
theorem EV_underWayBetween_spec (hG : Gok sw g) (he : EvId e) (E : EvOk e h C) {f t : Int} {K : Int → (Nat → Int → Int) → Prop} (hi : In C c) (f0 : 0 ≤ f) (f1 : f < cN C) (t0 : 0 ≤ t) (t1 : t < cN C) (k : K (ub C c f t (c f)) h) : EV_underWayBetween g h e (en (cN C) c) f t K := by
  obtain ⟨R, Lk, V, iV, hn, ht⟩ := E
  have W := V.1
  have hN := W.2.1
  have hsf := W.sz f
  have hcf := hi f
  refine EV_underWayBetween_wp hG he ?_
  have key : ∀ m : Int, m ≤ c f → ∀ u6 u7, 0 ≤ m → EV_underWayBetween_6 g h e (en (cN C) c) f t (ub C c f t m) m u6 u7 K := by
    refine up_ind ?_ ?_
    · intro u6 u7 _
      exact EV_underWayBetween_6_wp hG he (EV_count hG he R W hn ht hi f0 f1 ⟨fun _ => k, fun z => absurd z (by omega)⟩)
    · intro m hm ih u6 u7 m0
      have hr := ub_r (C := C) (c := c) (f := f) (t := t) m0
      obtain ⟨a1, a2⟩ := R.2.2.2 f m f0 f1 m0 (by omega)
      have a3 := Lk.1 f m f0 f1 m0 (by omega)
      have ih := fun u6 u7 => ih u6 u7 (by omega)
      rw [ub_s m0] at ih
      refine EV_underWayBetween_6_wp hG he (EV_count hG he R W hn ht hi f0 f1 ⟨fun z => absurd z (by omega), fun _ => ?_⟩)
      rintro v rfl
      rw [row9 f0 (by omega) m0 (by omega), a1, a2, a3, mwi (z := m + 1) (by omega) (by omega), mwi (z := ub C c f t m + 1) (by omega) (by omega)]
      refine ⟨⟨by omega, by omega⟩, fun z => ?_, fun z1 => ⟨⟨by omega, by omega⟩, fun z => ?_, fun z2 => ⟨⟨by omega, by omega⟩, fun z3 => ?_, fun z3 => ⟨⟨by omega, by omega⟩, EV_count hG he R W hn ht hi t0 t1 ⟨fun z4 => ?_, fun z4 => ?_⟩⟩⟩⟩⟩
      · rw [if_neg (fun y => z y.1)] at ih; exact ih _ _
      · rw [if_neg (fun y => z y.2.1)] at ih; exact ih _ _
      · rw [if_pos ⟨z1, z2, Or.inl z3⟩] at ih; exact ih _ _
      · rw [if_neg (fun y => by rcases y.2.2 with w | w <;> omega)] at ih; exact ih _ _
      · rw [if_pos ⟨z1, z2, Or.inr z4⟩] at ih; exact ih _ _
  exact key 0 hcf.1 none none (Int.le_refl _)
theorem EV_combine_spec (hG : Gok sw g) (he : EvId e) (E : EvOk e h C) {d : Int → Int} {z : Int} {K : Int → (Nat → Int → Int) → Prop} (hi : In C c) (hi2 : In C d) (k : K (en (cN C) (fun p => if z = 0 then min (c p) (d p) else max (c p) (d p))) h) : EV_combine g h e (en (cN C) c) (en (cN C) d) z K := by
  obtain ⟨R, Lk, V, iV, hn, ht⟩ := E
  have W := V.1
  have hN := W.2.1
  generalize hm : (fun p => if z = 0 then min (c p) (d p) else max (c p) (d p)) = m at k
  have m9 : ∀ p, 0 ≤ m p ∧ m p ≤ 9 := fun p => by
    have a := hi p; have b := hi2 p; have s := W.sz p
    rw [← hm]
    show 0 ≤ (if z = 0 then min (c p) (d p) else max (c p) (d p)) ∧ (if z = 0 then min (c p) (d p) else max (c p) (d p)) ≤ 9
    split <;> omega
  refine EV_combine_wp hG he ?_
  have key : ∀ p : Int, p ≤ cN C → ∀ u6 u7, 0 ≤ p → EV_combine_6 g h e (en (cN C) c) (en (cN C) d) z (if p = 0 then 0 else en p m) p u6 u7 K := by
    refine up_ind ?_ ?_
    · intro u6 u7 _
      refine EV_combine_6_wp hG he ⟨fun _ => by rw [if_neg (by omega)]; exact k, fun z => absurd z (by rw [R.1]; omega)⟩
    · intro p hp ih u6 u7 p0
      refine EV_combine_6_wp hG he ⟨fun z => absurd z (by rw [R.1]; omega), fun _ => EV_count hG he R W hn ht hi p0 hp (EV_count hG he R W hn ht hi2 p0 hp ?_)⟩
      have a := hi p; have b := hi2 p; have s := W.sz p
      have st : ∀ v, v = m p → mw (mw ((if p = 0 then 0 else en p m) * 10) + v) = (if p + 1 = 0 then 0 else en (p + 1) m) := by
        intro v hv
        have q0 := m9 0; have q1 := m9 1; have q2 := m9 2; have q3 := m9 3
        rw [hv]
        unfold en
        rcases (show p = 0 ∨ p = 1 ∨ p = 2 ∨ p = 3 by omega) with rfl | rfl | rfl | rfl
        · simp; rw [mwi (z := 0) (by omega) (by omega), mwi (by omega) (by omega)]; omega
        · simp; rw [mwi (z := m 0 * 10) (by omega) (by omega), mwi (by omega) (by omega)]; omega
        · simp; rw [mwi (z := (10 * m 0 + m 1) * 10) (by omega) (by omega), mwi (by omega) (by omega)]; omega
        · simp; rw [mwi (z := (100 * m 0 + 10 * m 1 + m 2) * 10) (by omega) (by omega), mwi (by omega) (by omega)]; omega
      refine ⟨fun z0 => ?_, fun z0 => ?_⟩
      · rintro v rfl
        rw [st _ (by rw [← hm]; show _ = (if z = 0 then min (c p) (d p) else max (c p) (d p)); rw [if_pos z0]; omega), mwi (z := p + 1) (by omega) (by omega)]
        exact ih _ _ (by omega)
      · rintro v rfl
        rw [st _ (by rw [← hm]; show _ = (if z = 0 then min (c p) (d p) else max (c p) (d p)); rw [if_neg z0]; omega), mwi (z := p + 1) (by omega) (by omega)]
        exact ih _ _ (by omega)
  have h0 := key 0 W.1 none none (Int.le_refl _)
  rw [if_pos rfl] at h0
  exact h0
theorem EV_property_spec (hG : Gok sw g) (he : EvId e) (E : EvOk e h C) {p k w : Int} {K : Int → (Nat → Int → Int) → Prop} (p0 : 0 ≤ p) (p1 : p < cN C) (k0 : 0 ≤ k) (k1 : k < cS C p) (w0 : 0 ≤ w) (w1 : w ≤ 6) (kk : K (evProp C p k w) h) : EV_property g h e p k w K := by
  obtain ⟨R, Lk, V, iV, hn, ht⟩ := E
  have W := V.1
  have hN := W.2.1
  have hsz := W.sz p
  obtain ⟨r1, r2⟩ := R.2.2.2 p k p0 p1 k0 k1
  have r3 := Lk.1 p k p0 p1 k0 k1
  unfold evProp at kk
  refine EV_property_wp hG he ?_
  rintro v rfl
  rw [row9 p0 (by omega) k0 (by omega), r1, r2, r3]
  refine ⟨fun z0 => ⟨fun z1 => ⟨fun z2 => ?_, fun z2 => ⟨⟨by omega, by omega⟩, ?_⟩⟩, fun z1 => ⟨⟨by omega, by omega⟩, ?_⟩⟩, fun z0 => ⟨⟨by omega, by omega⟩, ?_⟩⟩
  · rintro v rfl
    rw [mwi (z := w - 3) (by omega) (by omega), R.1]
    rw [if_neg z0, if_neg z1, if_neg z2] at kk
    refine ⟨fun y => absurd y (by omega), fun y => ⟨fun y2 => ?_, fun y2 => ?_⟩⟩
    · rw [if_neg (by omega)] at kk; exact kk
    · rw [if_pos y2] at kk
      rw [row4 (by omega) (by omega) y (by omega), Lk.2.1 p k (w - 3) p0 p1 k0 k1 y y2]
      exact ⟨⟨by omega, by omega⟩, kk⟩
  · rw [if_neg z0, if_neg z1, if_pos z2] at kk; exact kk
  · rw [if_neg z0, if_pos z1] at kk; exact kk
  · rw [if_pos z0] at kk; exact kk
theorem EV_canDropLast_spec (hG : Gok sw g) (he : EvId e) (E : EvOk e h C) {p : Int} {K : Int → (Nat → Int → Int) → Prop} (p0 : 0 ≤ p) (p1 : p < cN C)
    (kt : 0 < cS C p → ¬ (cK C p (cS C p - 1) = 1 ∧ ¬ cPt C p (cS C p - 1) = -1) → K 1 h) (kf : ¬ (0 < cS C p ∧ ¬ (cK C p (cS C p - 1) = 1 ∧ ¬ cPt C p (cS C p - 1) = -1)) → K 0 h) : EV_canDropLast g h e p K := by
  obtain ⟨R, Lk, V, iV, hn, ht⟩ := E
  have W := V.1
  have hN := W.2.1
  have hsz := W.sz p
  refine EV_canDropLast_wp hG he ?_
  rw [R.2.2.1 p p0 (by omega)]
  refine ⟨⟨p0, by omega⟩, fun hne => ⟨⟨p0, by omega⟩, ?_⟩, fun hz => kf (fun y => by omega)⟩
  rintro v rfl
  have e1 : mw (mw (mw (p * 9) + cS C p) - 1) = 9 * p + (cS C p - 1) := by
    rw [row9 p0 (by omega) hsz.1 hsz.2, mwi (by omega) (by omega)]; omega
  obtain ⟨r1, r2⟩ := R.2.2.2 p (cS C p - 1) p0 p1 (by omega) (by omega)
  have r3 := Lk.1 p (cS C p - 1) p0 p1 (by omega) (by omega)
  rw [e1, r1, r3]
  refine ⟨⟨by omega, by omega⟩, fun z => kt (by omega) (fun y => z y.1), fun z => ⟨⟨by omega, by omega⟩, fun z2 => kf (fun y => y.2 ⟨z, z2⟩), fun z2 => kt (by omega) (fun y => y.2 z2)⟩⟩
end EV
