/-! count and digest: the class -/
def mx (a v : Int) : Int := mwl (mwl (31 * a) + v)
noncomputable def dE2 (C : Cmp) (p e a k : Int) : Int := it (fun x s => mx s (evProp C p e x)) a k
noncomputable def dE1 (C : Cmp) (p a k : Int) : Int := it (fun e s => dE2 C p e s 7) a k
noncomputable def dE (C : Cmp) (a k : Int) : Int := it (fun p s => dE1 C p s (cS C p)) a k
noncomputable def dL (C : Cmp) (a k : Int) : Int := it (fun x s => mx s (latP C x)) a k
noncomputable def cutM (C : Cmp) (w : Wsh) (j a k : Int) : Int := it (fun y s => mx s (cutP C w (ctI C j) (y + 2))) (mx a (en (cN C) (ctI C j))) k
noncomputable def rkI (C : Cmp) (r : Int) : Int := fst (fun j => Cons C (ctI C j) ∧ rk C j = r) (NP C)
noncomputable def dR (C : Cmp) (w : Wsh) (a k : Int) : Int := it (fun r s => cutM C w (rkI C r) s 4) a k
noncomputable def dS (C : Cmp) (w : Wsh) (a k : Int) : Int := it (fun x s => mx s (seaP C w x)) a k
noncomputable def dP (C : Cmp) (w : Wsh) (a k : Int) : Int := it (fun i s => mx s (gst C w (pthC C w i))) a k
noncomputable def dI1 (C : Cmp) (w : Wsh) (p a k : Int) : Int := it (fun i s => mx (mx s (bgn C w p i)) (endv C w p i)) a k
noncomputable def dI (C : Cmp) (w : Wsh) (a k : Int) : Int := it (fun p s => dI1 C w p s (nIv C w p (cS C p + 1))) a k
noncomputable def dN (C : Cmp) (w : Wsh) (a k : Int) : Int := it (fun x s => mx s (leanV C w x)) a k
noncomputable def dA (C : Cmp) (w : Wsh) (a : Int) : Int := dN C w (dI C w (mx (mx a (lowV C w)) (pick (str C w) 1 0)) (cN C)) 4
noncomputable def dB (C : Cmp) (w : Wsh) (a : Int) : Int := dP C w (dS C w (dR C w (dL C (dE C a (cN C)) 5) (bl C 17)) 4) (pick (av C w (fun _ => 0)) (cT C) 0)
def dY (st : Int → Int) (a k : Int) : Int := it (fun i s => mx s (st i)) a k
def dT (A : Sta) (a : Int) : Int := if stk A = 0 then a else mx (mx (mx a (scu A)) (sfo A)) (sla A)
def dC (A : Sta) (a k : Int) : Int := it (fun x s => mx s (aCount A x)) a k
noncomputable def d0 (A : Sta) : Int := pick (cN (sC A) = 0) 1549 (pick ((sW A).1 = 0) (dA (sC A) (sW A) (dB (sC A) (sW A) 1549)) (dB (sC A) (sW A) 1549))
noncomputable def aDigest (A : Sta) : Int := dC A (dY (scd A) (dT A (dY (sst A) (d0 A) (sps A))) (sn A)) 8
theorem rkI_at {C : Cmp} (W : Wf C) {j : Int} (j0 : 0 ≤ j) (j1 : j < NP C) (hk : Cons C (ctI C j)) : rkI C (rk C j) = j := by
  refine fst_at j0 j1 ⟨hk, rfl⟩ (fun q q0 q1 z => ?_)
  exact rk_ne W q0 (by omega) z.1 j0 j1 hk (by omega) z.2
section DG
variable {sw : Bool} {g : Nat → Nat → Nat} {h : Nat → Int → Int} {A : Sta} {K : Int → (Nat → Int → Int) → Prop}
theorem RC_count_spec (hG : Gok sw g) (P : StP A) (I : InvC sw h A) {x : Int} (k : K (aCount A x) h) : RC_count g h x K := by
  obtain ⟨eo, he⟩ := evO_r sw
  have R := I.2.1
  unfold aCount at k
  refine RC_count_wp hG ⟨fun z => ?_, fun x0 => ⟨fun x1 => ?_, fun z => ?_⟩⟩
  · rw [if_neg (by omega), if_neg (by omega), if_neg (by omega), if_neg (by omega), if_neg (by omega), if_neg (by omega), if_neg (by omega), if_neg (by omega)] at k; exact k
  · refine ⟨fun z => ?_, fun z => ?_, fun z => ?_, fun z => EV_countKind_spec hG he R P.1 ?_, fun z => EV_countKind_spec hG he R P.1 ?_, fun z => EV_countKind_spec hG he R P.1 ?_, fun z => ?_, fun z => ?_⟩
    · rw [if_neg (by omega), if_neg (by omega), if_neg (by omega), if_neg (by omega), if_neg (by omega), if_neg (by omega), if_neg (by omega), if_pos (by omega)] at k
      rw [I.2.2.2.2.2.2.2.2.2.2.2]; exact k
    · rw [if_pos z] at k
      rw [R.1]; exact k
    · rw [if_neg (by omega), if_pos z] at k
      rw [R.2.1]; exact k
    · rw [if_neg (by omega), if_neg (by omega), if_pos z] at k; exact k
    · rw [if_neg (by omega), if_neg (by omega), if_neg (by omega), if_pos z] at k; exact k
    · rw [if_neg (by omega), if_neg (by omega), if_neg (by omega), if_neg (by omega), if_pos z] at k; exact k
    · rw [if_neg (by omega), if_neg (by omega), if_neg (by omega), if_neg (by omega), if_neg (by omega), if_pos z] at k
      rw [I.1.1]; exact k
    · rw [if_neg (by omega), if_neg (by omega), if_neg (by omega), if_neg (by omega), if_neg (by omega), if_neg (by omega), if_pos z] at k
      rw [I.2.2.2.2.2.2.2.2.2.2.1]; exact k
  · rw [if_neg (by omega), if_neg (by omega), if_neg (by omega), if_neg (by omega), if_neg (by omega), if_neg (by omega), if_neg (by omega), if_neg (by omega)] at k; exact k
theorem MD_howMany_spec (hG : Gok sw g) (P : StP A) (I : InvM h A) {x : Int} (k : K (aCount A x) h) : MD_howMany g h x K := by
  have R := I.2.1
  unfold aCount at k
  refine MD_howMany_wp hG ⟨fun z => ?_, fun z => ?_, fun z => MD_eventsAll_spec hG R P.1 ?_, fun z => ?_, fun z => ?_, fun z => ?_, fun z => ?_, fun z => ?_, fun z => ?_⟩
  · rw [if_neg (by omega), if_neg (by omega), if_neg (by omega), if_neg (by omega), if_neg (by omega), if_neg (by omega), if_neg (by omega), if_neg (by omega)] at k; exact k
  · rw [if_pos z] at k
    rw [R.1]; exact k
  · rw [if_neg (by omega), if_pos z] at k; exact k
  · rw [if_neg (by omega), if_neg (by omega), if_pos z] at k
    rw [z, mwi (by omega) (by omega)]
    exact MD_eventsOf_spec hG R P.1 k
  · rw [if_neg (by omega), if_neg (by omega), if_neg (by omega), if_pos z] at k
    rw [z, mwi (by omega) (by omega)]
    exact MD_eventsOf_spec hG R P.1 k
  · rw [if_neg (by omega), if_neg (by omega), if_neg (by omega), if_neg (by omega), if_pos z] at k
    rw [z, mwi (by omega) (by omega)]
    exact MD_eventsOf_spec hG R P.1 k
  · rw [if_neg (by omega), if_neg (by omega), if_neg (by omega), if_neg (by omega), if_neg (by omega), if_pos z] at k
    rw [I.1.1]; exact k
  · rw [if_neg (by omega), if_neg (by omega), if_neg (by omega), if_neg (by omega), if_neg (by omega), if_neg (by omega), if_pos z] at k
    rw [I.2.2.2.2.2.2.1]; exact k
  · rw [if_neg (by omega), if_neg (by omega), if_neg (by omega), if_neg (by omega), if_neg (by omega), if_neg (by omega), if_neg (by omega), if_pos z] at k
    rw [I.2.2.2.2.2.2.2]; exact k
theorem MD_count_spec (hG : Gok sw g) (P : StP A) (I : InvM h A) {x : Int} (k : K (aCount A x) h) : MD_count g h x K := MD_count_wp hG (MD_howMany_spec hG P I k)
theorem RC_mixEvents_spec (hG : Gok sw g) (I : InvC sw h A) (hn : 0 < cN (sC A)) {a : Int} (k : K (dE (sC A) a (cN (sC A))) h) : RC_mixEvents g h a K := by
  obtain ⟨eo, he⟩ := evO_r sw
  have E := I.ev hn
  have W := E.2.2.1.1
  have hN := W.2.1
  refine RC_mixEvents_wp hG ?_
  have key : ∀ p : Int, p ≤ cN (sC A) → 0 ≤ p → ∀ u v, RC_mixEvents_2 g h (dE (sC A) a p) p u v K := by
    refine up_ind ?_ ?_
    · intro _ u v
      exact RC_mixEvents_2_wp hG ⟨fun _ => k, fun z => absurd z (by rw [E.1.1]; omega)⟩
    · intro p hp ih p0 u v
      have sz := W.sz p
      have e1 : dE (sC A) a (p + 1) = dE1 (sC A) p (dE (sC A) a p) (cS (sC A) p) := by
        conv => lhs; unfold dE
        rw [it_s p0]; rfl
      have ih := fun u v => ih (by omega) u v
      rw [e1] at ih
      refine RC_mixEvents_2_wp hG ⟨fun z => absurd z (by rw [E.1.1]; omega), fun _ => ?_⟩
      have inner : ∀ m : Int, m ≤ cS (sC A) p → 0 ≤ m → ∀ v, RC_mixEvents_16 g h (dE1 (sC A) p (dE (sC A) a p) m) p m v K := by
        refine up_ind ?_ ?_
        · intro m0 v
          refine RC_mixEvents_16_wp hG ⟨⟨p0, by omega⟩, fun _ => ?_, fun z => absurd z (by rw [E.1.2.2.1 p p0 (by omega)]; omega)⟩
          rw [mwi (by omega) (by omega)]
          exact ih _ _
        · intro m hm ih2 m0 v
          have e2 : dE1 (sC A) p (dE (sC A) a p) (m + 1) = dE2 (sC A) p m (dE1 (sC A) p (dE (sC A) a p) m) 7 := by
            conv => lhs; unfold dE1
            rw [it_s m0]; rfl
          have ih2 := fun v => ih2 (by omega) v
          rw [e2] at ih2
          refine RC_mixEvents_16_wp hG ⟨⟨p0, by omega⟩, fun z => absurd z (by rw [E.1.2.2.1 p p0 (by omega)]; omega), fun _ => ?_⟩
          have third : ∀ x : Int, x ≤ 7 → 0 ≤ x → RC_mixEvents_33 g h (dE2 (sC A) p m (dE1 (sC A) p (dE (sC A) a p) m) x) p m x K := by
            refine up_ind ?_ ?_
            · intro _
              refine RC_mixEvents_33_wp hG ⟨fun _ => ?_, fun z => absurd z (by omega)⟩
              rw [mwi (by omega) (by omega)]
              exact ih2 _
            · intro x hx ih3 x0
              refine RC_mixEvents_33_wp hG ⟨fun z => absurd z (by omega), fun _ => EV_property_spec hG he E p0 hp m0 hm x0 (by omega) ?_⟩
              rw [mwi (z := x + 1) (by omega) (by omega)]
              rintro v rfl
              have ih3 := ih3 (by omega)
              unfold dE2 at ih3
              rw [it_s x0] at ih3
              exact ih3
          have t0 := third 0 (by omega) (Int.le_refl _)
          have z0 : dE2 (sC A) p m (dE1 (sC A) p (dE (sC A) a p) m) 0 = dE1 (sC A) p (dE (sC A) a p) m := it_0
          rw [z0] at t0
          exact t0
      have t0 := inner 0 sz.1 (Int.le_refl _) v
      have z0 : dE1 (sC A) p (dE (sC A) a p) 0 = dE (sC A) a p := it_0
      rw [z0] at t0
      exact t0
  exact key 0 W.1 (Int.le_refl _) _ _
theorem RC_mixCuts_spec (hG : Gok sw g) (I : InvC sw h A) (hn : 0 < cN (sC A)) (L : LtOk 24 h (sC A)) {a : Int} (k : K (dR (sC A) (sW A) (dL (sC A) a 5) (bl (sC A) 17)) h) : RC_mixCuts g h a K := by
  have E := I.ev hn
  have W := E.2.2.1.1
  have n := NP_le W
  have hb := bl_r W (C := sC A) 17
  refine RC_mixCuts_wp hG ?_
  have first : ∀ x : Int, x ≤ 5 → 0 ≤ x → ∀ u v, RC_mixCuts_2 g h (dL (sC A) a x) x u v K := by
    refine up_ind ?_ ?_
    · intro _ u v
      refine RC_mixCuts_2_wp hG ⟨fun _ => ?_, fun z => absurd z (by omega)⟩
      have ranks : ∀ r : Int, r ≤ bl (sC A) 17 → 0 ≤ r → ∀ u v, RC_mixCuts_28 g h (dR (sC A) (sW A) (dL (sC A) a 5) r) r u v K := by
        refine up_ind ?_ ?_
        · intro _ u v
          exact RC_mixCuts_28_wp hG ⟨fun _ => k, fun z => absurd z (by rw [L.2.2.2.2.2.1]; omega)⟩
        · intro r hr ih r0 u v
          obtain ⟨j, j0, j1, j2, j3⟩ := rk_at W r0 hr
          have ji : rkI (sC A) r = j := by rw [← j3]; exact rkI_at W j0 j1 j2
          have s28 : h 28 r = j := by rw [← j3]; exact L.2.2.2.2.2.2.2 j j0 j1 j2
          have s27 : h 27 j = en (cN (sC A)) (ctI (sC A) j) := L.2.2.1.2.2 j j0 j1
          have ih := fun u v => ih (by omega) u v
          unfold dR at ih
          rw [it_s r0, ji] at ih
          refine RC_mixCuts_28_wp hG ⟨fun z => absurd z (by rw [L.2.2.2.2.2.1]; omega), fun _ => ⟨⟨r0, by omega⟩, ?_⟩⟩
          rw [s28, s27]
          refine ⟨⟨j0, by omega⟩, ?_⟩
          rintro v1 rfl
          rintro v2 rfl
          have props : ∀ y : Int, y ≤ 4 → 0 ≤ y → RC_mixCuts_59 g h (cutM (sC A) (sW A) j (dR (sC A) (sW A) (dL (sC A) a 5) r) y) r (en (cN (sC A)) (ctI (sC A) j)) (y + 2) K := by
            refine up_ind ?_ ?_
            · intro _
              refine RC_mixCuts_59_wp hG ⟨fun _ => ?_, fun z => absurd z (by omega)⟩
              rw [mwi (by omega) (by omega)]
              exact ih _ _
            · intro y hy ih2 y0
              refine RC_mixCuts_59_wp hG ⟨fun z => absurd z (by omega), fun _ => RC_cutProperty_spec hG I hn (ctI_in W j0 j1) (by omega) (by omega) (fun _ => L) ?_⟩
              rw [mwi (z := y + 2 + 1) (by omega) (by omega)]
              rintro v rfl
              have ih2 := ih2 (by omega)
              unfold cutM at ih2
              rw [it_s y0, show y + 1 + 2 = y + 2 + 1 by omega] at ih2
              exact ih2
          exact props 0 (by omega) (Int.le_refl _)
      exact ranks 0 hb.1 (Int.le_refl _) _ _
    · intro x hx ih x0 u v
      refine RC_mixCuts_2_wp hG ⟨fun z => absurd z (by omega), fun _ => LT_property_spec hG (Or.inl rfl) W L ?_⟩
      rw [mwi (z := x + 1) (by omega) (by omega)]
      rintro v rfl
      have ih := fun u v => ih (by omega) u v
      unfold dL at ih
      rw [it_s x0] at ih
      exact ih _ _
  exact first 0 (by omega) (Int.le_refl _) _ _
theorem RC_mixSearch_spec (hG : Gok sw g) (I : InvC sw h A) (hn : 0 < cN (sC A)) (S : SeOk 33 h (sC A) (sW A)) {a : Int} (k : K (dP (sC A) (sW A) (dS (sC A) (sW A) a 4) (pick (av (sC A) (sW A) (fun _ => 0)) (cT (sC A)) 0)) h) : RC_mixSearch g h a K := by
  have E := I.ev hn
  have W := E.2.2.1.1
  have hT := cT_r W
  refine RC_mixSearch_wp hG ?_
  have s1 : h 33 1 = pick (av (sC A) (sW A) (fun _ => 0)) (cT (sC A)) 0 := S.2.2.2.2.1
  have first : ∀ x : Int, x ≤ 4 → 0 ≤ x → RC_mixSearch_2 g h (dS (sC A) (sW A) a x) x K := by
    refine up_ind ?_ ?_
    · intro _
      refine RC_mixSearch_2_wp hG ⟨fun _ => ?_, fun z => absurd z (by omega)⟩
      generalize hm : pick (av (sC A) (sW A) (fun _ => 0)) (cT (sC A)) 0 = m at *
      have m0 : 0 ≤ m ∧ m ≤ 16 := by
        rcases Classical.em (av (sC A) (sW A) (fun _ => 0)) with z | z
        · rw [pick_t z] at hm; omega
        · rw [pick_f z] at hm; omega
      have steps : ∀ i : Int, i ≤ m → 0 ≤ i → RC_mixSearch_28 g h (dP (sC A) (sW A) (dS (sC A) (sW A) a 4) i) i K := by
        refine up_ind ?_ ?_
        · intro _
          exact RC_mixSearch_28_wp hG ⟨fun _ => k, fun z => absurd z (by omega)⟩
        · intro i hi ih i0
          have hav : av (sC A) (sW A) (fun _ => 0) := Classical.byContradiction (fun z => by rw [pick_f z] at hm; omega)
          rw [pick_t hav] at hm
          have e34 : h 34 i = gst (sC A) (sW A) (pthC (sC A) (sW A) i) := S.2.2.2.2.2 hav i i0 (by omega)
          refine RC_mixSearch_28_wp hG ⟨fun z => absurd z (by omega), fun _ => ⟨⟨i0, by omega⟩, ?_⟩⟩
          rw [e34, mwi (z := i + 1) (by omega) (by omega)]
          rintro v rfl
          have ih := ih (by omega)
          unfold dP at ih
          rw [it_s i0] at ih
          exact ih
      exact steps 0 m0.1 (Int.le_refl _)
    · intro x hx ih x0
      refine RC_mixSearch_2_wp hG ⟨fun z => absurd z (by omega), fun _ => SE_property_spec hG (s := 33) (Or.inl rfl) W S ?_⟩
      rw [mwi (z := x + 1) (by omega) (by omega)]
      rintro v rfl
      have ih := ih (by omega)
      unfold dS at ih
      rw [it_s x0] at ih
      exact ih
  exact first 0 (by omega) (Int.le_refl _)
theorem RC_mixConjunction_spec (hG : Gok sw g) (P : StP A) (I : InvC sw h A) (hn : 0 < cN (sC A)) (S : SeOk 33 h (sC A) (sW A)) {a : Int} (k : ∀ h', FrC h h' → InvC sw h' A → K (dA (sC A) (sW A) a) h') : RC_mixConjunction g h a K := by
  obtain ⟨eo, he⟩ := evO_r sw
  have E := I.ev hn
  have W := E.2.2.1.1
  have hN := W.2.1
  refine RC_mixConjunction_wp hG (IV_find_spec hG he E I.2.2.2.2.1 (fun h1 F1 V1 => ?_))
  obtain ⟨f1, I1⟩ := I.ivs (h' := h1) (fun b n1 n2 n3 _ => F1 b n1 n2 n3)
  refine I1.lean hG hn (fun h2 F2 f2 I2 L2 => ?_)
  have E2 := I2.ev hn
  have V2 : IvOk h2 (sC A) (sW A) := V1.keep (F2 37 (by omega)) (F2 38 (by omega)) (F2 39 (by omega))
  have low : h2 33 4 = lowV (sC A) (sW A) := by rw [F2 33 (by omega), F1 33 (by omega) (by omega) (by omega)]; exact S.2.2.1
  rw [low]
  rintro v3 rfl
  have rest : ∀ (h4 : Nat → Int → Int) b, (∀ b, ¬ b = 40 → h4 b = h2 b) → b = mx (mx a (lowV (sC A) (sW A))) (pick (str (sC A) (sW A)) 1 0) → RC_mixConjunction_68 g h4 b 0 none K := by
    intro h4 b F4 hb
    have V4 : IvOk h4 (sC A) (sW A) := V2.keep (F4 37 (by omega)) (F4 38 (by omega)) (F4 39 (by omega))
    have L4 : LnOk h4 (sC A) (sW A) := L2.keep (F4 1 (by omega)) (fun b b1 b2 => F4 b (by omega))
    obtain ⟨f4, I4⟩ := I2.ivs (h' := h4) (fun b _ _ _ n4 => F4 b n4)
    have E4 := I4.ev hn
    have fin : K (dA (sC A) (sW A) a) h4 := k h4 (fun b nb => by rw [f4 b nb, f2 b nb, f1 b nb]) I4
    have lean : ∀ x : Int, x ≤ 4 → 0 ≤ x → ∀ u, RC_mixConjunction_140 g h4 (dN (sC A) (sW A) (dI (sC A) (sW A) b (cN (sC A))) x) x u K := by
      refine up_ind ?_ ?_
      · intro _ u
        refine RC_mixConjunction_140_wp hG ⟨fun _ => ?_, fun z => absurd z (by omega)⟩
        rw [hb]; exact fin
      · intro x hx ih x0 u
        refine RC_mixConjunction_140_wp hG ⟨fun z => absurd z (by omega), fun _ => LN_property_spec hG L4 x0 (by omega) ?_⟩
        rw [mwi (z := x + 1) (by omega) (by omega)]
        rintro v rfl
        have ih := fun u => ih (by omega) u
        unfold dN at ih
        rw [it_s x0] at ih
        exact ih _
    have ivs : ∀ p : Int, p ≤ cN (sC A) → 0 ≤ p → ∀ u, RC_mixConjunction_68 g h4 (dI (sC A) (sW A) b p) p u K := by
      refine up_ind ?_ ?_
      · intro _ u
        exact RC_mixConjunction_68_wp hG ⟨fun _ => lean 0 (by omega) (Int.le_refl _) _, fun z => absurd z (by rw [E4.1.1]; omega)⟩
      · intro p hp ih p0 u
        have sz := W.sz p
        have nl := nIv_le (C := sC A) (w := sW A) (p := p) (k := cS (sC A) p + 1) (by omega)
        have ih := fun u => ih (by omega) u
        unfold dI at ih
        rw [it_s p0] at ih
        refine RC_mixConjunction_68_wp hG ⟨fun z => absurd z (by rw [E4.1.1]; omega), fun _ => ?_⟩
        have inner : ∀ i : Int, i ≤ nIv (sC A) (sW A) p (cS (sC A) p + 1) → 0 ≤ i → RC_mixConjunction_82 g h4 (dI1 (sC A) (sW A) p (dI (sC A) (sW A) b p) i) p i K := by
          refine up_ind ?_ ?_
          · intro i0
            refine RC_mixConjunction_82_wp hG ⟨⟨p0, by omega⟩, fun _ => ?_, fun z => absurd z (by rw [(V4 p p0 hp).1]; omega)⟩
            rw [mwi (by omega) (by omega)]
            exact ih _
          · intro i hi ih2 i0
            obtain ⟨v1, v2⟩ := V4.at W p0 hp i0 hi
            refine RC_mixConjunction_82_wp hG ⟨⟨p0, by omega⟩, fun z => absurd z (by rw [(V4 p p0 hp).1]; omega), fun _ => ?_⟩
            rw [row5 p0 (by omega) i0 (by omega), v1, v2, mwi (z := i + 1) (by omega) (by omega)]
            refine ⟨⟨by omega, by omega⟩, ?_⟩
            rintro w1 rfl
            refine ⟨⟨by omega, by omega⟩, ?_⟩
            rintro w2 rfl
            have ih2 := ih2 (by omega)
            unfold dI1 at ih2
            rw [it_s i0] at ih2
            exact ih2
        exact inner 0 nl.1 (Int.le_refl _)
    exact ivs 0 W.1 (Int.le_refl _) _
  refine IV_areStrong_spec hG he E2 V2 (fun s h4 F4 => ⟨fun z => absurd z (by decide), fun _ => ?_⟩) (fun s h4 F4 => ⟨fun _ => ?_, fun z => absurd rfl z⟩)
  · rintro v rfl
    exact rest h4 _ F4 (by rw [pick_t s]; rfl)
  · rintro v rfl
    exact rest h4 _ F4 (by rw [pick_f s]; rfl)
theorem RC_digest_spec (hG : Gok sw g) (P : StP A) (I : InvC sw h A) (k : ∀ h', FrC h h' → InvC sw h' A → K (aDigest A) h') : RC_digest g h K := by
  have R := I.2.1
  have hN0 := P.1.1
  have sr := sps_r P
  obtain ⟨n0, n1, hc⟩ := P.2.2.1
  -- what is told of all
  have tail : ∀ h' b, FrC h h' → InvC sw h' A → b = d0 A → RC_digest_48 g h' b 0 K := by
    intro h' b F J hb
    have fin := k h' F J
    unfold aDigest at fin
    rw [← hb] at fin
    have counts : ∀ x : Int, x ≤ 8 → 0 ≤ x → ∀ c, (c = dY (scd A) (dT A (dY (sst A) b (sps A))) (sn A)) → RC_digest_150 g h' (dC A c x) x K := by
      refine up_ind ?_ ?_
      · intro _ c hc
        refine RC_digest_150_wp hG ⟨fun _ => ?_, fun z => absurd z (by omega)⟩
        rw [hc]; exact fin
      · intro x hx ih x0 c hc
        refine RC_digest_150_wp hG ⟨fun z => absurd z (by omega), fun _ => RC_count_spec hG P J ?_⟩
        rw [mwi (z := x + 1) (by omega) (by omega)]
        rintro v rfl
        have ih := ih (by omega) c hc
        unfold dC at ih
        rw [it_s x0] at ih
        exact ih
    have page : ∀ i : Int, i ≤ sn A → 0 ≤ i → ∀ c, c = dT A (dY (sst A) b (sps A)) → RC_digest_117 g h' (dY (scd A) c i) i K := by
      refine up_ind ?_ ?_
      · intro _ c hc
        exact RC_digest_117_wp hG ⟨fun _ => counts 0 (by omega) (Int.le_refl _) (dY (scd A) c (sn A)) (by rw [hc]), fun z => absurd z (by rw [J.1.1]; omega)⟩
      · intro i hi ih i0 c hc
        refine RC_digest_117_wp hG ⟨fun z => absurd z (by rw [J.1.1]; omega), fun _ => ⟨⟨i0, by omega⟩, ?_⟩⟩
        rw [J.1.2 i i0 hi, mwi (z := i + 1) (by omega) (by omega)]
        rintro v rfl
        have ih := ih (by omega) c hc
        unfold dY at ih
        rw [it_s i0] at ih
        exact ih
    obtain ⟨t1, t2⟩ := J.2.2.2.2.2.2.2.2.2.1
    obtain ⟨y1, y2⟩ := J.2.2.2.2.2.2.2.2.1
    have snap : ((h' 63 0) = 0 → RC_digest_117 g h' (dY (sst A) b (sps A)) 0 K) ∧ (¬ (h' 63 0) = 0 → RC_digest_91 g h' (dY (sst A) b (sps A)) 0 K) := by
      rw [t1]
      refine ⟨fun z => page 0 n0 (Int.le_refl _) (dY (sst A) b (sps A)) (by unfold dT; rw [if_pos z]), fun z => ?_⟩
      obtain ⟨c1, c2, c3⟩ := t2 z
      refine RC_digest_91_wp hG ⟨fun y => absurd y (by decide), fun _ => ⟨fun y => absurd rfl y, fun _ => ?_⟩⟩
      rw [c1, mwi (by omega) (by omega)]
      rintro w1 rfl
      refine RC_digest_91_wp hG ⟨fun y => absurd y (by decide), fun _ => ⟨fun _ => ⟨fun y => absurd rfl y, fun _ => ?_⟩, fun y => absurd y (by decide)⟩⟩
      rw [c2, mwi (by omega) (by omega)]
      rintro w2 rfl
      refine RC_digest_91_wp hG ⟨fun y => absurd y (by decide), fun _ => ⟨fun _ => ⟨fun _ => ?_, fun y => absurd y (by decide)⟩, fun y => absurd y (by decide)⟩⟩
      rw [c3, mwi (by omega) (by omega)]
      rintro w3 rfl
      refine RC_digest_91_wp hG ⟨fun _ => page 0 n0 (Int.le_refl _) (mx (mx (mx (dY (sst A) b (sps A)) (scu A)) (sfo A)) (sla A)) (by unfold dT; rw [if_neg z]), fun y => absurd y (by decide)⟩
    have plays : ∀ i : Int, 0 ≤ i → (i ≤ sps A ∨ i = 0) → RC_digest_48 g h' (dY (sst A) b i) i K := by
      by_cases yn : sps A = -1
      · intro i i0 hi
        have ei : i = 0 := by omega
        subst ei
        refine RC_digest_48_wp hG ⟨fun _ => ?_, fun z => absurd z (by rw [y1]; omega)⟩
        have e : dY (sst A) b (sps A) = dY (sst A) b 0 := by
          unfold dY
          rw [it_neg (by omega)]; rfl
        rw [e] at snap
        exact snap
      · have up : ∀ i : Int, i ≤ sps A → 0 ≤ i → RC_digest_48 g h' (dY (sst A) b i) i K := by
          refine up_ind ?_ ?_
          · intro _
            exact RC_digest_48_wp hG ⟨fun _ => snap, fun z => absurd z (by rw [y1]; omega)⟩
          · intro i hi ih i0
            refine RC_digest_48_wp hG ⟨fun z => absurd z (by rw [y1]; omega), fun _ => ⟨⟨i0, by omega⟩, ?_⟩⟩
            rw [y2 i i0 hi, mwi (z := i + 1) (by omega) (by omega)]
            rintro v rfl
            have ih := ih (by omega)
            unfold dY at ih
            rw [it_s i0] at ih
            exact ih
        intro i i0 hi
        refine up i ?_ i0
        rcases hi with z | z
        · exact z
        · omega
    exact plays 0 (Int.le_refl _) (Or.inr rfl)
  unfold d0 at tail
  refine RC_digest_wp hG ?_
  rw [R.1]
  refine ⟨fun z => tail h 1549 (fun _ _ => rfl) I (by rw [pick_t (by omega)]), fun hn => ?_⟩
  rw [pick_f (by omega)] at tail
  refine RC_settle_spec hG I hn (fun h1 F1 I1 L1 S1 => RC_mixEvents_spec hG I1 hn (RC_mixCuts_spec hG I1 hn L1 (RC_mixSearch_spec hG I1 hn S1 ?_)))
  rw [I1.2.1.1, I1.2.2.2.2.1.1]
  refine ⟨fun z => by omega, fun _ => ⟨fun z => tail h1 _ F1 I1 (by rw [pick_f z]; rfl), fun z => ?_⟩⟩
  exact RC_mixConjunction_spec hG P I1 hn S1 (fun h2 F2 I2 => tail h2 _ (fun b nb => (F2 b nb).trans (F1 b nb)) I2 (by rw [pick_t z]; rfl))
end DG
