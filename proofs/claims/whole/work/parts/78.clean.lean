/-! lean: the class -/
def LnOk (h : Nat → Int → Int) (C : Cmp) (w : Wsh) : Prop := EvOk 42 h (leanC C w) ∧ LtOk 51 h (leanC C w) ∧ SeOk 58 h (leanC C w) w
def LnS (h : Nat → Int → Int) (C : Cmp) (w : Wsh) : Prop := (h 58 0 = 0 ∧ h 51 0 = 0) ∨ LnOk h C w
theorem LnOk.keep {h h' : Nat → Int → Int} {C : Cmp} {w : Wsh} (L : LnOk h C w) (h1 : h' 1 = h 1) (hk : ∀ b, 42 ≤ b → b ≤ 60 → h' b = h b) : LnOk h' C w :=
  ⟨L.1.keep (fun b hb => by
    rcases hb with hb | hb
    · rw [hb]; exact h1
    · exact hk b (by omega) (by omega)), L.2.1.keep (fun b b1 b2 => hk b (by omega) (by omega)), L.2.2.keep (fun b b1 b2 => hk b (by omega) (by omega))⟩
theorem LnS.keep {h h' : Nat → Int → Int} {C : Cmp} {w : Wsh} (L : LnS h C w) (h1 : h' 1 = h 1) (hk : ∀ b, 42 ≤ b → b ≤ 60 → h' b = h b) : LnS h' C w := by
  rcases L with L | L
  · left; rw [hk 58 (by omega) (by omega), hk 51 (by omega) (by omega)]; exact L
  · right; exact L.keep h1 hk
/-- the thinned computation as far as event k of p -/
noncomputable def lpC (C : Cmp) (w : Wsh) (p k : Int) : Cmp := (cN C, fun q => if q < p then lk C w q (cS C q) else if q = p then lk C w p k else 0, fun q j => cK (leanC C w) q j, fun q j => cD (leanC C w) q j)
theorem lpC_yes {C : Cmp} {w : Wsh} {p k : Int} (k0 : 0 ≤ k) (k1 : k < cS C p) (m : mat C w p k) : addE (lpC C w p k) p (cK C p k) (cD C p k) = lpC C w p (k + 1) := by
  have e : lk C w p (k + 1) = lk C w p k + 1 := cntI_y k0 m
  have eS : cS (lpC C w p k) p = lk C w p k := by show (if p < p then _ else _) = _; rw [if_neg (by omega), if_pos rfl]
  refine Prod.ext rfl (Prod.ext (funext fun q => ?_) (Prod.ext (funext fun q => funext fun j => ?_) (funext fun q => funext fun j => ?_)))
  · show (if q = p then cS (lpC C w p k) q + 1 else cS (lpC C w p k) q) = if q < p then lk C w q (cS C q) else if q = p then lk C w p (k + 1) else 0
    by_cases eq : q = p
    · rw [if_pos eq, eq, eS, if_neg (by omega), if_pos rfl, e]
    · rw [if_neg eq, if_neg eq]
      show (if q < p then lk C w q (cS C q) else if q = p then lk C w p k else 0) = _
      rw [if_neg eq]
  · show (if q = p ∧ j = cS (lpC C w p k) p then cK C p k else cK (leanC C w) q j) = cK (leanC C w) q j
    by_cases eq : q = p ∧ j = cS (lpC C w p k) p
    · rw [if_pos eq, eq.1, eq.2, eS, lean_K, lix_at k0 k1 m]
    · rw [if_neg eq]
  · show (if q = p ∧ j = cS (lpC C w p k) p then cD C p k else cD (leanC C w) q j) = cD (leanC C w) q j
    by_cases eq : q = p ∧ j = cS (lpC C w p k) p
    · rw [if_pos eq, eq.1, eq.2, eS, lean_D, lix_at k0 k1 m]
    · rw [if_neg eq]
theorem lpC_no {C : Cmp} {w : Wsh} {p k : Int} (k0 : 0 ≤ k) (m : ¬ mat C w p k) : lpC C w p (k + 1) = lpC C w p k := by
  have e : lk C w p (k + 1) = lk C w p k := cntI_n k0 m
  unfold lpC
  rw [e]
theorem lpC_next {C : Cmp} {w : Wsh} {p : Int} : lpC C w p (cS C p) = lpC C w (p + 1) 0 := by
  have e : lk C w (p + 1) 0 = 0 := rfl
  unfold lpC
  refine Prod.ext rfl (Prod.ext (funext fun q => ?_) rfl)
  show (if q < p then lk C w q (cS C q) else if q = p then lk C w p (cS C p) else 0) = if q < p + 1 then lk C w q (cS C q) else if q = p + 1 then lk C w (p + 1) 0 else 0
  rw [e]
  by_cases a : q < p
  · rw [if_pos a, if_pos (by omega)]
  · rw [if_neg a]
    by_cases b : q = p
    · rw [if_pos b, if_pos (by omega), b]
    · rw [if_neg b, if_neg (by omega)]
      split <;> rfl
theorem lpC_end {C : Cmp} (W : Wf C) {w : Wsh} : lpC C w (cN C) 0 = leanC C w := by
  have e : lk C w (cN C) 0 = 0 := rfl
  unfold lpC leanC
  refine Prod.ext rfl (Prod.ext (funext fun q => ?_) rfl)
  show (if q < cN C then lk C w q (cS C q) else if q = cN C then lk C w (cN C) 0 else 0) = lk C w q (cS C q)
  rw [e]
  by_cases a : q < cN C
  · rw [if_pos a]
  · rw [if_neg a, W.2.2.2.1 q (by omega)]
    have e2 : lk C w q 0 = 0 := rfl
    rw [e2]
    split <;> rfl
section LN
variable {sw : Bool} {g : Nat → Nat → Nat} {h : Nat → Int → Int} {e : Nat} {C : Cmp} {w : Wsh}
theorem LN_matters_spec (hG : Gok sw g) (he : EvId e) (E : EvOk e h C) (P : PrOk h w) {p k : Int} {K : Int → (Nat → Int → Int) → Prop} (p0 : 0 ≤ p) (p1 : p < cN C) (k0 : 0 ≤ k) (k1 : k < cS C p) (kt : mat C w p k → K 1 h) (kf : ¬ mat C w p k → K 0 h) : LN_matters g h e p k K := by
  obtain ⟨R, L, V, iV, hn, ht⟩ := E
  have W := V.1
  have hN := W.2.1
  have hs := W.sz p
  have r1 := (R.2.2.2 p k p0 p1 k0 k1).1
  have v1 := (L.2.2 p k p0 p1 k0 (by omega)).1
  have v2 := (L.2.2 p (k + 1) p0 p1 (by omega) (by omega)).1
  have P3 := P.2.2.1 p p0 (by omega)
  refine LN_matters_wp hG he ?_
  have e9 : mw (mw (p * 9) + k) = 9 * p + k := row9 p0 (by omega) k0 (by omega)
  have e10 : mw (mw (p * 10) + k) = 10 * p + k := row10 p0 (by omega) k0 (by omega)
  have e11 : mw (mw (p * 10) + mw (k + 1)) = 10 * p + (k + 1) := by rw [mwi (z := k + 1) (by omega) (by omega)]; exact row10 p0 (by omega) (by omega) (by omega)
  rw [e9, e10, e11, r1, v1, v2, P3]
  refine ⟨⟨by omega, by omega⟩, fun z => ⟨⟨by omega, by omega⟩, ⟨p0, by omega⟩, fun a => ⟨⟨by omega, by omega⟩, ⟨p0, by omega⟩, fun b => kf (fun m => ?_), fun b => kt (Or.inr (fun m => (m.mpr b) a))⟩, fun a => ⟨⟨by omega, by omega⟩, ⟨p0, by omega⟩, fun b => kt (Or.inr (fun m => (m.mp a) b)), fun b => kf (fun m => ?_)⟩⟩, fun z => kt (Or.inl z)⟩
  · rcases m with m | m
    · exact m z
    · exact m ⟨fun y => absurd a y, fun y => absurd b y⟩
  · rcases m with m | m
    · exact m z
    · exact m ⟨fun _ => b, fun _ => a⟩
theorem LN_build_spec (hG : Gok sw g) (he : EvId e) (he2 : ¬ e = 42) (E : EvOk e h C) (P : PrOk h w) (S : LnS h C w) {K : (Nat → Int → Int) → Prop} (k : ∀ h', (∀ b, ¬ (42 ≤ b ∧ b ≤ 60) → h' b = h b) → LnOk h' C w → K h') : LN_build g h e K := by
  have V := E.2.2.1
  have W := V.1
  have hN := W.2.1
  have hn := E.2.2.2.2.1
  have V' := lean_Valid V w
  have e42 : EvId 42 := Or.inr (Or.inr rfl)
  have ed : e + 8 < 42 ∧ 2 < e := by rcases he with rfl | rfl | rfl <;> omega
  refine LN_build_wp hG he ⟨fun z => ?_, fun z => (by
    rcases S with S | S
    · exact absurd S.1 z
    · exact k h (fun _ _ => rfl) S)⟩
  have z51 : h 51 0 = 0 := by
    rcases S with S | S
    · exact S.2
    · exact absurd z S.2.2.1
  refine EV_begin_spec hG e42 (fun h1 F1 G1 a0 a1 a2 => ?_)
  rw [E.1.1] at a0
  have outer : ∀ p : Int, p ≤ cN C → 0 ≤ p → ∀ (h' : Nat → Int → Int) u, (∀ b, ¬ (42 ≤ b ∧ b ≤ 45) → h' b = h b) → DrR 42 h' (lpC C w p 0) (cN C) → LN_build_24 g h' e p u K := by
    refine up_ind ?_ ?_
    · intro _ h' u F R
      refine LN_build_24_wp hG he ⟨fun _ => ?_, fun y => absurd y (by rw [F e (by omega), E.1.1]; omega)⟩
      rw [lpC_end W] at R
      have R2 : EvR 42 h' (leanC C w) := DrR.ev (C := leanC C w) R hN
      refine EV_link_spec hG e42 R2 V'.1 hn (E.2.2.2.2.2.keep (F 1 (by omega))) (fun _ h3 E3 F3 => ?_) (fun n => absurd V' n)
      refine LT_build_spec hG (a := 51) (e := 42) (Or.inr rfl) e42 E3 (Or.inl (by rw [F3 51 (by omega), F 51 (by omega)]; exact z51)) (fun h4 F4 L4 => ?_)
      have E4 : EvOk 42 h4 (leanC C w) := E3.keep (fun b hb => F4 b (by omega))
      have P4 : PrOk h4 w := P.keep (by rw [F4 31 (by omega), F3 31 (by omega), F 31 (by omega)]) (by rw [F4 32 (by omega), F3 32 (by omega), F 32 (by omega)])
      refine SE_build_spec hG (s := 58) (a := 51) (e := 42) (Or.inr rfl) (Or.inr rfl) e42 E4 L4 P4 (Or.inl (by rw [F4 58 (by omega), F3 58 (by omega), F 58 (by omega)]; exact z)) (fun h5 F5 S5 => ?_)
      exact k h5 (fun b nb => by rw [F5 b (by omega), F4 b (by omega), F3 b (by omega), F b (by omega)]) ⟨E4.keep (fun b hb => F5 b (by omega)), L4.keep (fun b b1 b2 => F5 b (by omega)), S5⟩
    · intro p hp ih p0 h' u F R
      have hs := W.sz p
      refine LN_build_24_wp hG he ⟨fun y => absurd y (by rw [F e (by omega), E.1.1]; omega), fun _ => ?_⟩
      have inner : ∀ m : Int, m ≤ cS C p → 0 ≤ m → ∀ (h' : Nat → Int → Int), (∀ b, ¬ (42 ≤ b ∧ b ≤ 45) → h' b = h b) → DrR 42 h' (lpC C w p m) (cN C) → LN_build_35 g h' e p m K := by
        refine up_ind ?_ ?_
        · intro m0 h' F R
          refine LN_build_35_wp hG he ⟨⟨p0, by omega⟩, fun _ => ?_, fun y => absurd y (by rw [F (e + 1) (by omega), E.1.2.2.1 p p0 (by omega)]; omega)⟩
          rw [mwi (by omega) (by omega)]
          rw [lpC_next] at R
          exact ih (by omega) h' _ F R
        · intro m hm ih2 m0 h' F R
          have E' : EvOk e h' C := E.keep (fun b hb => F b (by omega))
          have P' : PrOk h' w := P.keep (F 31 (by omega)) (F 32 (by omega))
          have lr := lk_r (C := C) (w := w) (p := p) m0
          have r12 := E'.1.2.2.2 p m p0 hp m0 hm
          obtain ⟨R1, R2, R3, R4⟩ := id R
          have eS : cS (lpC C w p m) p = lk C w p m := by show (if p < p then _ else _) = _; rw [if_neg (by omega), if_pos rfl]
          have s43 : h' 43 p = lk C w p m := (R3 p p0 (by omega)).trans eS
          have sz : ∀ q, 0 ≤ cS (lpC C w p m) q ∧ cS (lpC C w p m) q ≤ 9 := fun q => by
            show 0 ≤ (if q < p then lk C w q (cS C q) else if q = p then lk C w p m else 0) ∧ (if q < p then lk C w q (cS C q) else if q = p then lk C w p m else 0) ≤ 9
            have := lk_r (C := C) (w := w) (p := q) (W.sz q).1
            have := W.sz q
            split
            · omega
            · split <;> omega
          have t42 : h' 42 1 = cT (lpC C w p m) := R2
          have tr : 0 ≤ cT (lpC C w p m) ∧ cT (lpC C w p m) ≤ 36 := by
            have b0 := sz 0; have b1 := sz 1; have b2 := sz 2; have b3 := sz 3
            unfold cT; omega
          refine LN_build_35_wp hG he ⟨⟨p0, by omega⟩, fun y => absurd y (by rw [E'.1.2.2.1 p p0 (by omega)]; omega), fun _ => ?_⟩
          rw [mwi (z := m + 1) (by omega) (by omega)]
          refine LN_matters_spec hG he E' P' p0 hp m0 hm (fun y => ⟨fun z => absurd z (by decide), fun _ => ?_⟩) (fun y => ⟨fun _ => ?_, fun z => absurd rfl z⟩)
          · have ih2 := ih2 (by omega) (mvUpd (mvUpd (mvUpd (mvUpd h' 44 (9 * p + lk C w p m) (cK C p m)) 45 (9 * p + lk C w p m) (cD C p m)) 43 p (lk C w p m + 1)) 42 1 (cT (lpC C w p m) + 1)) (fun b nb => by rw [upd_ob (by omega), upd_ob (by omega), upd_ob (by omega), upd_ob (by omega)]; exact F b nb) (by
              have A := R.add sz (p := p) (k := cK C p m) (d := cD C p m) p0 (by omega) (by rw [eS]; omega)
              rw [lpC_yes m0 hm y, eS] at A
              exact A)
            simp (disch := omega) only [s43, m9, bd, forall_eq, upd_ob, t42, mwi, r12.1, r12.2]
            exact ih2
          · have ih2 := ih2 (by omega) h' F (by rw [lpC_no m0 y]; exact R)
            exact ih2
      exact inner 0 hs.1 (Int.le_refl _) h' F R
  have e0 : ∀ q, cS (lpC C w 0 0) q = if q < 0 then lk C w q (cS C q) else 0 := fun q => by
    show (if q < 0 then lk C w q (cS C q) else if q = 0 then lk C w 0 0 else 0) = _
    have e2 : lk C w 0 0 = 0 := rfl
    rw [e2]
    by_cases a : q < 0
    · rw [if_pos a, if_pos a]
    · rw [if_neg a, if_neg a]; split <;> rfl
  refine outer 0 W.1 (Int.le_refl _) h1 none (fun b nb => F1 b (by omega) (by omega)) ⟨a0, ?_, fun q q0 q1 => ?_, fun q j q0 q1 j0 j1 => ?_⟩
  · rw [a1]
    unfold cT
    rw [e0, e0, e0, e0]; rfl
  · rw [e0, if_neg (by omega)]; exact a2 q q0 q1
  · rw [e0, if_neg (by omega)] at j1; omega
theorem LN_property_spec (hG : Gok sw g) (L : LnOk h C w) {x : Int} (x0 : 0 ≤ x) (x1 : x ≤ 3) {K : Int → (Nat → Int → Int) → Prop} (k : K (leanV C w x) h) : LN_property g h x K := by
  have W := L.1.2.2.1.1
  unfold leanV at k
  refine LN_property_wp hG ⟨fun z => SE_property_spec hG (s := 58) (Or.inr rfl) W L.2.2 ?_, fun z => ?_, fun z => ?_, fun z => SE_property_spec hG (s := 58) (Or.inr rfl) W L.2.2 ?_⟩
  · rw [if_neg (by omega), if_neg (by omega), if_neg (by omega)] at k; exact k
  · rw [if_pos z] at k
    rw [L.1.1.2.1]; exact k
  · rw [if_neg (by omega), if_pos z] at k
    rw [L.2.1.2.2.2.2.2.1]; exact k
  · rw [if_neg (by omega), if_neg (by omega), if_pos z] at k; exact k
end LN
