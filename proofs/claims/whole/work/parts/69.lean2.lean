section MD
variable {sw : Bool} {g : Nat → Nat → Nat} {h : Nat → Int → Int} {C : Cmp} {c : Int → Int} {w : Wsh}
/-- the rows of the thinned computation as far as event k of p -/
def LnI (h : Nat → Int → Int) (C : Cmp) (w : Wsh) (p k : Int) : Prop := ∀ q j, 0 ≤ q → q < cN C → 0 ≤ j → (q < p ∧ j < lk C w q (cS C q) ∨ q = p ∧ j < lk C w p k) → h 70 (9 * q + j) = cK (leanC C w) q j ∧ h 71 (9 * q + j) = cD (leanC C w) q j
theorem MD_makeLean_spec (hG : Gok sw g) (R : MdR h C) (V : Valid C) (hn : 1 ≤ cN C) (Wh : MdW h w) (A : ∀ p, 0 ≤ p → p < 4 → h 91 p = cS C p) (B : ∀ p k, 0 ≤ p → p < cN C → 0 ≤ k → k < cS C p → h 92 (9 * p + k) = cK C p k ∧ h 93 (9 * p + k) = cD C p k) {K : (Nat → Int → Int) → Prop}
    (kk : ∀ h', (∀ b, ¬ (69 ≤ b ∧ b ≤ 73) → ¬ b = 94 → h' b = h b) → MdOk h' (leanC C w) → K h') : MD_makeLean g h K := by
  have W := V.1
  have hN := W.2.1
  have V' := lean_Valid V w
  have iV' := vec_isV V'
  refine MD_makeLean_wp hG ?_
  have third : ∀ p : Int, p ≤ cN C → 0 ≤ p → ∀ (h' : Nat → Int → Int) u2 u3 u4, (∀ b, ¬ (69 ≤ b ∧ b ≤ 73) → ¬ b = 94 → h' b = h b) → (∀ q, 0 ≤ q → q < 4 → h' 69 q = if q < p then lk C w q (cS C q) else cS C q) → (∀ q k, 0 ≤ q → q < cN C → 0 ≤ k → k < cS C q → h' 94 (9 * q + k) = pick (mat C w q k) 0 1) → LnI h' C w p 0 → MD_makeLean_83 g h' p u2 u3 u4 K := by
    refine up_ind ?_ ?_
    · intro _ h' u2 u3 u4 F S I L
      refine MD_makeLean_83_wp hG ⟨fun _ => ?_, fun z => absurd z (by rw [F 68 (by omega) (by omega), R.1]; omega)⟩
      have R' : MdR h' (leanC C w) := ⟨by rw [F 68 (by omega) (by omega)]; exact R.1, fun q q0 q1 => by
        rw [S q q0 q1, lean_S]
        by_cases e : q < cN C
        · rw [if_pos e]
        · rw [if_neg e, W.2.2.2.1 q (by omega)]; rfl, fun q j q0 q1 j0 j1 => L q j q0 q1 j0 (Or.inl ⟨q1, j1⟩)⟩
      refine MD_layPartners_spec hG R' V'.1 (fun h3 F3 P3 => ?_)
      have R3 : MdR h3 (leanC C w) := R'.keep (by rw [F3 68 (by omega)]) (F3 69 (by omega)) (F3 70 (by omega)) (F3 71 (by omega))
      refine MD_layVectors_spec hG R3 V' iV' P3 (fun h4 F4 L4 => ?_)
      exact kk h4 (fun b n1 n2 => by rw [F4 b (by omega), F3 b (by omega), F b n1 n2]) ⟨R3.keep (by rw [F4 68 (by omega)]) (F4 69 (by omega)) (F4 70 (by omega)) (F4 71 (by omega)), ⟨fun p k p0 p1 k0 k1 => by rw [F4 72 (by omega)]; exact P3 p k p0 p1 k0 k1, L4⟩, V', iV', hn⟩
    · intro p hp ih p0 h' u2 u3 u4 F S I L
      have hs := W.sz p
      refine MD_makeLean_83_wp hG ⟨fun z => absurd z (by rw [F 68 (by omega) (by omega), R.1]; omega), fun _ => ?_⟩
      have inner : ∀ k : Int, k ≤ cS C p → 0 ≤ k → ∀ (h' : Nat → Int → Int) u4, (∀ b, ¬ (69 ≤ b ∧ b ≤ 73) → ¬ b = 94 → h' b = h b) → (∀ q, 0 ≤ q → q < 4 → h' 69 q = if q < p then lk C w q (cS C q) else cS C q) → (∀ q k, 0 ≤ q → q < cN C → 0 ≤ k → k < cS C q → h' 94 (9 * q + k) = pick (mat C w q k) 0 1) → LnI h' C w p k → MD_makeLean_95 g h' p (lk C w p k) k u4 K := by
        refine up_ind ?_ ?_
        · intro k0 h' u4 F S I L
          refine MD_makeLean_95_wp hG ⟨⟨p0, by omega⟩, fun _ => ?_, fun z => absurd z (by rw [F 91 (by omega) (by omega), A p p0 (by omega)]; omega)⟩
          simp (disch := omega) only [mwi, bd, forall_eq]
          refine ih (by omega) _ _ _ _ (fun b n1 n2 => by rw [upd_ob (by omega)]; exact F b n1 n2) (fun q q0 q1 => ?_) (fun q k a1 a2 a3 a4 => by rw [upd_ob (by omega)]; exact I q k a1 a2 a3 a4) (fun q j q0 q1 j0 hj => ?_)
          · by_cases e : q = p
            · rw [e, upd_at, if_pos (by omega)]
            · rw [upd_ix e, S q q0 q1]
              by_cases l : q < p
              · rw [if_pos l, if_pos (by omega)]
              · rw [if_neg l, if_neg (by omega)]
          · rw [upd_ob (by omega), upd_ob (by omega)]
            refine L q j q0 q1 j0 ?_
            rcases hj with ⟨y, y2⟩ | ⟨y, y2⟩
            · by_cases e : q = p
              · subst e; exact Or.inr ⟨rfl, y2⟩
              · exact Or.inl ⟨by omega, y2⟩
            · have e0 : lk C w (p + 1) 0 = 0 := rfl
              rw [e0] at y2; omega
        · intro k hk ih2 k0 h' u4 F S I L
          have lr := lk_r (C := C) (w := w) (p := p) k0
          have i94 := I p k p0 hp k0 hk
          refine MD_makeLean_95_wp hG ⟨⟨p0, by omega⟩, fun z => absurd z (by rw [F 91 (by omega) (by omega), A p p0 (by omega)]; omega), fun _ => ?_⟩
          have e92 : h' 92 (9 * p + k) = cK C p k := by rw [F 92 (by omega) (by omega)]; exact (B p k p0 hp k0 hk).1
          have e93 : h' 93 (9 * p + k) = cD C p k := by rw [F 93 (by omega) (by omega)]; exact (B p k p0 hp k0 hk).2
          simp (disch := omega) only [mwi, bd, forall_eq, upd_ob, i94, e92, e93]
          refine ⟨fun z => ?_, fun z => ?_⟩
          · have m : ¬ mat C w p k := fun y => z (pick_t y)
            have e : lk C w p (k + 1) = lk C w p k := cntI_n k0 m
            have ih2 := ih2 (by omega) h' (some (9 * p + k)) F S I (by unfold LnI; rw [e]; exact L)
            rw [e] at ih2
            exact ih2
          · have m : mat C w p k := Classical.byContradiction (fun y => by rw [pick_f y] at z; omega)
            have e : lk C w p (k + 1) = lk C w p k + 1 := cntI_y k0 m
            have ih2 := ih2 (by omega) (mvUpd (mvUpd h' 70 (9 * p + lk C w p k) (cK C p k)) 71 (9 * p + lk C w p k) (cD C p k)) (some (9 * p + k)) (fun b n1 n2 => by rw [upd_ob (by omega), upd_ob (by omega)]; exact F b n1 n2) (fun q q0 q1 => by rw [upd_ob (by omega), upd_ob (by omega)]; exact S q q0 q1) (fun q k a1 a2 a3 a4 => by rw [upd_ob (by omega), upd_ob (by omega)]; exact I q k a1 a2 a3 a4) (fun q j q0 q1 j0 hj => ?_)
            · rw [e] at ih2
              exact ih2
            · have sq := W.sz q
              have lq := lk_r (C := C) (w := w) (p := q) (W.sz q).1
              by_cases en : q = p ∧ j = lk C w p k
              · rw [en.1, en.2, upd_no (b := 70) (fun z => by omega), upd_at, upd_at, lean_K, lean_D, lix_at k0 hk m]
                exact ⟨rfl, rfl⟩
              · have j9 : j < 9 := by
                  rcases hj with ⟨y, y2⟩ | ⟨y, y2⟩ <;> omega
                rw [upd_no (b := 70) (fun z => by omega), upd_no (b := 70) (fun z => en (by omega)), upd_no (b := 71) (fun z => en (by omega)), upd_no (b := 71) (fun z => by omega)]
                refine L q j q0 q1 j0 ?_
                rcases hj with y | ⟨y, y2⟩
                · exact Or.inl y
                · refine Or.inr ⟨y, ?_⟩
                  have : ¬ j = lk C w p k := fun z => en ⟨y, z⟩
                  omega
      have e0 : lk C w p 0 = 0 := rfl
      have i0 := inner 0 hs.1 (Int.le_refl _) h' u4 F S I L
      rw [e0] at i0
      exact i0
  have first : ∀ p : Int, p ≤ cN C → 0 ≤ p → ∀ (h' : Nat → Int → Int) u2 u3 u4, (∀ b, ¬ b = 94 → h' b = h b) → (∀ q k, 0 ≤ q → q < p → 0 ≤ k → k < cS C q → h' 94 (9 * q + k) = pick (mat C w q k) 0 1) → MD_makeLean_2 g h' p u2 u3 u4 K := by
    refine up_ind ?_ ?_
    · intro _ h' u2 u3 u4 F I
      refine MD_makeLean_2_wp hG ⟨fun _ => third 0 W.1 (Int.le_refl _) h' _ _ _ (fun b n1 n2 => F b n2) (fun q q0 q1 => ?_) (fun q k q0 q1 k0 k1 => I q k q0 q1 k0 k1) (fun q j q0 q1 j0 hj => ?_), fun z => absurd z (by rw [F 68 (by omega), R.1]; omega)⟩
      · rw [F 69 (by omega), if_neg (by omega)]; exact R.2.1 q q0 q1
      · have e0 : lk C w 0 0 = 0 := rfl
        rcases hj with ⟨y, _⟩ | ⟨y, y2⟩
        · omega
        · rw [e0] at y2; omega
    · intro p hp ih p0 h' u2 u3 u4 F I
      have hs := W.sz p
      refine MD_makeLean_2_wp hG ⟨fun z => absurd z (by rw [F 68 (by omega), R.1]; omega), fun _ => ?_⟩
      have inner : ∀ k : Int, k ≤ cS C p → 0 ≤ k → ∀ (h' : Nat → Int → Int) u3 u4, (∀ b, ¬ b = 94 → h' b = h b) → (∀ q m, 0 ≤ q → (q < p ∨ q = p ∧ m < k) → 0 ≤ m → m < cS C q → h' 94 (9 * q + m) = pick (mat C w q m) 0 1) → MD_makeLean_12 g h' p k u3 u4 K := by
        refine up_ind ?_ ?_
        · intro k0 h' u3 u4 F I
          refine MD_makeLean_12_wp hG ⟨⟨p0, by omega⟩, fun _ => ?_, fun z => absurd z (by rw [F 69 (by omega), R.2.1 p p0 (by omega)]; omega)⟩
          rw [mwi (by omega) (by omega)]
          refine ih (by omega) h' _ _ _ F (fun q m q0 q1 m0 m1 => I q m q0 ?_ m0 m1)
          by_cases e : q = p
          · subst e; exact Or.inr ⟨rfl, m1⟩
          · exact Or.inl (by omega)
        · intro k hk ih2 k0 h' u3 u4 F I
          have R' : MdR h' C := R.keep (by rw [F 68 (by omega)]) (F 69 (by omega)) (F 70 (by omega)) (F 71 (by omega))
          have Wh' : MdW h' w := Wh.keep (by rw [F 68 (by omega)]) (by rw [F 68 (by omega)]) (F 74 (by omega))
          have r := R'.2.2 p k p0 hp k0 hk
          have fin : ∀ x, x = pick (mat C w p k) 0 1 → MD_makeLean_12 g (mvUpd h' 94 (9 * p + k) x) p (k + 1) u3 u4 K := fun x hx => by
            refine ih2 (by omega) _ _ _ (fun b nb => by rw [upd_ob nb]; exact F b nb) (fun q m q0 hq m0 m1 => ?_)
            have sq := W.sz q
            by_cases e : q = p ∧ m = k
            · rw [e.1, e.2, upd_at]; exact hx
            · rw [upd_ix (fun z => e (by omega))]
              refine I q m q0 ?_ m0 m1
              rcases hq with y | ⟨y, y2⟩
              · exact Or.inl y
              · refine Or.inr ⟨y, ?_⟩
                have : ¬ m = k := fun z => e ⟨y, z⟩
                omega
          refine MD_makeLean_12_wp hG ⟨⟨p0, by omega⟩, fun z => absurd z (by rw [R'.2.1 p p0 (by omega)]; omega), fun _ => ?_⟩
          simp (disch := omega) only [mwi, bd, forall_eq, r.1]
          refine ⟨fun z => fin 0 (pick_t (Or.inl z)).symm, fun z => ?_⟩
          refine MD_isAllowed_spec hG R' W Wh' p0 hp k0 (by omega) (fun o1 => ?_) (fun o1 => ?_)
          · refine MD_isAllowed_spec hG R' W Wh' p0 hp (by omega) (by omega) (fun o2 => ⟨fun z => absurd rfl z, fun _ => fin 1 (pick_f (fun y => ?_)).symm⟩) (fun o2 => ⟨fun _ => fin 0 (pick_t (Or.inr (fun y => o2 (y.mp o1)))).symm, fun z => absurd z (by decide)⟩)
            rcases y with y | y
            · exact y z
            · exact y ⟨fun _ => o2, fun _ => o1⟩
          · refine MD_isAllowed_spec hG R' W Wh' p0 hp (by omega) (by omega) (fun o2 => ⟨fun _ => fin 0 (pick_t (Or.inr (fun y => o1 (y.mpr o2)))).symm, fun z => absurd z (by decide)⟩) (fun o2 => ⟨fun z => absurd rfl z, fun _ => fin 1 (pick_f (fun y => ?_)).symm⟩)
            rcases y with y | y
            · exact y z
            · exact y ⟨fun y => absurd y o1, fun y => absurd y o2⟩
      refine inner 0 hs.1 (Int.le_refl _) h' _ _ F (fun q m q0 hq m0 m1 => ?_)
      rcases hq with y | y
      · exact I q m q0 y m0 m1
      · omega
  exact first 0 W.1 (Int.le_refl _) h _ _ _ (fun _ _ => rfl) (fun q k q0 q1 => by omega)
theorem MD_leanNow_spec (hG : Gok sw g) (E : MdOk h C) (Wh : MdW h w) {x : Int} {K : Int → (Nat → Int → Int) → Prop} (x0 : 0 ≤ x) (x1 : x ≤ 3) (k : ∀ h', (∀ b, ¬ (69 ≤ b ∧ b ≤ 73) → ¬ (81 ≤ b ∧ b ≤ 87) → ¬ (91 ≤ b ∧ b ≤ 94) → h' b = h b) → MdOk h' C → K (leanV C w x) h') : MD_leanNow g h x K := by
  have E0 := E
  obtain ⟨R, L, V, iV, hn⟩ := E
  have W := V.1
  have hN := W.2.1
  have W' := lean_Wf W w
  have n' := NP_le W'
  refine MD_leanNow_wp hG (MD_keep_spec hG (fun h1 F1 A1 B1 => ?_))
  have R1 : MdR h1 C := R.keep (by rw [F1 68 (by omega) (by omega) (by omega)]) (F1 69 (by omega) (by omega) (by omega)) (F1 70 (by omega) (by omega) (by omega)) (F1 71 (by omega) (by omega) (by omega))
  have Wh1 : MdW h1 w := Wh.keep (by rw [F1 68 (by omega) (by omega) (by omega)]) (by rw [F1 68 (by omega) (by omega) (by omega)]) (F1 74 (by omega) (by omega) (by omega))
  refine MD_makeLean_spec hG R1 V hn Wh1 (fun p p0 p1 => by rw [A1 p p0 p1]; exact R.2.1 p p0 p1) (fun p k p0 p1 k0 k1 => by
    have := W.sz p
    rw [(B1 (9 * p + k) (by omega) (by omega)).1, (B1 (9 * p + k) (by omega) (by omega)).2]; exact R.2.2 p k p0 p1 k0 k1) (fun h2 F2 E2 => ?_)
  have Wh2 : MdW h2 w := Wh1.keep (by rw [F2 68 (by omega) (by omega)]) (by rw [F2 68 (by omega) (by omega)]) (F2 74 (by omega) (by omega))
  refine MD_layCuts_spec hG E2 Wh2 (fun h3 F3 L3 => ?_)
  have R3 : MdR h3 (leanC C w) := (E2.keep (h' := h3) (by rw [F3 68 (by omega)]) (fun b b1 b2 => F3 b (by omega))).1
  have back : ∀ y, y = leanV C w x → MD_giveBack g h3 (fun h4 => K y h4) := fun y hy => by
    refine MD_giveBack_spec hG E0 (by rw [F3 68 (by omega), F2 68 (by omega) (by omega)]; exact R1.1) (fun p p0 p1 => by rw [F3 91 (by omega), F2 91 (by omega) (by omega)]; exact A1 p p0 p1) (fun i i0 i1 => by rw [F3 92 (by omega), F2 92 (by omega) (by omega), F3 93 (by omega), F2 93 (by omega) (by omega)]; exact B1 i i0 i1) (fun h4 F4 E4 => ?_)
    rw [hy]
    exact k h4 (fun b n1 n2 n3 => by rw [F4 b n1, F3 b n2, F2 b n1 (by omega), F1 b (by omega) (by omega) (by omega)]) E4
  have e6 := (L3 0 (by omega) (by omega)).2.2.2.2.1
  have c0 : Cons (leanC C w) (fun _ => 0) := Cons_0 (fun _ => rfl)
  rw [ctI_0 W'] at e6
  have lv : leanV C w x = if x = 0 then cT (leanC C w) else if x = 1 then bl (leanC C w) 17 else if x = 2 then (if 0 < hld (leanC C w) w then 1 else 0) else pick (av (leanC C w) w (fun _ => 0)) 0 1 := rfl
  refine ⟨fun n0 => ⟨fun n1 => ⟨fun n2 => ⟨fun z => back _ ?_, fun z => back _ ?_⟩, fun y2 => MD_heldMany_spec hG R3 W' L3 ⟨fun z => back _ ?_, fun z => back _ ?_⟩⟩, fun y1 => MD_cutsMany_spec hG R3 W' L3 (back _ ?_)⟩, fun y0 => MD_eventsAll_spec hG R3 W' (back _ ?_)⟩
  · rw [e6, pick_0] at z
    rw [lv, if_neg n0, if_neg n1, if_neg n2, pick_f (fun y => z ⟨c0, y⟩)]
  · rw [e6, pick_1] at z
    rw [lv, if_neg n0, if_neg n1, if_neg n2, pick_t z.2]
  · rw [lv, if_neg n0, if_neg n1, if_pos y2, if_neg (by omega)]
  · rw [lv, if_neg n0, if_neg n1, if_pos y2, if_pos z]
  · rw [lv, if_neg n0, if_pos y1]
  · rw [lv, if_pos y0]
end MD
