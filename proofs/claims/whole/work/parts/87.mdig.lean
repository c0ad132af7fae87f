/-! digest: the model -/
def DM (h0 : Nat → Int → Int) (A : Sta) (a : Int) (h : Nat → Int → Int) : Prop := FrM h0 h ∧ InvM h A ∧ h 68 44 = a
theorem dE2_0 {C : Cmp} {p e a : Int} : dE2 C p e a 0 = a := it_0
theorem dE1_0 {C : Cmp} {p a : Int} : dE1 C p a 0 = a := it_0
section DG
variable {sw : Bool} {g : Nat → Nat → Nat} {h h0 : Nat → Int → Int} {A : Sta} {a : Int} {K : (Nat → Int → Int) → Prop}
theorem DM.put (D : DM h0 A a h) {v : Int} : DM h0 A (mx a v) (mvUpd h 68 44 (mwl ((mwl (31 * (h 68 44))) + v))) := ⟨fun b hb => by rw [upd_ob (by omega)]; exact D.1 b hb, D.2.1.mod2 (fun b b1 b2 => upd_ob (by omega)) (fun i hi => upd_ix (by omega)), by rw [upd_at, D.2.2]; rfl⟩
theorem DM.q (D : DM h0 A a h) {h' : Nat → Int → Int} (F : ∀ b, ¬ (81 ≤ b ∧ b ≤ 90) → h' b = h b) : DM h0 A a h' := by
  obtain ⟨f, I⟩ := D.2.1.q87 F
  exact ⟨fun b hb => (f b hb).trans (D.1 b hb), I, by rw [F 68 (by omega)]; exact D.2.2⟩
theorem DM.ln (D : DM h0 A a h) {h' : Nat → Int → Int} (F : ∀ b, ¬ (69 ≤ b ∧ b ≤ 73) → ¬ (81 ≤ b ∧ b ≤ 87) → ¬ (91 ≤ b ∧ b ≤ 94) → h' b = h b) (E : MdOk h' (sC A)) : DM h0 A a h' := by
  obtain ⟨f, I⟩ := D.2.1.ln F E
  exact ⟨fun b hb => (f b hb).trans (D.1 b hb), I, by rw [F 68 (by omega) (by omega) (by omega)]; exact D.2.2⟩
theorem LcOk.put {C : Cmp} {w : Wsh} (L : LcOk h C w) {v : Int} : LcOk (mvUpd h 68 44 v) C w := L.keep (fun b b1 b2 => upd_ob (by omega))
theorem DM.wf (D : DM h0 A a h) (hn : 0 < cN (sC A)) : MdOk h (sC A) ∧ MdR h (sC A) ∧ Valid (sC A) ∧ Wf (sC A) ∧ MdW h (sW A) := by
  have E := D.2.1.ev hn
  exact ⟨E, E.1, E.2.2.1, E.2.2.1.1, D.2.1.2.2.2.1⟩
theorem MD_mixEvents_spec (hG : Gok sw g) (hn : 0 < cN (sC A)) (D : DM h0 A a h) (k : ∀ h', DM h0 A (dL (sC A) (dE (sC A) a (cN (sC A))) 5) h' → K h') : MD_mixEvents g h K := by
  obtain ⟨-, -, -, W, -⟩ := D.wf hn
  have hN := W.2.1
  have lat : ∀ x : Int, x ≤ 5 → 0 ≤ x → ∀ h u, DM h0 A (dL (sC A) (dE (sC A) a (cN (sC A))) x) h → MD_mixEvents_57 g h x u K := by
    refine up_ind ?_ ?_
    · intro _ h u D
      exact MD_mixEvents_57_wp hG ⟨fun _ => k h D, fun z => absurd z (by omega)⟩
    · intro x hx ih x0 h u D
      obtain ⟨E, R, V, -, Q⟩ := D.wf hn
      refine MD_mixEvents_57_wp hG ⟨fun z => absurd z (by omega), fun _ => MD_latticeNow_spec hG E Q x0 (by omega) (fun h1 F => ?_)⟩
      rw [mwi (z := x + 1) (by omega) (by omega)]
      rintro h3 rfl
      have ih := ih (by omega)
      unfold dL at ih D
      rw [it_s x0] at ih
      exact ih _ _ (D.q (fun b nb => F b (by omega))).put
  have key : ∀ p : Int, p ≤ cN (sC A) → 0 ≤ p → ∀ h u, DM h0 A (dE (sC A) a p) h → MD_mixEvents_2 g h p u K := by
    refine up_ind ?_ ?_
    · intro _ h u D
      obtain ⟨E, R, -⟩ := D.wf hn
      exact MD_mixEvents_2_wp hG ⟨fun _ => lat 0 (by omega) (Int.le_refl _) h u D, fun z => absurd z (by rw [R.1]; omega)⟩
    · intro p hp ih p0 h u D
      have sz := W.sz p
      have e1 : dE (sC A) a (p + 1) = dE1 (sC A) p (dE (sC A) a p) (cS (sC A) p) := by
        conv => lhs; unfold dE
        rw [it_s p0]; rfl
      have ih := ih (by omega)
      rw [e1] at ih
      obtain ⟨E, R, -⟩ := D.wf hn
      refine MD_mixEvents_2_wp hG ⟨fun z => absurd z (by rw [R.1]; omega), fun _ => ?_⟩
      have inner : ∀ j : Int, j ≤ 7 * cS (sC A) p → 0 ≤ j → ∀ h, DM h0 A (dE2 (sC A) p (j / 7) (dE1 (sC A) p (dE (sC A) a p) (j / 7)) (j % 7)) h → MD_mixEvents_12 g h p j K := by
        refine up_ind ?_ ?_
        · intro j0 h D
          obtain ⟨E, R, -⟩ := D.wf hn
          have d7 : 7 * cS (sC A) p / 7 = cS (sC A) p := by omega
          have m7 : 7 * cS (sC A) p % 7 = 0 := by omega
          rw [d7, m7, dE2_0] at D
          refine MD_mixEvents_12_wp hG ⟨⟨p0, by omega⟩, fun _ => ?_, fun z => absurd z (by rw [R.2.1 p p0 (by omega), mwi (by omega) (by omega)]; omega)⟩
          rw [mwi (by omega) (by omega)]
          exact ih _ _ D
        · intro j hj ih2 j0 h D
          obtain ⟨E, R, -⟩ := D.wf hn
          refine MD_mixEvents_12_wp hG ⟨⟨p0, by omega⟩, fun z => absurd z (by rw [R.2.1 p p0 (by omega), mwi (by omega) (by omega)]; omega), fun _ => ?_⟩
          rw [tdv j0, tmd j0, mwi (z := j / 7) (by omega) (by omega), mwi (z := j + 1) (by omega) (by omega)]
          refine MD_eventNow_spec hG E p0 hp (by omega) (by omega) (by omega) (by omega) ?_
          rintro h3 rfl
          have ih2 := ih2 (by omega)
          have D2 := D.put (v := evProp (sC A) p (j / 7) (j % 7))
          have st : mx (dE2 (sC A) p (j / 7) (dE1 (sC A) p (dE (sC A) a p) (j / 7)) (j % 7)) (evProp (sC A) p (j / 7) (j % 7)) = dE2 (sC A) p (j / 7) (dE1 (sC A) p (dE (sC A) a p) (j / 7)) (j % 7 + 1) := by
            unfold dE2
            rw [it_s (by omega)]
          rw [st] at D2
          refine ih2 _ ?_
          by_cases e : j % 7 = 6
          · have d7 : (j + 1) / 7 = j / 7 + 1 := by omega
            have m7 : (j + 1) % 7 = 0 := by omega
            rw [d7, m7]
            have e2 : dE2 (sC A) p (j / 7 + 1) (dE1 (sC A) p (dE (sC A) a p) (j / 7 + 1)) 0 = dE2 (sC A) p (j / 7) (dE1 (sC A) p (dE (sC A) a p) (j / 7)) (j % 7 + 1) := by
              have e3 : dE1 (sC A) p (dE (sC A) a p) (j / 7 + 1) = dE2 (sC A) p (j / 7) (dE1 (sC A) p (dE (sC A) a p) (j / 7)) 7 := by
                conv => lhs; unfold dE1
                rw [it_s (by omega)]; rfl
              rw [e3, e, dE2_0]; rfl
            rw [e2]; exact D2
          · have d7 : (j + 1) / 7 = j / 7 := by omega
            have m7 : (j + 1) % 7 = j % 7 + 1 := by omega
            rw [d7, m7]; exact D2
      have z0 : dE2 (sC A) p (0 / 7) (dE1 (sC A) p (dE (sC A) a p) (0 / 7)) (0 % 7) = dE (sC A) a p := by
        rw [show (0 : Int) / 7 = 0 from rfl, show (0 : Int) % 7 = 0 from rfl, dE2_0, dE1_0]
      exact inner 0 (by omega) (Int.le_refl _) h (by rw [z0]; exact D)
  exact MD_mixEvents_wp hG (key 0 W.1 (Int.le_refl _) h _ D)
theorem MD_wishedNow_spec2 (hG : Gok sw g) {C : Cmp} {w : Wsh} (E : MdOk h C) (Wh : MdW h w) {x : Int} {K : Int → (Nat → Int → Int) → Prop} (x0 : 0 ≤ x) (x1 : x ≤ 3) (k : ∀ h', (∀ b, ¬ (81 ≤ b ∧ b ≤ 87) → h' b = h b) → LcOk h' C w → K (seaP C w x) h') : MD_wishedNow g h x K := by
  have V := E.2.2.1
  have W := V.1
  have hn := E.2.2.2.2
  have n := NP_le W
  refine MD_wishedNow_wp hG (MD_layCuts_spec hG E Wh (fun h1 F L => ?_))
  have R1 := (E.keep (h' := h1) (by rw [F 68 (by omega)]) (fun b b1 b2 => F b (by omega))).1
  have e6 := (L 0 (by omega) (by omega)).2.2.2.2.1
  unfold seaP at k
  rw [ctI_0 W] at e6
  have c0 : Cons C (fun _ => 0) := Cons_0 (fun _ => rfl)
  refine ⟨fun z => ⟨fun z2 => ?_, fun z2 => ?_⟩, fun z => MD_heldMany_spec hG R1 W L ⟨fun z2 => ?_, fun z2 => ?_⟩, fun z => MD_heldMany_spec hG R1 W L ?_, fun z => MD_heldFirst_spec hG R1 W hn L (fun h2 F2 => ?_)⟩
  · rw [e6, pick_0] at z2
    have k := k h1 F L
    rw [if_neg (by omega), if_neg (by omega), if_neg (by omega), pick_f (fun y => z2 ⟨c0, y⟩)] at k; exact k
  · rw [e6, pick_1] at z2
    have k := k h1 F L
    rw [if_neg (by omega), if_neg (by omega), if_neg (by omega), pick_t z2.2] at k; exact k
  · have k := k h1 F L
    rw [if_pos z, if_neg (by omega)] at k; exact k
  · have k := k h1 F L
    rw [if_pos z, if_pos z2] at k; exact k
  · have k := k h1 F L
    rw [if_neg (by omega), if_pos z] at k; exact k
  · have k := k h2 (fun b nb => (F2 b (by omega)).trans (F b nb)) (L.keep (fun b b1 b2 => F2 b (by omega)))
    rw [if_neg (by omega), if_neg (by omega), if_pos z] at k; exact k
theorem MD_mixCut_spec (hG : Gok sw g) (hn : 0 < cN (sC A)) (D : DM h0 A a h) (L : LcOk h (sC A) (sW A)) {j : Int} (j0 : 0 ≤ j) (j1 : j < NP (sC A)) (hk : Cons (sC A) (ctI (sC A) j)) (k : ∀ h', DM h0 A (cutM (sC A) (sW A) j a 4) h' → LcOk h' (sC A) (sW A) → K h') : MD_mixCut g h j K := by
  obtain ⟨E, R, V, W, Q⟩ := D.wf hn
  have n := NP_le W
  have ci := ctI_in W j0 j1
  refine MD_mixCut_wp hG (MD_take_spec hG R W (by omega) j0 j1 (fun h1 F1 A1 => ?_))
  have D1 := D.q (h' := h1) (fun b nb => F1 b (by omega))
  have L1 := L.keep (h' := h1) (fun b b1 b2 => F1 b (by omega))
  obtain ⟨E1, R1, -⟩ := D1.wf hn
  refine MD_toldNow_spec hG R1 W (by omega) A1 (ci.dg W) ?_
  rintro h4 rfl
  have D4 := D1.put (v := en (cN (sC A)) (ctI (sC A) j))
  have L4 := L1.put (v := (mwl ((mwl (31 * (h1 68 44))) + en (cN (sC A)) (ctI (sC A) j))))
  generalize mvUpd h1 68 44 (mwl ((mwl (31 * (h1 68 44))) + en (cN (sC A)) (ctI (sC A) j))) = h4 at D4 L4 ⊢
  have rest : ∀ (h5 : Nat → Int → Int), DM h0 A (mx (mx a (en (cN (sC A)) (ctI (sC A) j))) (pick (Hold (sC A) (sW A) (ctI (sC A) j)) 1 0)) h5 → LcOk h5 (sC A) (sW A) → MD_mixCut_28 g h5 j K := by
    intro h5 D5 L5
    obtain ⟨E5, R5, -⟩ := D5.wf hn
    refine MD_mixCut_28_wp hG (MD_nextBits_spec hG R5 V (by omega) (fun i i0 i1 => (L5 i i0 i1).1) j0 j1 hk (fun h6 F6 => ?_))
    rintro h7 rfl
    have D7 := (D5.q (h' := h6) (fun b nb => F6 b (by omega))).put (v := fol (sC A) (ctI (sC A) j))
    have L7 := (L5.keep (h' := h6) (fun b b1 b2 => F6 b (by omega))).put (v := (mwl ((mwl (31 * (h6 68 44))) + fol (sC A) (ctI (sC A) j))))
    generalize mvUpd h6 68 44 (mwl ((mwl (31 * (h6 68 44))) + fol (sC A) (ctI (sC A) j))) = h7 at D7 L7 ⊢
    obtain ⟨E7, R7, -⟩ := D7.wf hn
    refine MD_take_spec hG R7 W (by omega) j0 j1 (fun h8 F8 A8 => ?_)
    have D8 := D7.q (h' := h8) (fun b nb => F8 b (by omega))
    have L8 := L7.keep (h' := h8) (fun b b1 b2 => F8 b (by omega))
    obtain ⟨E8, R8, -⟩ := D8.wf hn
    refine MD_underAll_spec hG E8 A8 ci hk ?_
    rintro h9 rfl
    have D9 := D8.put (v := uw (sC A) (ctI (sC A) j) (cN (sC A)))
    have L9 := L8.put (v := (mwl ((mwl (31 * (h8 68 44))) + uw (sC A) (ctI (sC A) j) (cN (sC A)))))
    generalize mvUpd h8 68 44 (mwl ((mwl (31 * (h8 68 44))) + uw (sC A) (ctI (sC A) j) (cN (sC A)))) = h9 at D9 L9 ⊢
    refine ⟨⟨j0, by omega⟩, ⟨j0, by omega⟩, ?_⟩
    rintro h10 rfl
    obtain ⟨-, -, d4, d5, -, -⟩ := L9 j j0 j1
    rw [d4, d5]
    refine k _ ?_ L9.put
    have fin := D9.put (v := mw (npc (sC A) (ctI (sC A) j) * pv (sC A) j))
    have e : cutM (sC A) (sW A) j a 4 = mx (mx (mx (mx (mx a (en (cN (sC A)) (ctI (sC A) j))) (pick (Hold (sC A) (sW A) (ctI (sC A) j)) 1 0)) (fol (sC A) (ctI (sC A) j))) (uw (sC A) (ctI (sC A) j) (cN (sC A)))) (mw (npc (sC A) (ctI (sC A) j) * pv (sC A) j)) := by
      have c5 : cutP (sC A) (sW A) (ctI (sC A) j) (3 + 2) = mw (npc (sC A) (ctI (sC A) j) * pv (sC A) (ixc (sC A) (ctI (sC A) j))) := rfl
      rw [ixc_ctI] at c5
      rw [← c5]
      rfl
    rw [e]
    exact fin
  have e83 := (L4 j j0 j1).2.1
  refine ⟨⟨j0, by omega⟩, fun z => ?_, fun z => ?_⟩
  · rw [e83, pick_0] at z
    rintro h5 rfl
    exact rest _ (by rw [pick_f (fun y => z ⟨hk, y⟩)]; exact D4.put (v := 0)) L4.put
  · rw [e83, pick_1] at z
    rintro h5 rfl
    exact rest _ (by rw [pick_t z.2]; exact D4.put (v := 1)) L4.put
theorem bl_up {C : Cmp} (W : Wf C) : bl C (cT C + 1) = bl C 17 := cntI_cg (fun i i0 i1 => by
  have a := lev_le (ctI_in W i0 i1)
  have b := cT_r W
  exact ⟨fun z => ⟨z.1, by omega⟩, fun z => ⟨z.1, by omega⟩⟩)
theorem MD_mixCuts_spec (hG : Gok sw g) (hn : 0 < cN (sC A)) (D : DM h0 A a h) (k : ∀ h', DM h0 A (dP (sC A) (sW A) (dS (sC A) (sW A) (dR (sC A) (sW A) a (bl (sC A) 17)) 4) (pick (av (sC A) (sW A) (fun _ => 0)) (cT (sC A)) 0)) h' → K h') : MD_mixCuts g h K := by
  obtain ⟨E, R, V, W, Q⟩ := D.wf hn
  have n := NP_le W
  have hT := cT_r W
  have c0 : Cons (sC A) (fun _ => 0) := Cons_0 (fun _ => rfl)
  have around : ∀ i : Int, 0 ≤ i → (i ≤ pick (av (sC A) (sW A) (fun _ => 0)) (cT (sC A)) 0) → ∀ h u v, DM h0 A (dP (sC A) (sW A) (dS (sC A) (sW A) (dR (sC A) (sW A) a (bl (sC A) 17)) 4) i) h → LcOk h (sC A) (sW A) → MD_mixCuts_87 g h u i v K := by
    rcases Classical.em (av (sC A) (sW A) (fun _ => 0)) with ha | ha
    · rw [pick_t ha] at k ⊢
      have up : ∀ i : Int, i ≤ cT (sC A) → 0 ≤ i → ∀ h u v, DM h0 A (dP (sC A) (sW A) (dS (sC A) (sW A) (dR (sC A) (sW A) a (bl (sC A) 17)) 4) i) h → LcOk h (sC A) (sW A) → MD_mixCuts_87 g h u i v K := by
        refine up_ind ?_ ?_
        · intro _ h u v D L
          obtain ⟨E, R, -⟩ := D.wf hn
          exact MD_mixCuts_87_wp hG (MD_eventsAll_spec hG R W ⟨fun _ => k h D, fun z => absurd z (by omega)⟩)
        · intro i hi ih i0 h u v D L
          obtain ⟨E, R, -⟩ := D.wf hn
          have e6 := (L 0 (by omega) (by omega)).2.2.2.2.1
          rw [ctI_0 W] at e6
          refine MD_mixCuts_87_wp hG (MD_eventsAll_spec hG R W ⟨fun z => absurd z (by omega), fun _ => ⟨fun z => ?_, fun _ => ?_⟩⟩)
          · rw [e6, pick_0] at z
            exact absurd ⟨c0, ha⟩ z
          · refine MD_aroundNow_spec hG R V (by omega) L ha i0 hi (fun h1 F1 => ?_)
            rw [mwi (z := i + 1) (by omega) (by omega)]
            rintro h5 rfl
            have ih := ih (by omega)
            unfold dP at ih D
            rw [it_s i0] at ih
            exact ih _ _ _ (D.q (h' := h1) (fun b nb => F1 b (by omega))).put (L.keep (h' := h1) (fun b b1 b2 => F1 b (by omega))).put
      exact fun i i0 i1 => up i i1 i0
    · rw [pick_f ha] at k ⊢
      intro i i0 i1 h u v D L
      have ei : i = 0 := by omega
      subst ei
      obtain ⟨E, R, -⟩ := D.wf hn
      have e6 := (L 0 (by omega) (by omega)).2.2.2.2.1
      rw [ctI_0 W] at e6
      refine MD_mixCuts_87_wp hG (MD_eventsAll_spec hG R W ⟨fun _ => k h D, fun _ => ⟨fun _ => k h D, fun z => ?_⟩⟩)
      rw [e6, pick_1] at z
      exact absurd z.2 ha
  have pk : 0 ≤ pick (av (sC A) (sW A) (fun _ => 0)) (cT (sC A)) 0 := by
    rcases Classical.em (av (sC A) (sW A) (fun _ => 0)) with ha | ha
    · rw [pick_t ha]; exact hT.1
    · rw [pick_f ha]; exact Int.le_refl _
  have wish : ∀ x : Int, x ≤ 4 → 0 ≤ x → ∀ h u v, DM h0 A (dS (sC A) (sW A) (dR (sC A) (sW A) a (bl (sC A) 17)) x) h → LcOk h (sC A) (sW A) → MD_mixCuts_64 g h u x v K := by
    refine up_ind ?_ ?_
    · intro _ h u v D L
      exact MD_mixCuts_64_wp hG ⟨fun _ => around 0 (Int.le_refl _) pk h u v D L, fun z => absurd z (by omega)⟩
    · intro x hx ih x0 h u v D L
      obtain ⟨E, R, -, -, Q⟩ := D.wf hn
      refine MD_mixCuts_64_wp hG ⟨fun z => absurd z (by omega), fun _ => MD_wishedNow_spec2 hG E Q x0 (by omega) (fun h1 F1 L1 => ?_)⟩
      rw [mwi (z := x + 1) (by omega) (by omega)]
      rintro h3 rfl
      have ih := ih (by omega)
      unfold dS at ih D
      rw [it_s x0] at ih
      exact ih _ _ _ (D.q (h' := h1) (fun b nb => F1 b (by omega))).put L1.put
  have levels : ∀ l : Int, l ≤ cT (sC A) + 1 → 0 ≤ l → ∀ h u, DM h0 A (dR (sC A) (sW A) a (bl (sC A) l)) h → LcOk h (sC A) (sW A) → MD_mixCuts_11 g h (NP (sC A)) l u K := by
    refine up_ind ?_ ?_
    · intro _ h u D L
      obtain ⟨E, R, -⟩ := D.wf hn
      rw [bl_up W] at D
      exact MD_mixCuts_11_wp hG (MD_eventsAll_spec hG R W ⟨fun _ => wish 0 (by omega) (Int.le_refl _) h _ _ D L, fun z => absurd z (by omega)⟩)
    · intro l hl ih l0 h u D L
      obtain ⟨E, R, -⟩ := D.wf hn
      have b0 := bl_r W l
      refine MD_mixCuts_11_wp hG (MD_eventsAll_spec hG R W ⟨fun z => absurd z (by omega), fun _ => ?_⟩)
      have inner : ∀ c : Int, c ≤ NP (sC A) → 0 ≤ c → ∀ h, DM h0 A (dR (sC A) (sW A) a (bl (sC A) l + lc (sC A) l c)) h → LcOk h (sC A) (sW A) → MD_mixCuts_21 g h (NP (sC A)) l c K := by
        refine up_ind ?_ ?_
        · intro _ h D L
          refine MD_mixCuts_21_wp hG ⟨fun _ => ?_, fun z => absurd z (by omega)⟩
          rw [mwi (by omega) (by omega)]
          rw [← bl_s W] at D
          exact ih (by omega) h _ D L
        · intro c hc ih2 c0 h D L
          obtain ⟨d2, d3, d4, d5, d6, d7⟩ := L c c0 hc
          have cr := lc_r (C := sC A) (l := l) c0
          have ih2 := ih2 (by omega)
          refine MD_mixCuts_21_wp hG ⟨fun z => absurd z (by omega), fun _ => ?_⟩
          rw [d2, d7, mwi (z := c + 1) (by omega) (by omega), pick_0, Classical.not_not]
          refine ⟨⟨c0, by omega⟩, fun z => ?_, fun z => ⟨⟨c0, by omega⟩, fun z2 => ?_, fun z2 => ?_⟩⟩
          · have e : lc (sC A) l (c + 1) = lc (sC A) l c := cntI_n c0 (fun y => z y.1)
            rw [e] at ih2; exact ih2 h D L
          · have e : lc (sC A) l (c + 1) = lc (sC A) l c := cntI_n c0 (fun y => z2 y.2)
            rw [e] at ih2; exact ih2 h D L
          · have e : lc (sC A) l (c + 1) = lc (sC A) l c + 1 := cntI_y c0 ⟨z, z2⟩
            refine MD_mixCut_spec hG hn D L c0 hc z (fun h1 D1 L1 => ih2 h1 ?_ L1)
            have er : rkI (sC A) (bl (sC A) l + lc (sC A) l c) = c := by
              have := rkI_at W c0 hc z
              unfold rk at this
              rw [z2] at this
              exact this
            rw [e, ← Int.add_assoc]
            unfold dR at D1 ⊢
            rw [it_s (by omega), er]
            exact D1
      have D' : DM h0 A (dR (sC A) (sW A) a (bl (sC A) l + lc (sC A) l 0)) h := by
        rw [show lc (sC A) l 0 = 0 from rfl, Int.add_zero]; exact D
      exact inner 0 (by omega) (Int.le_refl _) h D' L
  refine MD_mixCuts_wp hG (MD_layCuts_spec hG E Q (fun h1 F1 L1 => ?_))
  have D1 := D.q (h' := h1) (fun b nb => F1 b (by omega))
  obtain ⟨E1, R1, -⟩ := D1.wf hn
  refine MD_cutsAll_spec hG R1 W ?_
  have D1' : DM h0 A (dR (sC A) (sW A) a (bl (sC A) 0)) h1 := by rw [bl_0 W]; exact D1
  exact levels 0 (by omega) (Int.le_refl _) h1 _ D1' L1
theorem MD_mixAll_spec (hG : Gok sw g) (hn : 0 < cN (sC A)) (w0 : (sW A).1 = 0) (D : DM h0 A a h) (k : ∀ h', DM h0 A (dA (sC A) (sW A) a) h' → K h') : MD_mixAll g h K := by
  obtain ⟨E, R, V, W, Q⟩ := D.wf hn
  have hN := W.2.1
  refine MD_mixAll_wp hG (MD_leastNow_spec hG E Q w0 (fun h1 F1 => ?_))
  rintro h3 rfl
  have D3 := (D.q (h' := h1) (fun b nb => F1 b (by omega))).put (v := lowV (sC A) (sW A))
  obtain ⟨E3, R3, -, -, Q3⟩ := D3.wf hn
  refine MD_strongNow_spec hG E3 Q3 (fun h4 F4 => ?_)
  rintro h6 rfl
  have D6 := (D3.q (h' := h4) (fun b nb => F4 b (by omega) (by omega))).put (v := pick (str (sC A) (sW A)) 1 0)
  unfold dA at k
  revert D6 k
  generalize mx (mx a (lowV (sC A) (sW A))) (pick (str (sC A) (sW A)) 1 0) = b
  intro k D6
  have lean : ∀ x : Int, x ≤ 4 → 0 ≤ x → ∀ h u v, DM h0 A (dN (sC A) (sW A) (dI (sC A) (sW A) b (cN (sC A))) x) h → MD_mixAll_82 g h x u v K := by
    refine up_ind ?_ ?_
    · intro _ h u v D
      exact MD_mixAll_82_wp hG ⟨fun _ => k h D, fun z => absurd z (by omega)⟩
    · intro x hx ih x0 h u v D
      obtain ⟨E, R, -, -, Q⟩ := D.wf hn
      refine MD_mixAll_82_wp hG ⟨fun z => absurd z (by omega), fun _ => MD_leanNow_spec hG E Q x0 (by omega) (fun h1 F1 E1 => ?_)⟩
      rw [mwi (z := x + 1) (by omega) (by omega)]
      rintro h3 rfl
      have ih := ih (by omega)
      unfold dN at ih D
      rw [it_s x0] at ih
      exact ih _ _ _ (D.ln F1 E1).put
  have ivs : ∀ p : Int, p ≤ cN (sC A) → 0 ≤ p → ∀ h u v, DM h0 A (dI (sC A) (sW A) b p) h → MD_mixAll_20 g h p u v K := by
    refine up_ind ?_ ?_
    · intro _ h u v D
      obtain ⟨E, R, -⟩ := D.wf hn
      exact MD_mixAll_20_wp hG ⟨fun _ => lean 0 (by omega) (Int.le_refl _) h _ _ D, fun z => absurd z (by rw [R.1]; omega)⟩
    · intro p hp ih p0 h u v D
      obtain ⟨E, R, -, -, Q⟩ := D.wf hn
      have sz := W.sz p
      have nl := nIv_le (C := sC A) (w := sW A) (p := p) (k := cS (sC A) p + 1) (by omega)
      have ih := ih (by omega)
      unfold dI at ih
      rw [it_s p0] at ih
      refine MD_mixAll_20_wp hG ⟨fun z => absurd z (by rw [R.1]; omega), fun _ => MD_intervals_spec hG R W Q p0 hp ?_⟩
      rw [nIn_in p0 hp]
      have inner : ∀ i : Int, i ≤ nIv (sC A) (sW A) p (cS (sC A) p + 1) → 0 ≤ i → ∀ h, DM h0 A (dI1 (sC A) (sW A) p (dI (sC A) (sW A) b p) i) h → MD_mixAll_36 g h p (nIv (sC A) (sW A) p (cS (sC A) p + 1)) i K := by
        refine up_ind ?_ ?_
        · intro i0 h D
          refine MD_mixAll_36_wp hG ⟨fun _ => ?_, fun z => absurd z (by omega)⟩
          rw [mwi (by omega) (by omega)]
          exact ih _ _ _ D
        · intro i hi ih2 i0 h D
          obtain ⟨E, R, -, -, Q⟩ := D.wf hn
          have i32 : mv32 i := by unfold mv32; omega
          refine MD_mixAll_36_wp hG ⟨fun z => absurd z (by omega), fun _ => MD_beginOf_spec hG R W Q i32 p0 hp ?_⟩
          rintro h3 rfl
          have D3 := D.put (v := bgn (sC A) (sW A) p i)
          obtain ⟨E3, R3, -, -, Q3⟩ := D3.wf hn
          refine MD_beginOf_spec hG R3 W Q3 i32 p0 hp (MD_endOf_bgn hG R3 W Q3 p0 hp i0 hi ?_)
          rw [mwi (z := i + 1) (by omega) (by omega)]
          rintro h8 rfl
          have ih2 := ih2 (by omega)
          unfold dI1 at ih2 D3
          rw [it_s i0] at ih2
          exact ih2 _ D3.put
      exact inner 0 nl.1 (Int.le_refl _) h D
  exact ivs 0 W.1 (Int.le_refl _) _ _ _ D6
end DG
