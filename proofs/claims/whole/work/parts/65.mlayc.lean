section MD
variable {sw : Bool} {g : Nat → Nat → Nat} {h : Nat → Int → Int} {C : Cmp} {c : Int → Int} {w : Wsh}
theorem MD_layCuts_spec (hG : Gok sw g) (E : MdOk h C) (Wh : MdW h w) {K : (Nat → Int → Int) → Prop} (kk : ∀ (h' : Nat → Int → Int), (∀ b, ¬ (81 ≤ b ∧ b ≤ 87) → h' b = h b) → LcOk h' C w → K h') : MD_layCuts g h K := by
  have V := E.2.2.1
  have W := V.1
  have hN := W.2.1
  have hn := E.2.2.2.2
  have n := NP_le W
  have kE : ∀ (h' : Nat → Int → Int), (∀ b, ¬ (81 ≤ b ∧ b ≤ 87) → h' b = h b) → MdOk h' C := fun h' F => E.keep (by rw [F 68 (by omega)]) (fun b b1 b2 => F b (by omega))
  have kW : ∀ (h' : Nat → Int → Int), (∀ b, ¬ (81 ≤ b ∧ b ≤ 87) → h' b = h b) → MdW h' w := fun h' F => Wh.keep (by rw [F 68 (by omega)]) (by rw [F 68 (by omega)]) (F 74 (by omega))
  refine MD_layCuts_wp hG (MD_cutsAll_spec hG E.1 W ?_)
  -- the ways from a cut, and those round the predicate, from the last cut on
  have third : ∀ (h0 : Nat → Int → Int), (∀ b, ¬ (81 ≤ b ∧ b ≤ 87) → h0 b = h b) → (∀ j, 0 ≤ j → j < NP C → h0 82 j = pick (Cons C (ctI C j)) 1 0) → (∀ j, 0 ≤ j → j < NP C → h0 83 j = pick (held C w j) 1 0) → (∀ j, 0 ≤ j → j < NP C → h0 84 j = npc C (ctI C j)) → (∀ j, 0 ≤ j → j < NP C → h0 87 j = lev (ctI C j)) →
      ∀ m, 0 ≤ m → m ≤ NP C → ∀ (h' : Nat → Int → Int), (∀ b, ¬ b = 81 → ¬ b = 85 → ¬ b = 86 → h' b = h0 b) → PfI C (m - 1) 0 (h' 85) → FrI C w (m - 1) 0 (h' 86) → ∀ u v, MD_layCuts_202 g h' u (m - 1) v K := by
    intro h0 F0 D82 D83 D84 D87
    have oF : ∀ (h' : Nat → Int → Int), (∀ b, ¬ b = 81 → ¬ b = 85 → ¬ b = 86 → h' b = h0 b) → ∀ b, ¬ (81 ≤ b ∧ b ≤ 87) → h' b = h b := fun h' F b nb => by rw [F b (by omega) (by omega) (by omega), F0 b nb]
    refine int_ind ?_ ?_
    · intro _ h' F I J u v
      refine MD_layCuts_202_wp hG ⟨fun _ => kk h' (oF h' F) (fun j j0 j1 => ⟨?_, ?_, ?_, I.done j j0 j1, ?_, ?_⟩), fun z => absurd z (by omega)⟩
      · rw [F 82 (by omega) (by omega) (by omega)]; exact D82 j j0 j1
      · rw [F 83 (by omega) (by omega) (by omega)]; exact D83 j j0 j1
      · rw [F 84 (by omega) (by omega) (by omega)]; exact D84 j j0 j1
      · rw [J j j0 j1, if_pos (by omega)]
      · rw [F 87 (by omega) (by omega) (by omega)]; exact D87 j j0 j1
    · intro i i0 ih hi h' F I J u v
      rw [show i + 1 - 1 = i by omega] at I J ⊢
      have i1 : i < NP C := by omega
      have ci := ctI_in W i0 i1
      refine MD_layCuts_202_wp hG ⟨fun z => absurd z (by omega), fun _ => ?_⟩
      have back : ∀ v h', (∀ b, ¬ b = 81 → ¬ b = 85 → ¬ b = 86 → h' b = h0 b) → PfI C (i - 1) 0 (h' 85) → FrI C w (i - 1) 0 (h' 86) → MD_layCuts_202 g h' u (mw (i + -1)) v K := fun v h' F I J => by
        rw [mwi (z := i + -1) (by omega) (by omega)]
        exact ih (by omega) h' F I J u v
      have inner : ∀ p, p ≤ cN C → 0 ≤ p → ∀ (h' : Nat → Int → Int), (∀ b, ¬ b = 81 → ¬ b = 85 → ¬ b = 86 → h' b = h0 b) → PfI C i p (h' 85) → FrI C w i p (h' 86) → (Cons C (ctI C i) ∨ p = 0) → MD_layCuts_208 g h' u i p K := by
        refine up_ind ?_ ?_
        · intro _ h' F I J hk
          have R' := (kE h' (oF h' F)).1
          refine MD_layCuts_208_wp hG ⟨fun _ => ?_, fun z => absurd z (by rw [R'.1]; omega)⟩
          rcases hk with hk | hk
          · exact back _ h' F (I.next V i0 i1 hk) (J.next V i0 i1 hk)
          · omega
        · intro p hp ih2 p0 h' F I J hk
          have R' := (kE h' (oF h' F)).1
          have e82 : h' 82 i = pick (Cons C (ctI C i)) 1 0 := by rw [F 82 (by omega) (by omega) (by omega)]; exact D82 i i0 i1
          refine MD_layCuts_208_wp hG ⟨fun z => absurd z (by rw [R'.1]; omega), fun _ => ⟨⟨i0, by omega⟩, fun hz => ?_, fun hz => ?_⟩⟩
          · rw [e82, pick_0] at hz
            rcases hk with hk | hk
            · exact absurd hk hz
            · rw [hk] at I J
              exact back _ h' F (I.nextz V i0 i1 hz) (J.nextz V i0 i1 hz)
          · rw [e82, pick_1] at hz
            refine MD_canGoOn_spec hG R' V hn (fun j j0 j1 => by rw [F 82 (by omega) (by omega) (by omega)]; exact D82 j j0 j1) i0 i1 hz p0 hp (fun cf h1 F1 _ => ⟨fun z => absurd z (by decide), fun _ => ⟨⟨i0, by omega⟩, ?_⟩⟩) (fun cf h1 F1 _ => ⟨fun _ => ?_, fun z => absurd rfl z⟩)
            · have F1' : ∀ b, ¬ b = 81 → ¬ b = 85 → ¬ b = 86 → h1 b = h0 b := fun b a1 a2 a3 => (F1 b a1).trans (F b a1 a2 a3)
              have R1 := (kE h1 (oF h1 F1')).1
              have I1 : PfI C i p (h1 85) := by rw [F1 85 (by omega)]; exact I
              have J1 : FrI C w i p (h1 86) := by rw [F1 86 (by omega)]; exact J
              obtain ⟨c1, c2⟩ := ctI_inc W i0 i1 p0 (by omega) cf.1
              have sp := st_pos W p
              refine MD_stride_spec hG R1 W p0 hp ?_
              have e83 : h1 83 i = pick (held C w i) 1 0 := by rw [F1' 83 (by omega) (by omega) (by omega)]; exact D83 i i0 i1
              have hh : ¬ pick (held C w i) (1 : Int) 0 = 0 ↔ Hold C w (ctI C i) := by rw [pick_1]; exact ⟨fun z => z.2, fun z => ⟨hz, z⟩⟩
              have I2 : PfI C i (p + 1) (mvUpd h1 85 i (mw (h1 85 i + h1 85 (i + st C p))) 85) := I1.yes V i0 i1 p0 hp hz cf upd_at (fun j hj => upd_ix hj)
              have fin : ∀ x, x = pick (¬ h1 86 i = 0 ∨ (¬ Hold C w (ctI C i) ∧ ¬ h1 86 (i + st C p) = 0)) 1 0 → MD_layCuts_208 g (mvUpd (mvUpd h1 85 i (mw (h1 85 i + h1 85 (i + st C p)))) 86 i x) u i (p + 1) K := fun x hx => by
                refine ih2 (by omega) _ (fun b a1 a2 a3 => by rw [upd_ob a3, upd_ob a2]; exact F1' b a1 a2 a3) ?_ (J1.yes V i0 i1 p0 hp hz cf ?_ (fun j hj => ?_)) (Or.inl hz)
                · rw [upd_ob (by omega)]; exact I2
                · rw [upd_at]; exact hx
                · rw [upd_ix hj, upd_ob (by omega)]
              simp (disch := omega) only [mwi, bd, forall_eq, upd_ob, e83]
              refine ⟨fun z => fin _ (pick_t (Or.inl z)).symm, fun z => ⟨fun z2 => fin _ (pick_f (fun y => ?_)).symm, fun z2 => MD_stride_spec hG ?_ W p0 hp ?_⟩⟩
              · rcases y with y | y
                · exact y z
                · exact y.1 (hh.mp z2)
              · exact R1.keep (by rw [upd_ob (by omega)]) (upd_ob (by omega)) (upd_ob (by omega)) (upd_ob (by omega))
              · have nh : ¬ Hold C w (ctI C i) := fun y => (hh.mpr y) z2
                simp (disch := omega) only [mwi, bd, upd_ob]
                refine ⟨fun z3 => fin _ (pick_f (fun y => ?_)).symm, fun z3 => fin _ (pick_t (Or.inr ⟨nh, z3⟩)).symm⟩
                rcases y with y | y
                · exact y z
                · exact y.2 z3
            · rw [mwi (z := p + 1) (by omega) (by omega)]
              exact ih2 (by omega) h1 (fun b a1 a2 a3 => (F1 b a1).trans (F b a1 a2 a3)) (by rw [F1 85 (by omega)]; exact I.no p0 cf) (by rw [F1 86 (by omega)]; exact J.no cf) (Or.inl hz)
      exact inner 0 W.1 (Int.le_refl _) h' F I J (Or.inr rfl)
  -- the ways to a cut
  have second : ∀ (h0 : Nat → Int → Int), (∀ b, ¬ (81 ≤ b ∧ b ≤ 87) → h0 b = h b) → L1 h0 C w (NP C) → ∀ i, i ≤ NP C → 0 ≤ i → ∀ (h' : Nat → Int → Int), (∀ b, ¬ b = 81 → ¬ b = 84 → h' b = h0 b) → WtI C i 0 (h' 84) → ∀ v, MD_layCuts_132 g h' (NP C) i v K := by
    intro h0 F0 L0
    have oF : ∀ (h' : Nat → Int → Int), (∀ b, ¬ b = 81 → ¬ b = 84 → h' b = h0 b) → ∀ b, ¬ (81 ≤ b ∧ b ≤ 87) → h' b = h b := fun h' F b nb => by rw [F b (by omega) (by omega), F0 b nb]
    refine up_ind ?_ ?_
    · intro _ h' F I v
      refine MD_layCuts_132_wp hG ⟨fun _ => ?_, fun z => absurd z (by omega)⟩
      simp (disch := omega) only [mwi, forall_eq]
      refine third h' (oF h' F) (fun j j0 j1 => by rw [F 82 (by omega) (by omega)]; exact (L0 j j0 j1).1) (fun j j0 j1 => by rw [F 83 (by omega) (by omega)]; exact (L0 j j0 j1).2.1) (I.done W) (fun j j0 j1 => by rw [F 87 (by omega) (by omega)]; exact (L0 j j0 j1).2.2.2.2.2) (NP C) (by omega) (Int.le_refl _) h' (fun _ _ _ _ => rfl) (PfI.start (fun j j0 j1 => by rw [F 85 (by omega) (by omega)]; exact (L0 j j0 j1).2.2.2.1)) (fun j j0 j1 => ?_) _ _
      rw [F 86 (by omega) (by omega), (L0 j j0 j1).2.2.2.2.1, if_neg (by omega)]
      by_cases l : j = NP C - 1
      · rw [if_pos l]
        exact pick_cg ⟨fun z => z.2, fun z => ⟨l, z⟩⟩
      · rw [if_neg l, if_neg l, pick_f (fun z => l z.1)]
    · intro i hi ih i0 h' F I v
      have ci := ctI_in W i0 hi
      refine MD_layCuts_132_wp hG ⟨fun z => absurd z (by omega), fun _ => ?_⟩
      have inner : ∀ p, p ≤ cN C → 0 ≤ p → ∀ (h' : Nat → Int → Int), (∀ b, ¬ b = 81 → ¬ b = 84 → h' b = h0 b) → WtI C i p (h' 84) → MD_layCuts_139 g h' (NP C) i p K := by
        refine up_ind ?_ ?_
        · intro _ h' F I
          have R' := (kE h' (oF h' F)).1
          refine MD_layCuts_139_wp hG ⟨fun _ => ?_, fun z => absurd z (by rw [R'.1]; omega)⟩
          rw [mwi (z := i + 1) (by omega) (by omega)]
          exact ih (by omega) h' F I.next _
        · intro p hp ih2 p0 h' F I
          have R' := (kE h' (oF h' F)).1
          have e82 : h' 82 i = pick (Cons C (ctI C i)) 1 0 := by rw [F 82 (by omega) (by omega)]; exact (L0 i i0 hi).1
          refine MD_layCuts_139_wp hG ⟨fun z => absurd z (by rw [R'.1]; omega), fun _ => ⟨⟨i0, by omega⟩, fun hz => ?_, fun hz => ?_⟩⟩
          · rw [e82, pick_0] at hz
            rw [mwi (z := i + 1) (by omega) (by omega)]
            exact ih (by omega) h' F (I.nextz V i0 hi p0 (by omega) hz) _
          · rw [e82, pick_1] at hz
            refine MD_canGoOn_spec hG R' V hn (fun j j0 j1 => by rw [F 82 (by omega) (by omega)]; exact (L0 j j0 j1).1) i0 hi hz p0 hp (fun cf h1 F1 _ => ⟨fun z => absurd z (by decide), fun _ => ?_⟩) (fun cf h1 F1 _ => ⟨fun _ => ?_, fun z => absurd rfl z⟩)
            · have F1' : ∀ b, ¬ b = 81 → ¬ b = 84 → h1 b = h0 b := fun b a1 a2 => (F1 b a1).trans (F b a1 a2)
              have R1 := (kE h1 (oF h1 F1')).1
              have I1 : WtI C i p (h1 84) := by rw [F1 84 (by omega)]; exact I
              obtain ⟨c1, c2⟩ := ctI_inc W i0 hi p0 (by omega) cf.1
              have sp := st_pos W p
              refine MD_stride_spec hG R1 W p0 hp ?_
              simp (disch := omega) only [mwi, bd, forall_eq]
              exact ih2 (by omega) _ (fun b a1 a2 => by rw [upd_ob a2]; exact F1' b a1 a2) (I1.yes W i0 hi p0 hp cf upd_at (fun j hj => upd_ix hj))
            · rw [mwi (z := p + 1) (by omega) (by omega)]
              exact ih2 (by omega) h1 (fun b a1 a2 => (F1 b a1).trans (F b a1 a2)) (by rw [F1 84 (by omega)]; exact I.no V i0 hi p0 hp (fun z => cf z.2))
      exact inner 0 W.1 (Int.le_refl _) h' F I
  -- each cut by itself
  have first : ∀ i, i ≤ NP C → 0 ≤ i → ∀ (h' : Nat → Int → Int), (∀ b, ¬ (81 ≤ b ∧ b ≤ 87) → h' b = h b) → L1 h' C w i → ∀ v, MD_layCuts_7 g h' (NP C) i v K := by
    refine up_ind ?_ ?_
    · intro _ h' F L v
      refine MD_layCuts_7_wp hG ⟨fun _ => second h' F L 0 (by omega) (Int.le_refl _) h' (fun _ _ _ => rfl) (WtI.start W (fun j j0 j1 => (L j j0 j1).2.2.1)) _, fun z => absurd z (by omega)⟩
    · intro i hi ih i0 h' F L v
      have ci := ctI_in W i0 hi
      have ih := ih (by omega)
      have s97 : ∀ (h' : Nat → Int → Int), (∀ b, ¬ (81 ≤ b ∧ b ≤ 87) → h' b = h b) → L1 h' C w i → h' 82 i = pick (Cons C (ctI C i)) 1 0 → h' 83 i = pick (held C w i) 1 0 → h' 87 i = lev (ctI C i) → h' 84 i = (if i = 0 then 1 else 0) → h' 85 i = (if i = NP C - 1 then 1 else 0) → MD_layCuts_97 g h' (NP C) i v K := by
        intro h' F L e82 e83 e87 e84 e85
        have fin : ∀ x, x = pick (i = NP C - 1 ∧ ¬ Hold C w (ctI C i)) 1 0 → MD_layCuts_7 g (mvUpd h' 86 i x) (NP C) (i + 1) v K := fun x hx => by
          refine ih _ (fun b nb => by rw [upd_ob (by omega)]; exact F b nb) (fun j j0 j1 => ?_) v
          by_cases e : j = i
          · rw [e, upd_at, upd_ob (by omega), upd_ob (by omega), upd_ob (by omega), upd_ob (by omega), upd_ob (by omega)]
            exact ⟨e82, e83, e84, e85, hx, e87⟩
          · exact L.upd (c := i) j j0 (by omega)
        refine MD_layCuts_97_wp hG ?_
        simp (disch := omega) only [mwi, bd, forall_eq, e83]
        refine ⟨fun z => fin _ (pick_f (fun y => z y.1)).symm, fun z => ?_⟩
        have hk : Cons C (ctI C i) := by rw [z, ct_last V]; exact (full_cut V).2
        refine ⟨fun z2 => fin _ (pick_f (fun y => y.2 (pick_1.mp z2).2)).symm, fun z2 => fin _ (pick_t ⟨z, fun y => pick_0.mp z2 ⟨hk, y⟩⟩).symm⟩
      have s79 : ∀ (h' : Nat → Int → Int), (∀ b, ¬ (81 ≤ b ∧ b ≤ 87) → h' b = h b) → L1 h' C w i → h' 82 i = pick (Cons C (ctI C i)) 1 0 → h' 83 i = pick (held C w i) 1 0 → h' 87 i = lev (ctI C i) → h' 84 i = (if i = 0 then 1 else 0) → MD_layCuts_79 g h' (NP C) i v K := by
        intro h' F L e82 e83 e87 e84
        have fin : ∀ x, x = (if i = NP C - 1 then 1 else 0) → MD_layCuts_97 g (mvUpd h' 85 i x) (NP C) i v K := fun x hx => by
          refine s97 _ (fun b nb => by rw [upd_ob (by omega)]; exact F b nb) L.upd ?_ ?_ ?_ ?_ ?_
          · rw [upd_ob (by omega)]; exact e82
          · rw [upd_ob (by omega)]; exact e83
          · rw [upd_ob (by omega)]; exact e87
          · rw [upd_ob (by omega)]; exact e84
          · rw [upd_at]; exact hx
        refine MD_layCuts_79_wp hG ?_
        simp (disch := omega) only [mwi, bd, forall_eq]
        exact ⟨fun z => fin _ (by rw [if_neg z]), fun z => fin _ (by rw [if_pos z])⟩
      have s54 : ∀ (h' : Nat → Int → Int), (∀ b, ¬ (81 ≤ b ∧ b ≤ 87) → h' b = h b) → L1 h' C w i → At h' C (ctI C i) → h' 82 i = pick (Cons C (ctI C i)) 1 0 → h' 83 i = pick (held C w i) 1 0 → MD_layCuts_54 g h' (NP C) i v K := by
        intro h' F L A e82 e83
        have fin : ∀ x, x = (if i = 0 then 1 else 0) → MD_layCuts_79 g (mvUpd (mvUpd h' 87 i (lev (ctI C i))) 84 i x) (NP C) i v K := fun x hx => by
          refine s79 _ (fun b nb => by rw [upd_ob (by omega), upd_ob (by omega)]; exact F b nb) L.upd.upd ?_ ?_ ?_ ?_
          · rw [upd_ob (by omega), upd_ob (by omega)]; exact e82
          · rw [upd_ob (by omega), upd_ob (by omega)]; exact e83
          · rw [upd_ob (by omega), upd_at]
          · rw [upd_at]; exact hx
        refine MD_layCuts_54_wp hG (MD_levelNow_spec hG (kE h' F).1 W A ci ?_)
        simp (disch := omega) only [bd, forall_eq]
        exact ⟨fun z => fin _ (by rw [if_neg z]), fun z => fin _ (by rw [if_pos z])⟩
      refine MD_layCuts_7_wp hG ⟨fun z => absurd z (by omega), fun _ => MD_take_spec hG (kE h' F).1 W hn i0 hi (fun h1 F1 A1 => ?_)⟩
      have F1' : ∀ b, ¬ (81 ≤ b ∧ b ≤ 87) → h1 b = h b := fun b nb => (F1 b (by omega)).trans (F b nb)
      have Lh1 : L1 h1 C w i := by
        unfold L1
        rw [F1 82 (by omega), F1 83 (by omega), F1 84 (by omega), F1 85 (by omega), F1 86 (by omega), F1 87 (by omega)]
        exact L
      refine MD_isConsistent_spec hG (kE h1 F1') A1 ci (fun hk => ⟨Or.inr rfl, ?_⟩) (fun hk => ⟨Or.inl rfl, ?_⟩)
      · have F4 : ∀ b, ¬ (81 ≤ b ∧ b ≤ 87) → mvUpd h1 82 i 1 b = h b := fun b nb => by rw [upd_ob (by omega)]; exact F1' b nb
        have A4 : At (mvUpd h1 82 i 1) C (ctI C i) := fun p p0 p1 => by rw [upd_ob (by omega)]; exact A1 p p0 p1
        have fin : ∀ x, x = pick (held C w i) 1 0 → MD_layCuts_54 g (mvUpd (mvUpd h1 82 i 1) 83 i x) (NP C) i v K := fun x hx => by
          refine s54 _ (fun b nb => by rw [upd_ob (by omega)]; exact F4 b nb) Lh1.upd.upd (fun p p0 p1 => by rw [upd_ob (by omega)]; exact A4 p p0 p1) ?_ ?_
          · rw [upd_ob (by omega), upd_at, pick_t hk]
          · rw [upd_at]; exact hx
        simp (disch := omega) only [bd, forall_eq, upd_at]
        refine ⟨fun z => absurd z (by decide), fun _ => MD_holds_spec hG (kE _ F4) (kW _ F4) A4 ci hk (fun y => ⟨fun z => absurd z (by decide), fun _ => ?_⟩) (fun y => ⟨fun _ => ?_, fun z => absurd rfl z⟩)⟩
        · exact fin 1 (pick_t ⟨hk, y⟩).symm
        · exact fin 0 (pick_f (fun z => y z.2)).symm
      · simp (disch := omega) only [bd, forall_eq, upd_at]
        refine ⟨fun _ => ?_, fun z => absurd trivial z⟩
        refine s54 _ (fun b nb => by rw [upd_ob (by omega), upd_ob (by omega)]; exact F1' b nb) Lh1.upd.upd (fun p p0 p1 => by rw [upd_ob (by omega), upd_ob (by omega)]; exact A1 p p0 p1) ?_ ?_
        · rw [upd_ob (by omega), upd_at, pick_f hk]
        · rw [upd_at, pick_f (fun z => hk z.1)]
  exact first 0 (by omega) (Int.le_refl _) h (fun _ _ => rfl) (fun j j0 j1 => by omega) _
end MD
