/-! out of the bytecode, by program: what suffices for a method (_wp), for a loop at its head (_place_wp) -/
abbrev LN_matters (g : Nat → Nat → Nat) (h : Nat → Int → Int) (e : Nat) (x2 : Int) (x3 : Int) (K : Int → (Nat → Int → Int) → Prop) : Prop := RI 102 0 [some (mvR e), some (mvR 31), some (mvI x2), some (mvI x3), none] [] g h K
theorem LN_matters_wp {sw : Bool} {g : Nat → Nat → Nat} {h : Nat → Int → Int} {e : Nat} {x2 : Int} {x3 : Int} {K : Int → (Nat → Int → Int) → Prop} (hG : Gok sw g) (he : EvId e) (H :
  (0 ≤ (mw ((mw (x2 * 9)) + x3)) ∧ (mw ((mw (x2 * 9)) + x3)) < 36) ∧
  (((h (e + 2) (mw ((mw (x2 * 9)) + x3))) = 0 →
    (0 ≤ (mw ((mw (x2 * 10)) + x3)) ∧ (mw ((mw (x2 * 10)) + x3)) < 40) ∧
    (0 ≤ x2 ∧ x2 < 4) ∧
    (((mvAnd (mvShr (h 32 x2) (h (e + 6) (mw ((mw (x2 * 10)) + x3)))) 1) = 0 →
      (0 ≤ (mw ((mw (x2 * 10)) + (mw (x3 + 1)))) ∧ (mw ((mw (x2 * 10)) + (mw (x3 + 1)))) < 40) ∧
      (0 ≤ x2 ∧ x2 < 4) ∧
      (((mvAnd (mvShr (h 32 x2) (h (e + 6) (mw ((mw (x2 * 10)) + (mw (x3 + 1)))))) 1) = 0 →
        K 0 h) ∧
      (¬ (mvAnd (mvShr (h 32 x2) (h (e + 6) (mw ((mw (x2 * 10)) + (mw (x3 + 1)))))) 1) = 0 →
        K 1 h))) ∧
    (¬ (mvAnd (mvShr (h 32 x2) (h (e + 6) (mw ((mw (x2 * 10)) + x3)))) 1) = 0 →
      (0 ≤ (mw ((mw (x2 * 10)) + (mw (x3 + 1)))) ∧ (mw ((mw (x2 * 10)) + (mw (x3 + 1)))) < 40) ∧
      (0 ≤ x2 ∧ x2 < 4) ∧
      (((mvAnd (mvShr (h 32 x2) (h (e + 6) (mw ((mw (x2 * 10)) + (mw (x3 + 1)))))) 1) = 0 →
        K 1 h) ∧
      (¬ (mvAnd (mvShr (h 32 x2) (h (e + 6) (mw ((mw (x2 * 10)) + (mw (x3 + 1)))))) 1) = 0 →
        K 0 h))))) ∧
  (¬ (h (e + 2) (mw ((mw (x2 * 9)) + x3))) = 0 →
    K 1 h))) : LN_matters g h e x2 x3 K := by
  refine rc_aload_n mq102 (mvDec_of cd102 rfl) rfl ?_
  refine rc_iload_n mq102 (mvDec_of cd102 rfl) rfl ?_
  refine rc_iload_n mq102 (mvDec_of cd102 rfl) rfl ?_
  refine rc_callV [mvR e, mvI x2, mvI x3] [] [some (mvR e), some (mvI x2), some (mvI x3)] mq102 (mvDec_of cd102 rfl) lk_7_53 mq16 (by decide) rfl rfl (Nat.le_of_ble_eq_true rfl) (Nat.le_of_ble_eq_true rfl) (by decide) rfl (miE0 he) rfl ?_
  refine rc_aload_n mq16 (mvDec_of cd16 rfl) rfl ?_
  refine rc_getR (e + 2) mq16 (mvDec_of cd16 rfl) fl_2_15 (miE0 he) rfl (mgE3 he hG) (Nat.succ_ne_zero _) ?_
  refine rc_iload_n mq16 (mvDec_of cd16 rfl) rfl ?_
  refine rc_bipush mq16 (mvDec_of cd16 rfl) (by decide) ?_
  refine rc_imul mq16 (mvDec_of cd16 rfl) ?_
  refine rc_iload_n mq16 (mvDec_of cd16 rfl) rfl ?_
  refine rc_iadd mq16 (mvDec_of cd16 rfl) ?_
  obtain ⟨⟨hb0, hb1⟩, H⟩ := H
  refine rc_iald mq16 (mvDec_of cd16 rfl) (miE2 he) hb0 hb1 ?_
  refine rc_iret mq16 (mvDec_of cd16 rfl) ?_
  show Rch 102 6 [some (mvR e), some (mvR 31), some (mvI x2), some (mvI x3), none] [mvI (h (e + 2) (mw ((mw (x2 * 9)) + x3)))] (97, g, h) _
  refine rc_if_eq (t := 11) mq102 (mvDec_of cd102 rfl) rfl (fun hc => ?_) (fun hc => ?_)
  · replace H := H.1 hc
    refine rc_aload_n mq102 (mvDec_of cd102 rfl) rfl ?_
    refine rc_iload_n mq102 (mvDec_of cd102 rfl) rfl ?_
    refine rc_aload_n mq102 (mvDec_of cd102 rfl) rfl ?_
    refine rc_iload_n mq102 (mvDec_of cd102 rfl) rfl ?_
    refine rc_iload_n mq102 (mvDec_of cd102 rfl) rfl ?_
    refine rc_callV [mvR e, mvI x2, mvI x3] [mvI x2, mvR 31] [some (mvR e), some (mvI x2), some (mvI x3)] mq102 (mvDec_of cd102 rfl) lk_7_75 mq18 (by decide) rfl rfl (Nat.le_of_ble_eq_true rfl) (Nat.le_of_ble_eq_true rfl) (by decide) rfl (miE0 he) rfl ?_
    refine rc_aload_n mq18 (mvDec_of cd18 rfl) rfl ?_
    refine rc_getR (e + 6) mq18 (mvDec_of cd18 rfl) fl_2_27 (miE0 he) rfl (mgE7 he hG) (Nat.succ_ne_zero _) ?_
    refine rc_iload_n mq18 (mvDec_of cd18 rfl) rfl ?_
    refine rc_bipush mq18 (mvDec_of cd18 rfl) (by decide) ?_
    refine rc_imul mq18 (mvDec_of cd18 rfl) ?_
    refine rc_iload_n mq18 (mvDec_of cd18 rfl) rfl ?_
    refine rc_iadd mq18 (mvDec_of cd18 rfl) ?_
    obtain ⟨⟨hb0, hb1⟩, H⟩ := H
    refine rc_iald mq18 (mvDec_of cd18 rfl) (miE6 he) hb0 hb1 ?_
    refine rc_iret mq18 (mvDec_of cd18 rfl) ?_
    show Rch 102 19 [some (mvR e), some (mvR 31), some (mvI x2), some (mvI x3), none] [mvI (h (e + 6) (mw ((mw (x2 * 10)) + x3))), mvI x2, mvR 31] (97, g, h) _
    refine rc_callV [mvR 31, mvI x2, mvI (h (e + 6) (mw ((mw (x2 * 10)) + x3)))] [] [some (mvR 31), some (mvI x2), some (mvI (h (e + 6) (mw ((mw (x2 * 10)) + x3))))] mq102 (mvDec_of cd102 rfl) lk_7_78 mq28 (by decide) rfl rfl (Nat.le_of_ble_eq_true rfl) (Nat.le_of_ble_eq_true rfl) (by decide) rfl mis31 rfl ?_
    refine rc_aload_n mq28 (mvDec_of cd28 rfl) rfl ?_
    refine rc_getR 32 mq28 (mvDec_of cd28 rfl) fl_4_9 mis31 rfl (gr_31_2 hG) (by decide) ?_
    refine rc_iload_n mq28 (mvDec_of cd28 rfl) rfl ?_
    obtain ⟨⟨hb0, hb1⟩, H⟩ := H
    refine rc_iald mq28 (mvDec_of cd28 rfl) mis32 hb0 hb1 ?_
    refine rc_iload_n mq28 (mvDec_of cd28 rfl) rfl ?_
    refine rc_ishr mq28 (mvDec_of cd28 rfl) ?_
    refine rc_iconst mq28 (mvDec_of cd28 rfl) (by decide) ?_
    refine rc_iand mq28 (mvDec_of cd28 rfl) ?_
    refine rc_if_eq (t := 17) mq28 (mvDec_of cd28 rfl) rfl (fun hc => ?_) (fun hc => ?_)
    · replace H := H.1 hc
      refine rc_iconst mq28 (mvDec_of cd28 rfl) (by decide) ?_
      refine rc_zret mq28 (mvDec_of cd28 rfl) (Or.inl rfl) ?_
      show Rch 102 22 [some (mvR e), some (mvR 31), some (mvI x2), some (mvI x3), none] [mvI 0] (97, g, h) _
      refine rc_istore [some (mvR e), some (mvR 31), some (mvI x2), some (mvI x3), some (mvI 0)] mq102 (mvDec_of cd102 rfl) rfl ?_
      refine rc_iload mq102 (mvDec_of cd102 rfl) rfl ?_
      refine rc_aload_n mq102 (mvDec_of cd102 rfl) rfl ?_
      refine rc_iload_n mq102 (mvDec_of cd102 rfl) rfl ?_
      refine rc_aload_n mq102 (mvDec_of cd102 rfl) rfl ?_
      refine rc_iload_n mq102 (mvDec_of cd102 rfl) rfl ?_
      refine rc_iload_n mq102 (mvDec_of cd102 rfl) rfl ?_
      refine rc_iconst mq102 (mvDec_of cd102 rfl) (by decide) ?_
      refine rc_iadd mq102 (mvDec_of cd102 rfl) ?_
      refine rc_callV [mvR e, mvI x2, mvI (mw (x3 + 1))] [mvI x2, mvR 31, mvI 0] [some (mvR e), some (mvI x2), some (mvI (mw (x3 + 1)))] mq102 (mvDec_of cd102 rfl) lk_7_75 mq18 (by decide) rfl rfl (Nat.le_of_ble_eq_true rfl) (Nat.le_of_ble_eq_true rfl) (by decide) rfl (miE0 he) rfl ?_
      refine rc_aload_n mq18 (mvDec_of cd18 rfl) rfl ?_
      refine rc_getR (e + 6) mq18 (mvDec_of cd18 rfl) fl_2_27 (miE0 he) rfl (mgE7 he hG) (Nat.succ_ne_zero _) ?_
      refine rc_iload_n mq18 (mvDec_of cd18 rfl) rfl ?_
      refine rc_bipush mq18 (mvDec_of cd18 rfl) (by decide) ?_
      refine rc_imul mq18 (mvDec_of cd18 rfl) ?_
      refine rc_iload_n mq18 (mvDec_of cd18 rfl) rfl ?_
      refine rc_iadd mq18 (mvDec_of cd18 rfl) ?_
      obtain ⟨⟨hb0, hb1⟩, H⟩ := H
      refine rc_iald mq18 (mvDec_of cd18 rfl) (miE6 he) hb0 hb1 ?_
      refine rc_iret mq18 (mvDec_of cd18 rfl) ?_
      show Rch 102 36 [some (mvR e), some (mvR 31), some (mvI x2), some (mvI x3), some (mvI 0)] [mvI (h (e + 6) (mw ((mw (x2 * 10)) + (mw (x3 + 1))))), mvI x2, mvR 31, mvI 0] (97, g, h) _
      refine rc_callV [mvR 31, mvI x2, mvI (h (e + 6) (mw ((mw (x2 * 10)) + (mw (x3 + 1)))))] [mvI 0] [some (mvR 31), some (mvI x2), some (mvI (h (e + 6) (mw ((mw (x2 * 10)) + (mw (x3 + 1))))))] mq102 (mvDec_of cd102 rfl) lk_7_78 mq28 (by decide) rfl rfl (Nat.le_of_ble_eq_true rfl) (Nat.le_of_ble_eq_true rfl) (by decide) rfl mis31 rfl ?_
      refine rc_aload_n mq28 (mvDec_of cd28 rfl) rfl ?_
      refine rc_getR 32 mq28 (mvDec_of cd28 rfl) fl_4_9 mis31 rfl (gr_31_2 hG) (by decide) ?_
      refine rc_iload_n mq28 (mvDec_of cd28 rfl) rfl ?_
      obtain ⟨⟨hb0, hb1⟩, H⟩ := H
      refine rc_iald mq28 (mvDec_of cd28 rfl) mis32 hb0 hb1 ?_
      refine rc_iload_n mq28 (mvDec_of cd28 rfl) rfl ?_
      refine rc_ishr mq28 (mvDec_of cd28 rfl) ?_
      refine rc_iconst mq28 (mvDec_of cd28 rfl) (by decide) ?_
      refine rc_iand mq28 (mvDec_of cd28 rfl) ?_
      refine rc_if_eq (t := 17) mq28 (mvDec_of cd28 rfl) rfl (fun hc => ?_) (fun hc => ?_)
      · replace H := H.1 hc
        refine rc_iconst mq28 (mvDec_of cd28 rfl) (by decide) ?_
        refine rc_zret mq28 (mvDec_of cd28 rfl) (Or.inl rfl) ?_
        show Rch 102 39 [some (mvR e), some (mvR 31), some (mvI x2), some (mvI x3), some (mvI 0)] [mvI 0, mvI 0] (97, g, h) _
        refine rc_icmpT (t := 46) mq102 (mvDec_of cd102 rfl) rfl rfl ?_
        refine rc_iconst mq102 (mvDec_of cd102 rfl) (by decide) ?_
        exact rc_zret mq102 (mvDec_of cd102 rfl) (Or.inl rfl) ⟨_, _, rfl, rfl, H⟩
      · replace H := H.2 hc
        refine rc_iconst mq28 (mvDec_of cd28 rfl) (by decide) ?_
        refine rc_goto (t := 18) mq28 (mvDec_of cd28 rfl) rfl ?_
        refine rc_zret mq28 (mvDec_of cd28 rfl) (Or.inr rfl) ?_
        show Rch 102 39 [some (mvR e), some (mvR 31), some (mvI x2), some (mvI x3), some (mvI 0)] [mvI 1, mvI 0] (97, g, h) _
        refine rc_icmpF (t := 46) mq102 (mvDec_of cd102 rfl) rfl rfl ?_
        refine rc_iconst mq102 (mvDec_of cd102 rfl) (by decide) ?_
        refine rc_goto (t := 47) mq102 (mvDec_of cd102 rfl) rfl ?_
        exact rc_zret mq102 (mvDec_of cd102 rfl) (Or.inr rfl) ⟨_, _, rfl, rfl, H⟩
    · replace H := H.2 hc
      refine rc_iconst mq28 (mvDec_of cd28 rfl) (by decide) ?_
      refine rc_goto (t := 18) mq28 (mvDec_of cd28 rfl) rfl ?_
      refine rc_zret mq28 (mvDec_of cd28 rfl) (Or.inr rfl) ?_
      show Rch 102 22 [some (mvR e), some (mvR 31), some (mvI x2), some (mvI x3), none] [mvI 1] (97, g, h) _
      refine rc_istore [some (mvR e), some (mvR 31), some (mvI x2), some (mvI x3), some (mvI 1)] mq102 (mvDec_of cd102 rfl) rfl ?_
      refine rc_iload mq102 (mvDec_of cd102 rfl) rfl ?_
      refine rc_aload_n mq102 (mvDec_of cd102 rfl) rfl ?_
      refine rc_iload_n mq102 (mvDec_of cd102 rfl) rfl ?_
      refine rc_aload_n mq102 (mvDec_of cd102 rfl) rfl ?_
      refine rc_iload_n mq102 (mvDec_of cd102 rfl) rfl ?_
      refine rc_iload_n mq102 (mvDec_of cd102 rfl) rfl ?_
      refine rc_iconst mq102 (mvDec_of cd102 rfl) (by decide) ?_
      refine rc_iadd mq102 (mvDec_of cd102 rfl) ?_
      refine rc_callV [mvR e, mvI x2, mvI (mw (x3 + 1))] [mvI x2, mvR 31, mvI 1] [some (mvR e), some (mvI x2), some (mvI (mw (x3 + 1)))] mq102 (mvDec_of cd102 rfl) lk_7_75 mq18 (by decide) rfl rfl (Nat.le_of_ble_eq_true rfl) (Nat.le_of_ble_eq_true rfl) (by decide) rfl (miE0 he) rfl ?_
      refine rc_aload_n mq18 (mvDec_of cd18 rfl) rfl ?_
      refine rc_getR (e + 6) mq18 (mvDec_of cd18 rfl) fl_2_27 (miE0 he) rfl (mgE7 he hG) (Nat.succ_ne_zero _) ?_
      refine rc_iload_n mq18 (mvDec_of cd18 rfl) rfl ?_
      refine rc_bipush mq18 (mvDec_of cd18 rfl) (by decide) ?_
      refine rc_imul mq18 (mvDec_of cd18 rfl) ?_
      refine rc_iload_n mq18 (mvDec_of cd18 rfl) rfl ?_
      refine rc_iadd mq18 (mvDec_of cd18 rfl) ?_
      obtain ⟨⟨hb0, hb1⟩, H⟩ := H
      refine rc_iald mq18 (mvDec_of cd18 rfl) (miE6 he) hb0 hb1 ?_
      refine rc_iret mq18 (mvDec_of cd18 rfl) ?_
      show Rch 102 36 [some (mvR e), some (mvR 31), some (mvI x2), some (mvI x3), some (mvI 1)] [mvI (h (e + 6) (mw ((mw (x2 * 10)) + (mw (x3 + 1))))), mvI x2, mvR 31, mvI 1] (97, g, h) _
      refine rc_callV [mvR 31, mvI x2, mvI (h (e + 6) (mw ((mw (x2 * 10)) + (mw (x3 + 1)))))] [mvI 1] [some (mvR 31), some (mvI x2), some (mvI (h (e + 6) (mw ((mw (x2 * 10)) + (mw (x3 + 1))))))] mq102 (mvDec_of cd102 rfl) lk_7_78 mq28 (by decide) rfl rfl (Nat.le_of_ble_eq_true rfl) (Nat.le_of_ble_eq_true rfl) (by decide) rfl mis31 rfl ?_
      refine rc_aload_n mq28 (mvDec_of cd28 rfl) rfl ?_
      refine rc_getR 32 mq28 (mvDec_of cd28 rfl) fl_4_9 mis31 rfl (gr_31_2 hG) (by decide) ?_
      refine rc_iload_n mq28 (mvDec_of cd28 rfl) rfl ?_
      obtain ⟨⟨hb0, hb1⟩, H⟩ := H
      refine rc_iald mq28 (mvDec_of cd28 rfl) mis32 hb0 hb1 ?_
      refine rc_iload_n mq28 (mvDec_of cd28 rfl) rfl ?_
      refine rc_ishr mq28 (mvDec_of cd28 rfl) ?_
      refine rc_iconst mq28 (mvDec_of cd28 rfl) (by decide) ?_
      refine rc_iand mq28 (mvDec_of cd28 rfl) ?_
      refine rc_if_eq (t := 17) mq28 (mvDec_of cd28 rfl) rfl (fun hc => ?_) (fun hc => ?_)
      · replace H := H.1 hc
        refine rc_iconst mq28 (mvDec_of cd28 rfl) (by decide) ?_
        refine rc_zret mq28 (mvDec_of cd28 rfl) (Or.inl rfl) ?_
        show Rch 102 39 [some (mvR e), some (mvR 31), some (mvI x2), some (mvI x3), some (mvI 1)] [mvI 0, mvI 1] (97, g, h) _
        refine rc_icmpF (t := 46) mq102 (mvDec_of cd102 rfl) rfl rfl ?_
        refine rc_iconst mq102 (mvDec_of cd102 rfl) (by decide) ?_
        refine rc_goto (t := 47) mq102 (mvDec_of cd102 rfl) rfl ?_
        exact rc_zret mq102 (mvDec_of cd102 rfl) (Or.inr rfl) ⟨_, _, rfl, rfl, H⟩
      · replace H := H.2 hc
        refine rc_iconst mq28 (mvDec_of cd28 rfl) (by decide) ?_
        refine rc_goto (t := 18) mq28 (mvDec_of cd28 rfl) rfl ?_
        refine rc_zret mq28 (mvDec_of cd28 rfl) (Or.inr rfl) ?_
        show Rch 102 39 [some (mvR e), some (mvR 31), some (mvI x2), some (mvI x3), some (mvI 1)] [mvI 1, mvI 1] (97, g, h) _
        refine rc_icmpT (t := 46) mq102 (mvDec_of cd102 rfl) rfl rfl ?_
        refine rc_iconst mq102 (mvDec_of cd102 rfl) (by decide) ?_
        exact rc_zret mq102 (mvDec_of cd102 rfl) (Or.inl rfl) ⟨_, _, rfl, rfl, H⟩
  · replace H := H.2 hc
    refine rc_iconst mq102 (mvDec_of cd102 rfl) (by decide) ?_
    exact rc_zret mq102 (mvDec_of cd102 rfl) (Or.inr rfl) ⟨_, _, rfl, rfl, H⟩
abbrev LN_property (g : Nat → Nat → Nat) (h : Nat → Int → Int) (x1 : Int) (K : Int → (Nat → Int → Int) → Prop) : Prop := RI 103 0 [some (mvR 41), some (mvI x1)] [] g h K
theorem LN_property_wp {sw : Bool} {g : Nat → Nat → Nat} {h : Nat → Int → Int} {x1 : Int} {K : Int → (Nat → Int → Int) → Prop} (hG : Gok sw g)  (H :
  (((x1 < 0 ∨ 2 < x1) →
    SE_property g h 58 3 (fun r2 h1 =>
      K r2 h1)) ∧
  (x1 = 0 →
    K (h 42 1) h) ∧
  (x1 = 1 →
    K (h 51 1) h) ∧
  (x1 = 2 →
    SE_property g h 58 0 (fun r4 h3 =>
      K r4 h3)))) : LN_property g h x1 K := by
  refine rc_iload_n mq103 (mvDec_of cd103 rfl) rfl ?_
  have hsw : (x1 < 0 ∨ 2 < x1) ∨ x1 = 0 ∨ x1 = 1 ∨ x1 = 2 := by omega
  rcases hsw with hsw | hsw | hsw | hsw
  · replace H := H.1 hsw
    refine rc_swD (t := 53) mq103 (mvDec_of cd103 rfl) hsw rfl ?_
    refine rc_aload_n mq103 (mvDec_of cd103 rfl) rfl ?_
    refine rc_getR 58 mq103 (mvDec_of cd103 rfl) fl_7_28 mis41 rfl (gr_41_2 hG) (by decide) ?_
    refine rc_iconst mq103 (mvDec_of cd103 rfl) (by decide) ?_
    refine rc_callV [mvR 58, mvI 3] [] [some (mvR 58), some (mvI 3)] mq103 (mvDec_of cd103 rfl) lk_7_90 mq29 (by decide) rfl rfl (Nat.le_of_ble_eq_true rfl) (Nat.le_of_ble_eq_true rfl) (by decide) rfl mis58 rfl (ri_bind H (fun r2 h1 H => ?_))
    exact rc_iret mq103 (mvDec_of cd103 rfl) ⟨_, _, rfl, rfl, H⟩
  · replace H := H.2.1 hsw
    refine rc_swI (t := 28) mq103 (mvDec_of cd103 rfl) (by omega) (by rw [hsw]; rfl) rfl ?_
    refine rc_aload_n mq103 (mvDec_of cd103 rfl) rfl ?_
    refine rc_getR 42 mq103 (mvDec_of cd103 rfl) fl_7_12 mis41 rfl (gr_41_0 hG) (by decide) ?_
    refine rc_getI 1 mq103 (mvDec_of cd103 rfl) fl_7_84 mis42 rfl (by decide) (by decide) ?_
    exact rc_iret mq103 (mvDec_of cd103 rfl) ⟨_, _, rfl, rfl, H⟩
  · replace H := H.2.2.1 hsw
    refine rc_swI (t := 36) mq103 (mvDec_of cd103 rfl) (by omega) (by rw [hsw]; rfl) rfl ?_
    refine rc_aload_n mq103 (mvDec_of cd103 rfl) rfl ?_
    refine rc_getR 51 mq103 (mvDec_of cd103 rfl) fl_7_21 mis41 rfl (gr_41_1 hG) (by decide) ?_
    refine rc_getI 1 mq103 (mvDec_of cd103 rfl) fl_7_87 mis51 rfl (by decide) (by decide) ?_
    exact rc_iret mq103 (mvDec_of cd103 rfl) ⟨_, _, rfl, rfl, H⟩
  · replace H := H.2.2.2 hsw
    refine rc_swI (t := 44) mq103 (mvDec_of cd103 rfl) (by omega) (by rw [hsw]; rfl) rfl ?_
    refine rc_aload_n mq103 (mvDec_of cd103 rfl) rfl ?_
    refine rc_getR 58 mq103 (mvDec_of cd103 rfl) fl_7_28 mis41 rfl (gr_41_2 hG) (by decide) ?_
    refine rc_iconst mq103 (mvDec_of cd103 rfl) (by decide) ?_
    refine rc_callV [mvR 58, mvI 0] [] [some (mvR 58), some (mvI 0)] mq103 (mvDec_of cd103 rfl) lk_7_90 mq29 (by decide) rfl rfl (Nat.le_of_ble_eq_true rfl) (Nat.le_of_ble_eq_true rfl) (by decide) rfl mis58 rfl (ri_bind H (fun r4 h3 H => ?_))
    exact rc_iret mq103 (mvDec_of cd103 rfl) ⟨_, _, rfl, rfl, H⟩
abbrev LN_build (g : Nat → Nat → Nat) (h : Nat → Int → Int) (e : Nat) (K : (Nat → Int → Int) → Prop) : Prop := RV 220 0 [some (mvR 41), some (mvR e), some (mvR 31), none, none] [] g h K
abbrev LN_build_24 (g : Nat → Nat → Nat) (h : Nat → Int → Int) (e : Nat) (l3 : Int) (u4 : Option Int) (K : (Nat → Int → Int) → Prop) : Prop := RV 220 24 [some (mvR 41), some (mvR e), some (mvR 31), some (mvI l3), u4.map mvI] [] g h K
abbrev LN_build_35 (g : Nat → Nat → Nat) (h : Nat → Int → Int) (e : Nat) (l3 : Int) (l4 : Int) (K : (Nat → Int → Int) → Prop) : Prop := RV 220 35 [some (mvR 41), some (mvR e), some (mvR 31), some (mvI l3), some (mvI l4)] [] g h K
theorem LN_build_wp {sw : Bool} {g : Nat → Nat → Nat} {h : Nat → Int → Int} {e : Nat} {K : (Nat → Int → Int) → Prop} (hG : Gok sw g) (he : EvId e) (H :
  (((h 58 0) = 0 →
    EV_begin g h 42 (h e 0) (fun h1 =>
      LN_build_24 g h1 e 0 none K)) ∧
  (¬ (h 58 0) = 0 →
    K h))) : LN_build g h e K := by
  refine rc_aload_n mq220 (mvDec_of cd220 rfl) rfl ?_
  refine rc_getR 58 mq220 (mvDec_of cd220 rfl) fl_7_28 mis41 rfl (gr_41_2 hG) (by decide) ?_
  refine rc_getI 0 mq220 (mvDec_of cd220 rfl) fl_7_36 mis58 rfl (by decide) (by decide) ?_
  refine rc_if_eq (t := 11) mq220 (mvDec_of cd220 rfl) rfl (fun hc => ?_) (fun hc => ?_)
  · replace H := H.1 hc
    refine rc_aload_n mq220 (mvDec_of cd220 rfl) rfl ?_
    refine rc_getR 42 mq220 (mvDec_of cd220 rfl) fl_7_12 mis41 rfl (gr_41_0 hG) (by decide) ?_
    refine rc_aload_n mq220 (mvDec_of cd220 rfl) rfl ?_
    refine rc_getI 0 mq220 (mvDec_of cd220 rfl) fl_7_37 (miE0 he) rfl (by decide) (by decide) ?_
    refine rc_callV [mvR 42, mvI (h e 0)] [] [some (mvR 42), some (mvI (h e 0))] mq220 (mvDec_of cd220 rfl) lk_7_41 mq77 (by decide) rfl rfl (Nat.le_of_ble_eq_true rfl) (Nat.le_of_ble_eq_true rfl) (by decide) rfl mis42 rfl (rv_bind H (fun h1 H => ?_))
    refine rc_iconst mq220 (mvDec_of cd220 rfl) (by decide) ?_
    refine rc_istore_n [some (mvR 41), some (mvR e), some (mvR 31), some (mvI 0), none] mq220 (mvDec_of cd220 rfl) rfl ?_
    exact H
  · replace H := H.2 hc
    exact rc_vret mq220 (mvDec_of cd220 rfl) ⟨_, rfl, rfl, H⟩
theorem LN_build_24_wp {sw : Bool} {g : Nat → Nat → Nat} {h : Nat → Int → Int} {e : Nat} {l3 : Int} {u4 : Option Int} {K : (Nat → Int → Int) → Prop} (hG : Gok sw g) (he : EvId e) (H :
  (((h e 0) ≤ l3 →
    EV_link g h 42 (fun r2 h1 =>
      LT_build g h1 51 42 (fun h3 =>
        SE_build g h3 58 42 51 (fun h4 =>
          K h4)))) ∧
  (l3 < (h e 0) →
    LN_build_35 g h e l3 0 K))) : LN_build_24 g h e l3 u4 K := by
  refine rc_iload_n mq220 (mvDec_of cd220 rfl) rfl ?_
  refine rc_aload_n mq220 (mvDec_of cd220 rfl) rfl ?_
  refine rc_getI 0 mq220 (mvDec_of cd220 rfl) fl_7_37 (miE0 he) rfl (by decide) (by decide) ?_
  refine rc_icmp_ge (t := 91) mq220 (mvDec_of cd220 rfl) rfl (fun hc => ?_) (fun hc => ?_)
  · replace H := H.1 hc
    refine rc_aload_n mq220 (mvDec_of cd220 rfl) rfl ?_
    refine rc_getR 42 mq220 (mvDec_of cd220 rfl) fl_7_12 mis41 rfl (gr_41_0 hG) (by decide) ?_
    refine rc_callV [mvR 42] [] [some (mvR 42), none] mq220 (mvDec_of cd220 rfl) lk_7_64 mq207 (by decide) rfl rfl (Nat.le_of_ble_eq_true rfl) (Nat.le_of_ble_eq_true rfl) (by decide) rfl mis42 rfl (ri_bind H (fun r2 h1 H => ?_))
    refine rc_pop mq220 (mvDec_of cd220 rfl) rfl ?_
    refine rc_aload_n mq220 (mvDec_of cd220 rfl) rfl ?_
    refine rc_getR 51 mq220 (mvDec_of cd220 rfl) fl_7_21 mis41 rfl (gr_41_1 hG) (by decide) ?_
    refine rc_aload_n mq220 (mvDec_of cd220 rfl) rfl ?_
    refine rc_getR 42 mq220 (mvDec_of cd220 rfl) fl_7_12 mis41 rfl (gr_41_0 hG) (by decide) ?_
    refine rc_callV [mvR 51, mvR 42] [] [some (mvR 51), some (mvR 42)] mq220 (mvDec_of cd220 rfl) lk_7_68 mq183 (by decide) rfl rfl (Nat.le_of_ble_eq_true rfl) (Nat.le_of_ble_eq_true rfl) (by decide) rfl mis51 rfl (rv_bind H (fun h3 H => ?_))
    refine rc_aload_n mq220 (mvDec_of cd220 rfl) rfl ?_
    refine rc_getR 58 mq220 (mvDec_of cd220 rfl) fl_7_28 mis41 rfl (gr_41_2 hG) (by decide) ?_
    refine rc_aload_n mq220 (mvDec_of cd220 rfl) rfl ?_
    refine rc_getR 42 mq220 (mvDec_of cd220 rfl) fl_7_12 mis41 rfl (gr_41_0 hG) (by decide) ?_
    refine rc_aload_n mq220 (mvDec_of cd220 rfl) rfl ?_
    refine rc_getR 51 mq220 (mvDec_of cd220 rfl) fl_7_21 mis41 rfl (gr_41_1 hG) (by decide) ?_
    refine rc_aload_n mq220 (mvDec_of cd220 rfl) rfl ?_
    refine rc_callV [mvR 58, mvR 42, mvR 51, mvR 31] [] [some (mvR 58), some (mvR 42), some (mvR 51), some (mvR 31), none, none, none, none] mq220 (mvDec_of cd220 rfl) lk_7_72 mq208 (by decide) rfl rfl (Nat.le_of_ble_eq_true rfl) (Nat.le_of_ble_eq_true rfl) (by decide) rfl mis58 rfl (rv_bind H (fun h4 H => ?_))
    exact rc_vret mq220 (mvDec_of cd220 rfl) ⟨_, rfl, rfl, H⟩
  · replace H := H.2 hc
    refine rc_iconst mq220 (mvDec_of cd220 rfl) (by decide) ?_
    refine rc_istore [some (mvR 41), some (mvR e), some (mvR 31), some (mvI l3), some (mvI 0)] mq220 (mvDec_of cd220 rfl) rfl ?_
    exact H
theorem LN_build_35_wp {sw : Bool} {g : Nat → Nat → Nat} {h : Nat → Int → Int} {e : Nat} {l3 : Int} {l4 : Int} {K : (Nat → Int → Int) → Prop} (hG : Gok sw g) (he : EvId e) (H :
  (0 ≤ l3 ∧ l3 < 4) ∧
  (((h (e + 1) l3) ≤ l4 →
    LN_build_24 g h e (mw (l3 + 1)) (some l4) K) ∧
  (l4 < (h (e + 1) l3) →
    LN_matters g h e l3 l4 (fun r2 h1 =>
      ((r2 = 0 →
        LN_build_35 g h1 e l3 (mw (l4 + 1)) K) ∧
      (¬ r2 = 0 →
        (0 ≤ (mw ((mw (l3 * 9)) + l4)) ∧ (mw ((mw (l3 * 9)) + l4)) < 36) ∧
        (0 ≤ (mw ((mw (l3 * 9)) + l4)) ∧ (mw ((mw (l3 * 9)) + l4)) < 36) ∧
        (0 ≤ l3 ∧ l3 < 4) ∧
        (∀ v3, v3 = (mw ((mw (l3 * 9)) + (h1 43 l3))) →
        (0 ≤ v3 ∧ v3 < 36) ∧
        (∀ h4, h4 = mvUpd h1 44 v3 (h1 (e + 2) (mw ((mw (l3 * 9)) + l4))) →
        (0 ≤ v3 ∧ v3 < 36) ∧
        (∀ h5, h5 = mvUpd h4 45 v3 (h1 (e + 3) (mw ((mw (l3 * 9)) + l4))) →
        (0 ≤ l3 ∧ l3 < 4) ∧
        (0 ≤ l3 ∧ l3 < 4) ∧
        (∀ h6, h6 = mvUpd h5 43 l3 (mw ((h5 43 l3) + 1)) →
        (∀ h7, h7 = mvUpd h6 42 1 (mw ((h6 42 1) + 1)) →
        LN_build_35 g h7 e l3 (mw (l4 + 1)) K))))))))))) : LN_build_35 g h e l3 l4 K := by
  refine rc_iload mq220 (mvDec_of cd220 rfl) rfl ?_
  refine rc_aload_n mq220 (mvDec_of cd220 rfl) rfl ?_
  refine rc_getR (e + 1) mq220 (mvDec_of cd220 rfl) fl_7_45 (miE0 he) rfl (mgE2 he hG) (Nat.succ_ne_zero _) ?_
  refine rc_iload_n mq220 (mvDec_of cd220 rfl) rfl ?_
  obtain ⟨⟨hb0, hb1⟩, H⟩ := H
  refine rc_iald mq220 (mvDec_of cd220 rfl) (miE1 he) hb0 hb1 ?_
  refine rc_icmp_ge (t := 85) mq220 (mvDec_of cd220 rfl) rfl (fun hc => ?_) (fun hc => ?_)
  · replace H := H.1 hc
    refine rc_iinc [some (mvR 41), some (mvR e), some (mvR 31), some (mvI (mw (l3 + 1))), some (mvI l4)] mq220 (mvDec_of cd220 rfl) rfl rfl ?_
    refine rc_goto (t := 24) mq220 (mvDec_of cd220 rfl) rfl ?_
    exact H
  · replace H := H.2 hc
    refine rc_aload_n mq220 (mvDec_of cd220 rfl) rfl ?_
    refine rc_aload_n mq220 (mvDec_of cd220 rfl) rfl ?_
    refine rc_iload_n mq220 (mvDec_of cd220 rfl) rfl ?_
    refine rc_iload mq220 (mvDec_of cd220 rfl) rfl ?_
    refine rc_callS [mvR e, mvR 31, mvI l3, mvI l4] [] [some (mvR e), some (mvR 31), some (mvI l3), some (mvI l4), none] mq220 (mvDec_of cd220 rfl) lk_7_49 mq102 (by decide) rfl rfl (Nat.le_of_ble_eq_true rfl) (Nat.le_of_ble_eq_true rfl) (by decide) rfl (ri_bind H (fun r2 h1 H => ?_))
    refine rc_if_eq (t := 79) mq220 (mvDec_of cd220 rfl) rfl (fun hc => ?_) (fun hc => ?_)
    · replace H := H.1 hc
      refine rc_iinc [some (mvR 41), some (mvR e), some (mvR 31), some (mvI l3), some (mvI (mw (l4 + 1)))] mq220 (mvDec_of cd220 rfl) rfl rfl ?_
      refine rc_goto (t := 35) mq220 (mvDec_of cd220 rfl) rfl ?_
      exact H
    · replace H := H.2 hc
      refine rc_aload_n mq220 (mvDec_of cd220 rfl) rfl ?_
      refine rc_getR 42 mq220 (mvDec_of cd220 rfl) fl_7_12 mis41 rfl (gr_41_0 hG) (by decide) ?_
      refine rc_iload_n mq220 (mvDec_of cd220 rfl) rfl ?_
      refine rc_aload_n mq220 (mvDec_of cd220 rfl) rfl ?_
      refine rc_iload_n mq220 (mvDec_of cd220 rfl) rfl ?_
      refine rc_iload mq220 (mvDec_of cd220 rfl) rfl ?_
      refine rc_callV [mvR e, mvI l3, mvI l4] [mvI l3, mvR 42] [some (mvR e), some (mvI l3), some (mvI l4)] mq220 (mvDec_of cd220 rfl) lk_7_53 mq16 (by decide) rfl rfl (Nat.le_of_ble_eq_true rfl) (Nat.le_of_ble_eq_true rfl) (by decide) rfl (miE0 he) rfl ?_
      refine rc_aload_n mq16 (mvDec_of cd16 rfl) rfl ?_
      refine rc_getR (e + 2) mq16 (mvDec_of cd16 rfl) fl_2_15 (miE0 he) rfl (mgE3 he hG) (Nat.succ_ne_zero _) ?_
      refine rc_iload_n mq16 (mvDec_of cd16 rfl) rfl ?_
      refine rc_bipush mq16 (mvDec_of cd16 rfl) (by decide) ?_
      refine rc_imul mq16 (mvDec_of cd16 rfl) ?_
      refine rc_iload_n mq16 (mvDec_of cd16 rfl) rfl ?_
      refine rc_iadd mq16 (mvDec_of cd16 rfl) ?_
      obtain ⟨⟨hb0, hb1⟩, H⟩ := H
      refine rc_iald mq16 (mvDec_of cd16 rfl) (miE2 he) hb0 hb1 ?_
      refine rc_iret mq16 (mvDec_of cd16 rfl) ?_
      show Rch 220 69 [some (mvR 41), some (mvR e), some (mvR 31), some (mvI l3), some (mvI l4)] [mvI (h1 (e + 2) (mw ((mw (l3 * 9)) + l4))), mvI l3, mvR 42] (97, g, h1) _
      refine rc_aload_n mq220 (mvDec_of cd220 rfl) rfl ?_
      refine rc_iload_n mq220 (mvDec_of cd220 rfl) rfl ?_
      refine rc_iload mq220 (mvDec_of cd220 rfl) rfl ?_
      refine rc_callV [mvR e, mvI l3, mvI l4] [mvI (h1 (e + 2) (mw ((mw (l3 * 9)) + l4))), mvI l3, mvR 42] [some (mvR e), some (mvI l3), some (mvI l4)] mq220 (mvDec_of cd220 rfl) lk_7_57 mq17 (by decide) rfl rfl (Nat.le_of_ble_eq_true rfl) (Nat.le_of_ble_eq_true rfl) (by decide) rfl (miE0 he) rfl ?_
      refine rc_aload_n mq17 (mvDec_of cd17 rfl) rfl ?_
      refine rc_getR (e + 3) mq17 (mvDec_of cd17 rfl) fl_2_18 (miE0 he) rfl (mgE4 he hG) (Nat.succ_ne_zero _) ?_
      refine rc_iload_n mq17 (mvDec_of cd17 rfl) rfl ?_
      refine rc_bipush mq17 (mvDec_of cd17 rfl) (by decide) ?_
      refine rc_imul mq17 (mvDec_of cd17 rfl) ?_
      refine rc_iload_n mq17 (mvDec_of cd17 rfl) rfl ?_
      refine rc_iadd mq17 (mvDec_of cd17 rfl) ?_
      obtain ⟨⟨hb0, hb1⟩, H⟩ := H
      refine rc_iald mq17 (mvDec_of cd17 rfl) (miE3 he) hb0 hb1 ?_
      refine rc_iret mq17 (mvDec_of cd17 rfl) ?_
      show Rch 220 76 [some (mvR 41), some (mvR e), some (mvR 31), some (mvI l3), some (mvI l4)] [mvI (h1 (e + 3) (mw ((mw (l3 * 9)) + l4))), mvI (h1 (e + 2) (mw ((mw (l3 * 9)) + l4))), mvI l3, mvR 42] (97, g, h1) _
      refine rc_callV [mvR 42, mvI l3, mvI (h1 (e + 2) (mw ((mw (l3 * 9)) + l4))), mvI (h1 (e + 3) (mw ((mw (l3 * 9)) + l4)))] [] [some (mvR 42), some (mvI l3), some (mvI (h1 (e + 2) (mw ((mw (l3 * 9)) + l4)))), some (mvI (h1 (e + 3) (mw ((mw (l3 * 9)) + l4)))), none] mq220 (mvDec_of cd220 rfl) lk_7_60 mq10 (by decide) rfl rfl (Nat.le_of_ble_eq_true rfl) (Nat.le_of_ble_eq_true rfl) (by decide) rfl mis42 rfl ?_
      refine rc_iload_n mq10 (mvDec_of cd10 rfl) rfl ?_
      refine rc_bipush mq10 (mvDec_of cd10 rfl) (by decide) ?_
      refine rc_imul mq10 (mvDec_of cd10 rfl) ?_
      refine rc_aload_n mq10 (mvDec_of cd10 rfl) rfl ?_
      refine rc_getR 43 mq10 (mvDec_of cd10 rfl) fl_2_9 mis42 rfl (gr_42_2 hG) (by decide) ?_
      refine rc_iload_n mq10 (mvDec_of cd10 rfl) rfl ?_
      obtain ⟨⟨hb0, hb1⟩, H⟩ := H
      refine rc_iald mq10 (mvDec_of cd10 rfl) mis43 hb0 hb1 ?_
      refine rc_iadd mq10 (mvDec_of cd10 rfl) ?_
      refine rc_top (fun v3 hv => ?_)
      replace H := H v3 hv
      refine rc_istore [some (mvR 42), some (mvI l3), some (mvI (h1 (e + 2) (mw ((mw (l3 * 9)) + l4)))), some (mvI (h1 (e + 3) (mw ((mw (l3 * 9)) + l4)))), some (mvI v3)] mq10 (mvDec_of cd10 rfl) rfl ?_
      refine rc_aload_n mq10 (mvDec_of cd10 rfl) rfl ?_
      refine rc_getR 44 mq10 (mvDec_of cd10 rfl) fl_2_15 mis42 rfl (gr_42_3 hG) (by decide) ?_
      refine rc_iload mq10 (mvDec_of cd10 rfl) rfl ?_
      refine rc_iload_n mq10 (mvDec_of cd10 rfl) rfl ?_
      obtain ⟨⟨hb0, hb1⟩, H⟩ := H
      refine rc_iast mq10 (mvDec_of cd10 rfl) mis44 hb0 hb1 ?_
      refine rc_heap (fun h4 hh => ?_)
      replace H := H h4 hh
      refine rc_aload_n mq10 (mvDec_of cd10 rfl) rfl ?_
      refine rc_getR 45 mq10 (mvDec_of cd10 rfl) fl_2_18 mis42 rfl (gr_42_4 hG) (by decide) ?_
      refine rc_iload mq10 (mvDec_of cd10 rfl) rfl ?_
      refine rc_iload_n mq10 (mvDec_of cd10 rfl) rfl ?_
      obtain ⟨⟨hb0, hb1⟩, H⟩ := H
      refine rc_iast mq10 (mvDec_of cd10 rfl) mis45 hb0 hb1 ?_
      refine rc_heap (fun h5 hh => ?_)
      replace H := H h5 hh
      refine rc_aload_n mq10 (mvDec_of cd10 rfl) rfl ?_
      refine rc_getR 43 mq10 (mvDec_of cd10 rfl) fl_2_9 mis42 rfl (gr_42_2 hG) (by decide) ?_
      refine rc_iload_n mq10 (mvDec_of cd10 rfl) rfl ?_
      refine rc_dup2 mq10 (mvDec_of cd10 rfl) rfl rfl ?_
      obtain ⟨⟨hb0, hb1⟩, H⟩ := H
      refine rc_iald mq10 (mvDec_of cd10 rfl) mis43 hb0 hb1 ?_
      refine rc_iconst mq10 (mvDec_of cd10 rfl) (by decide) ?_
      refine rc_iadd mq10 (mvDec_of cd10 rfl) ?_
      obtain ⟨⟨hb0, hb1⟩, H⟩ := H
      refine rc_iast mq10 (mvDec_of cd10 rfl) mis43 hb0 hb1 ?_
      refine rc_heap (fun h6 hh => ?_)
      replace H := H h6 hh
      refine rc_aload_n mq10 (mvDec_of cd10 rfl) rfl ?_
      refine rc_dup mq10 (mvDec_of cd10 rfl) rfl ?_
      refine rc_getI 1 mq10 (mvDec_of cd10 rfl) fl_2_40 mis42 rfl (by decide) (by decide) ?_
      refine rc_iconst mq10 (mvDec_of cd10 rfl) (by decide) ?_
      refine rc_iadd mq10 (mvDec_of cd10 rfl) ?_
      refine rc_putI 1 mq10 (mvDec_of cd10 rfl) fl_2_40 mis42 rfl (fun z => absurd z (by decide)) (Or.inl rfl) ?_
      refine rc_heap (fun h7 hh => ?_)
      replace H := H h7 hh
      refine rc_vret mq10 (mvDec_of cd10 rfl) ?_
      show Rch 220 79 [some (mvR 41), some (mvR e), some (mvR 31), some (mvI l3), some (mvI l4)] [] (97, g, h7) _
      refine rc_iinc [some (mvR 41), some (mvR e), some (mvR 31), some (mvI l3), some (mvI (mw (l4 + 1)))] mq220 (mvDec_of cd220 rfl) rfl rfl ?_
      refine rc_goto (t := 35) mq220 (mvDec_of cd220 rfl) rfl ?_
      exact H
