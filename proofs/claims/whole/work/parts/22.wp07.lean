/-! out of the bytecode, by program: what suffices for a method (_wp), for a loop at its head (_place_wp) -/
abbrev IV_chooseNext (g : Nat → Nat → Nat) (h : Nat → Int → Int) (x1 : Int) (K : (Nat → Int → Int) → Prop) : Prop := RV 34 0 [some (mvR 36), some (mvI x1), none] [] g h K
abbrev IV_chooseNext_2 (g : Nat → Nat → Nat) (h : Nat → Int → Int) (l1 : Int) (l2 : Int) (K : (Nat → Int → Int) → Prop) : Prop := RV 34 2 [some (mvR 36), some (mvI l1), some (mvI l2)] [] g h K
theorem IV_chooseNext_wp {sw : Bool} {g : Nat → Nat → Nat} {h : Nat → Int → Int} {x1 : Int} {K : (Nat → Int → Int) → Prop} (hG : Gok sw g)  (H :
  IV_chooseNext_2 g h x1 0 K) : IV_chooseNext g h x1 K := by
  refine rc_iconst mq34 (mvDec_of cd34 rfl) (by decide) ?_
  refine rc_istore_n [some (mvR 36), some (mvI x1), some (mvI 0)] mq34 (mvDec_of cd34 rfl) rfl ?_
  exact H
theorem IV_chooseNext_2_wp {sw : Bool} {g : Nat → Nat → Nat} {h : Nat → Int → Int} {l1 : Int} {l2 : Int} {K : (Nat → Int → Int) → Prop} (hG : Gok sw g)  (H :
  ((l1 ≤ l2 →
    K h) ∧
  (l2 < l1 →
    (0 ≤ l2 ∧ l2 < 4) ∧
    (0 ≤ l2 ∧ l2 < 4) ∧
    (∀ h1, h1 = mvUpd h 40 l2 (mw ((h 40 l2) + 1)) →
    (0 ≤ l2 ∧ l2 < 4) ∧
    (0 ≤ l2 ∧ l2 < 4) ∧
    (((h1 37 l2) ≤ (h1 40 l2) →
      (0 ≤ l2 ∧ l2 < 4) ∧
      (∀ h2, h2 = mvUpd h1 40 l2 0 →
      IV_chooseNext_2 g h2 l1 (mw (l2 + 1)) K)) ∧
    ((h1 40 l2) < (h1 37 l2) →
      K h1)))))) : IV_chooseNext_2 g h l1 l2 K := by
  refine rc_iload_n mq34 (mvDec_of cd34 rfl) rfl ?_
  refine rc_iload_n mq34 (mvDec_of cd34 rfl) rfl ?_
  refine rc_icmp_ge (t := 46) mq34 (mvDec_of cd34 rfl) rfl (fun hc => ?_) (fun hc => ?_)
  · replace H := H.1 hc
    exact rc_vret mq34 (mvDec_of cd34 rfl) ⟨_, rfl, rfl, H⟩
  · replace H := H.2 hc
    refine rc_aload_n mq34 (mvDec_of cd34 rfl) rfl ?_
    refine rc_getR 40 mq34 (mvDec_of cd34 rfl) fl_6_21 mis36 rfl (gr_36_3 hG) (by decide) ?_
    refine rc_iload_n mq34 (mvDec_of cd34 rfl) rfl ?_
    refine rc_dup2 mq34 (mvDec_of cd34 rfl) rfl rfl ?_
    obtain ⟨⟨hb0, hb1⟩, H⟩ := H
    refine rc_iald mq34 (mvDec_of cd34 rfl) mis40 hb0 hb1 ?_
    refine rc_iconst mq34 (mvDec_of cd34 rfl) (by decide) ?_
    refine rc_iadd mq34 (mvDec_of cd34 rfl) ?_
    obtain ⟨⟨hb0, hb1⟩, H⟩ := H
    refine rc_iast mq34 (mvDec_of cd34 rfl) mis40 hb0 hb1 ?_
    refine rc_heap (fun h1 hh => ?_)
    replace H := H h1 hh
    refine rc_aload_n mq34 (mvDec_of cd34 rfl) rfl ?_
    refine rc_getR 40 mq34 (mvDec_of cd34 rfl) fl_6_21 mis36 rfl (gr_36_3 hG) (by decide) ?_
    refine rc_iload_n mq34 (mvDec_of cd34 rfl) rfl ?_
    obtain ⟨⟨hb0, hb1⟩, H⟩ := H
    refine rc_iald mq34 (mvDec_of cd34 rfl) mis40 hb0 hb1 ?_
    refine rc_aload_n mq34 (mvDec_of cd34 rfl) rfl ?_
    refine rc_getR 37 mq34 (mvDec_of cd34 rfl) fl_6_9 mis36 rfl (gr_36_0 hG) (by decide) ?_
    refine rc_iload_n mq34 (mvDec_of cd34 rfl) rfl ?_
    obtain ⟨⟨hb0, hb1⟩, H⟩ := H
    refine rc_iald mq34 (mvDec_of cd34 rfl) mis37 hb0 hb1 ?_
    refine rc_icmp_ge (t := 33) mq34 (mvDec_of cd34 rfl) rfl (fun hc => ?_) (fun hc => ?_)
    · replace H := H.1 hc
      refine rc_aload_n mq34 (mvDec_of cd34 rfl) rfl ?_
      refine rc_getR 40 mq34 (mvDec_of cd34 rfl) fl_6_21 mis36 rfl (gr_36_3 hG) (by decide) ?_
      refine rc_iload_n mq34 (mvDec_of cd34 rfl) rfl ?_
      refine rc_iconst mq34 (mvDec_of cd34 rfl) (by decide) ?_
      obtain ⟨⟨hb0, hb1⟩, H⟩ := H
      refine rc_iast mq34 (mvDec_of cd34 rfl) mis40 hb0 hb1 ?_
      refine rc_heap (fun h2 hh => ?_)
      replace H := H h2 hh
      refine rc_iinc [some (mvR 36), some (mvI l1), some (mvI (mw (l2 + 1)))] mq34 (mvDec_of cd34 rfl) rfl rfl ?_
      refine rc_goto (t := 2) mq34 (mvDec_of cd34 rfl) rfl ?_
      exact H
    · replace H := H.2 hc
      exact rc_vret mq34 (mvDec_of cd34 rfl) ⟨_, rfl, rfl, H⟩
abbrev IV_find (g : Nat → Nat → Nat) (h : Nat → Int → Int) (e : Nat) (K : (Nat → Int → Int) → Prop) : Prop := RV 100 0 [some (mvR 36), some (mvR e), some (mvR 31), none, none, none, none] [] g h K
abbrev IV_find_10 (g : Nat → Nat → Nat) (h : Nat → Int → Int) (e : Nat) (l3 : Int) (u4 : Option Int) (u5 : Option Int) (u6 : Option Int) (K : (Nat → Int → Int) → Prop) : Prop := RV 100 10 [some (mvR 36), some (mvR e), some (mvR 31), some (mvI l3), u4.map mvI, u5.map mvI, u6.map mvI] [] g h K
abbrev IV_find_24 (g : Nat → Nat → Nat) (h : Nat → Int → Int) (e : Nat) (l3 : Int) (l4 : Int) (l5 : Int) (u6 : Option Int) (K : (Nat → Int → Int) → Prop) : Prop := RV 100 24 [some (mvR 36), some (mvR e), some (mvR 31), some (mvI l3), some (mvI l4), some (mvI l5), u6.map mvI] [] g h K
theorem IV_find_wp {sw : Bool} {g : Nat → Nat → Nat} {h : Nat → Int → Int} {e : Nat} {K : (Nat → Int → Int) → Prop} (hG : Gok sw g) (he : EvId e) (H :
  AR_fill g h 37 0 (fun h1 =>
    IV_find_10 g h1 e 0 none none none K)) : IV_find g h e K := by
  refine rc_aload_n mq100 (mvDec_of cd100 rfl) rfl ?_
  refine rc_getR 37 mq100 (mvDec_of cd100 rfl) fl_6_9 mis36 rfl (gr_36_0 hG) (by decide) ?_
  refine rc_iconst mq100 (mvDec_of cd100 rfl) (by decide) ?_
  refine rc_callS [mvR 37, mvI 0] [] [some (mvR 37), some (mvI 0), none, none] mq100 (mvDec_of cd100 rfl) lk_6_24 mq65 (by decide) rfl rfl (Nat.le_of_ble_eq_true rfl) (Nat.le_of_ble_eq_true rfl) (by decide) rfl (rv_bind H (fun h1 H => ?_))
  refine rc_iconst mq100 (mvDec_of cd100 rfl) (by decide) ?_
  refine rc_istore_n [some (mvR 36), some (mvR e), some (mvR 31), some (mvI 0), none, none, none] mq100 (mvDec_of cd100 rfl) rfl ?_
  exact H
theorem IV_find_10_wp {sw : Bool} {g : Nat → Nat → Nat} {h : Nat → Int → Int} {e : Nat} {l3 : Int} {u4 : Option Int} {u5 : Option Int} {u6 : Option Int} {K : (Nat → Int → Int) → Prop} (hG : Gok sw g) (he : EvId e) (H :
  (((h e 0) ≤ l3 →
    K h) ∧
  (l3 < (h e 0) →
    IV_find_24 g h e l3 0 0 u6 K))) : IV_find_10 g h e l3 u4 u5 u6 K := by
  refine rc_iload_n mq100 (mvDec_of cd100 rfl) rfl ?_
  refine rc_aload_n mq100 (mvDec_of cd100 rfl) rfl ?_
  refine rc_getI 0 mq100 (mvDec_of cd100 rfl) fl_6_30 (miE0 he) rfl (by decide) (by decide) ?_
  refine rc_icmp_ge (t := 106) mq100 (mvDec_of cd100 rfl) rfl (fun hc => ?_) (fun hc => ?_)
  · replace H := H.1 hc
    exact rc_vret mq100 (mvDec_of cd100 rfl) ⟨_, rfl, rfl, H⟩
  · replace H := H.2 hc
    refine rc_iconst mq100 (mvDec_of cd100 rfl) (by decide) ?_
    refine rc_istore [some (mvR 36), some (mvR e), some (mvR 31), some (mvI l3), some (mvI 0), u5.map mvI, u6.map mvI] mq100 (mvDec_of cd100 rfl) rfl ?_
    refine rc_iconst mq100 (mvDec_of cd100 rfl) (by decide) ?_
    refine rc_istore [some (mvR 36), some (mvR e), some (mvR 31), some (mvI l3), some (mvI 0), some (mvI 0), u6.map mvI] mq100 (mvDec_of cd100 rfl) rfl ?_
    exact H
theorem IV_find_24_wp {sw : Bool} {g : Nat → Nat → Nat} {h : Nat → Int → Int} {e : Nat} {l3 : Int} {l4 : Int} {l5 : Int} {u6 : Option Int} {K : (Nat → Int → Int) → Prop} (hG : Gok sw g) (he : EvId e) (H :
  (0 ≤ l3 ∧ l3 < 4) ∧
  (((h (e + 1) l3) < l5 →
    IV_find_10 g h e (mw (l3 + 1)) (some l4) (some l5) u6 K) ∧
  (l5 ≤ (h (e + 1) l3) →
    (0 ≤ (mw ((mw (l3 * 10)) + l5)) ∧ (mw ((mw (l3 * 10)) + l5)) < 40) ∧
    (0 ≤ l3 ∧ l3 < 4) ∧
    (((mvAnd (mvShr (h 32 l3) (h (e + 6) (mw ((mw (l3 * 10)) + l5)))) 1) = 0 →
      IV_find_24 g h e l3 0 (mw (l5 + 1)) (some 0) K) ∧
    (¬ (mvAnd (mvShr (h 32 l3) (h (e + 6) (mw ((mw (l3 * 10)) + l5)))) 1) = 0 →
      ((¬ l4 = 0 →
        (0 ≤ l3 ∧ l3 < 4) ∧
        (0 ≤ (mw ((mw ((mw (l3 * 5)) + (h 37 l3))) - 1)) ∧ (mw ((mw ((mw (l3 * 5)) + (h 37 l3))) - 1)) < 20) ∧
        (∀ h1, h1 = mvUpd h 39 (mw ((mw ((mw (l3 * 5)) + (h 37 l3))) - 1)) l5 →
        IV_find_24 g h1 e l3 1 (mw (l5 + 1)) (some 1) K)) ∧
      (l4 = 0 →
        (0 ≤ l3 ∧ l3 < 4) ∧
        (0 ≤ (mw ((mw (l3 * 5)) + (h 37 l3))) ∧ (mw ((mw (l3 * 5)) + (h 37 l3))) < 20) ∧
        (∀ h2, h2 = mvUpd h 38 (mw ((mw (l3 * 5)) + (h 37 l3))) l5 →
        (0 ≤ l3 ∧ l3 < 4) ∧
        (0 ≤ l3 ∧ l3 < 4) ∧
        (∀ h3, h3 = mvUpd h2 37 l3 (mw ((h2 37 l3) + 1)) →
        (0 ≤ l3 ∧ l3 < 4) ∧
        (0 ≤ (mw ((mw ((mw (l3 * 5)) + (h3 37 l3))) - 1)) ∧ (mw ((mw ((mw (l3 * 5)) + (h3 37 l3))) - 1)) < 20) ∧
        (∀ h4, h4 = mvUpd h3 39 (mw ((mw ((mw (l3 * 5)) + (h3 37 l3))) - 1)) l5 →
        IV_find_24 g h4 e l3 1 (mw (l5 + 1)) (some 1) K)))))))))) : IV_find_24 g h e l3 l4 l5 u6 K := by
  refine rc_iload mq100 (mvDec_of cd100 rfl) rfl ?_
  refine rc_aload_n mq100 (mvDec_of cd100 rfl) rfl ?_
  refine rc_getR (e + 1) mq100 (mvDec_of cd100 rfl) fl_6_36 (miE0 he) rfl (mgE2 he hG) (Nat.succ_ne_zero _) ?_
  refine rc_iload_n mq100 (mvDec_of cd100 rfl) rfl ?_
  obtain ⟨⟨hb0, hb1⟩, H⟩ := H
  refine rc_iald mq100 (mvDec_of cd100 rfl) (miE1 he) hb0 hb1 ?_
  refine rc_icmp_gt (t := 100) mq100 (mvDec_of cd100 rfl) rfl (fun hc => ?_) (fun hc => ?_)
  · replace H := H.1 hc
    refine rc_iinc [some (mvR 36), some (mvR e), some (mvR 31), some (mvI (mw (l3 + 1))), some (mvI l4), some (mvI l5), u6.map mvI] mq100 (mvDec_of cd100 rfl) rfl rfl ?_
    refine rc_goto (t := 10) mq100 (mvDec_of cd100 rfl) rfl ?_
    exact H
  · replace H := H.2 hc
    refine rc_aload_n mq100 (mvDec_of cd100 rfl) rfl ?_
    refine rc_iload_n mq100 (mvDec_of cd100 rfl) rfl ?_
    refine rc_aload_n mq100 (mvDec_of cd100 rfl) rfl ?_
    refine rc_iload_n mq100 (mvDec_of cd100 rfl) rfl ?_
    refine rc_iload mq100 (mvDec_of cd100 rfl) rfl ?_
    refine rc_callV [mvR e, mvI l3, mvI l5] [mvI l3, mvR 31] [some (mvR e), some (mvI l3), some (mvI l5)] mq100 (mvDec_of cd100 rfl) lk_6_39 mq18 (by decide) rfl rfl (Nat.le_of_ble_eq_true rfl) (Nat.le_of_ble_eq_true rfl) (by decide) rfl (miE0 he) rfl ?_
    refine rc_aload_n mq18 (mvDec_of cd18 rfl) rfl ?_
    refine rc_getR (e + 6) mq18 (mvDec_of cd18 rfl) fl_2_27 (miE0 he) rfl (mgE7 he hG) (Nat.succ_ne_zero _) ?_
    refine rc_iload_n mq18 (mvDec_of cd18 rfl) rfl ?_
    refine rc_bipush mq18 (mvDec_of cd18 rfl) (by decide) ?_
    refine rc_imul mq18 (mvDec_of cd18 rfl) ?_
    refine rc_iload_n mq18 (mvDec_of cd18 rfl) rfl ?_
    refine rc_iadd mq18 (mvDec_of cd18 rfl) ?_
    obtain ⟨⟨hb0, hb1⟩, H⟩ := H
    refine rc_iald mq18 (mvDec_of cd18 rfl) (miE6 he) hb0 hb1 ?_
    refine rc_iret mq18 (mvDec_of cd18 rfl) ?_
    show Rch 100 44 [some (mvR 36), some (mvR e), some (mvR 31), some (mvI l3), some (mvI l4), some (mvI l5), u6.map mvI] [mvI (h (e + 6) (mw ((mw (l3 * 10)) + l5))), mvI l3, mvR 31] (97, g, h) _
    refine rc_callV [mvR 31, mvI l3, mvI (h (e + 6) (mw ((mw (l3 * 10)) + l5)))] [] [some (mvR 31), some (mvI l3), some (mvI (h (e + 6) (mw ((mw (l3 * 10)) + l5))))] mq100 (mvDec_of cd100 rfl) lk_6_43 mq28 (by decide) rfl rfl (Nat.le_of_ble_eq_true rfl) (Nat.le_of_ble_eq_true rfl) (by decide) rfl mis31 rfl ?_
    refine rc_aload_n mq28 (mvDec_of cd28 rfl) rfl ?_
    refine rc_getR 32 mq28 (mvDec_of cd28 rfl) fl_4_9 mis31 rfl (gr_31_2 hG) (by decide) ?_
    refine rc_iload_n mq28 (mvDec_of cd28 rfl) rfl ?_
    obtain ⟨⟨hb0, hb1⟩, H⟩ := H
    refine rc_iald mq28 (mvDec_of cd28 rfl) mis32 hb0 hb1 ?_
    refine rc_iload_n mq28 (mvDec_of cd28 rfl) rfl ?_
    refine rc_ishr mq28 (mvDec_of cd28 rfl) ?_
    refine rc_iconst mq28 (mvDec_of cd28 rfl) (by decide) ?_
    refine rc_iand mq28 (mvDec_of cd28 rfl) ?_
    refine rc_if_eq (t := 17) mq28 (mvDec_of cd28 rfl) rfl (fun hc => ?_) (fun hc => ?_)
    · replace H := H.1 hc
      refine rc_iconst mq28 (mvDec_of cd28 rfl) (by decide) ?_
      refine rc_zret mq28 (mvDec_of cd28 rfl) (Or.inl rfl) ?_
      show Rch 100 47 [some (mvR 36), some (mvR e), some (mvR 31), some (mvI l3), some (mvI l4), some (mvI l5), u6.map mvI] [mvI 0] (97, g, h) _
      refine rc_istore [some (mvR 36), some (mvR e), some (mvR 31), some (mvI l3), some (mvI l4), some (mvI l5), some (mvI 0)] mq100 (mvDec_of cd100 rfl) rfl ?_
      refine rc_iload mq100 (mvDec_of cd100 rfl) rfl ?_
      refine rc_ifT (t := 66) mq100 (mvDec_of cd100 rfl) rfl rfl ?_
      refine rc_iload mq100 (mvDec_of cd100 rfl) rfl ?_
      refine rc_ifT (t := 90) mq100 (mvDec_of cd100 rfl) rfl rfl ?_
      refine rc_iload mq100 (mvDec_of cd100 rfl) rfl ?_
      refine rc_istore [some (mvR 36), some (mvR e), some (mvR 31), some (mvI l3), some (mvI 0), some (mvI l5), some (mvI 0)] mq100 (mvDec_of cd100 rfl) rfl ?_
      refine rc_iinc [some (mvR 36), some (mvR e), some (mvR 31), some (mvI l3), some (mvI 0), some (mvI (mw (l5 + 1))), some (mvI 0)] mq100 (mvDec_of cd100 rfl) rfl rfl ?_
      refine rc_goto (t := 24) mq100 (mvDec_of cd100 rfl) rfl ?_
      exact H
    · replace H := H.2 hc
      refine rc_iconst mq28 (mvDec_of cd28 rfl) (by decide) ?_
      refine rc_goto (t := 18) mq28 (mvDec_of cd28 rfl) rfl ?_
      refine rc_zret mq28 (mvDec_of cd28 rfl) (Or.inr rfl) ?_
      show Rch 100 47 [some (mvR 36), some (mvR e), some (mvR 31), some (mvI l3), some (mvI l4), some (mvI l5), u6.map mvI] [mvI 1] (97, g, h) _
      refine rc_istore [some (mvR 36), some (mvR e), some (mvR 31), some (mvI l3), some (mvI l4), some (mvI l5), some (mvI 1)] mq100 (mvDec_of cd100 rfl) rfl ?_
      refine rc_iload mq100 (mvDec_of cd100 rfl) rfl ?_
      refine rc_ifF (t := 66) mq100 (mvDec_of cd100 rfl) rfl rfl ?_
      refine rc_iload mq100 (mvDec_of cd100 rfl) rfl ?_
      refine rc_if_ne (t := 66) mq100 (mvDec_of cd100 rfl) rfl (fun hc => ?_) (fun hc => ?_)
      · replace H := H.1 hc
        refine rc_iload mq100 (mvDec_of cd100 rfl) rfl ?_
        refine rc_ifF (t := 90) mq100 (mvDec_of cd100 rfl) rfl rfl ?_
        refine rc_aload_n mq100 (mvDec_of cd100 rfl) rfl ?_
        refine rc_getR 39 mq100 (mvDec_of cd100 rfl) fl_6_18 mis36 rfl (gr_36_2 hG) (by decide) ?_
        refine rc_iload_n mq100 (mvDec_of cd100 rfl) rfl ?_
        refine rc_iconst mq100 (mvDec_of cd100 rfl) (by decide) ?_
        refine rc_imul mq100 (mvDec_of cd100 rfl) ?_
        refine rc_aload_n mq100 (mvDec_of cd100 rfl) rfl ?_
        refine rc_getR 37 mq100 (mvDec_of cd100 rfl) fl_6_9 mis36 rfl (gr_36_0 hG) (by decide) ?_
        refine rc_iload_n mq100 (mvDec_of cd100 rfl) rfl ?_
        obtain ⟨⟨hb0, hb1⟩, H⟩ := H
        refine rc_iald mq100 (mvDec_of cd100 rfl) mis37 hb0 hb1 ?_
        refine rc_iadd mq100 (mvDec_of cd100 rfl) ?_
        refine rc_iconst mq100 (mvDec_of cd100 rfl) (by decide) ?_
        refine rc_isub mq100 (mvDec_of cd100 rfl) ?_
        refine rc_iload mq100 (mvDec_of cd100 rfl) rfl ?_
        obtain ⟨⟨hb0, hb1⟩, H⟩ := H
        refine rc_iast mq100 (mvDec_of cd100 rfl) mis39 hb0 hb1 ?_
        refine rc_heap (fun h1 hh => ?_)
        replace H := H h1 hh
        refine rc_iload mq100 (mvDec_of cd100 rfl) rfl ?_
        refine rc_istore [some (mvR 36), some (mvR e), some (mvR 31), some (mvI l3), some (mvI 1), some (mvI l5), some (mvI 1)] mq100 (mvDec_of cd100 rfl) rfl ?_
        refine rc_iinc [some (mvR 36), some (mvR e), some (mvR 31), some (mvI l3), some (mvI 1), some (mvI (mw (l5 + 1))), some (mvI 1)] mq100 (mvDec_of cd100 rfl) rfl rfl ?_
        refine rc_goto (t := 24) mq100 (mvDec_of cd100 rfl) rfl ?_
        exact H
      · replace H := H.2 hc
        refine rc_aload_n mq100 (mvDec_of cd100 rfl) rfl ?_
        refine rc_iload_n mq100 (mvDec_of cd100 rfl) rfl ?_
        refine rc_iload mq100 (mvDec_of cd100 rfl) rfl ?_
        refine rc_callV [mvR 36, mvI l3, mvI l5] [] [some (mvR 36), some (mvI l3), some (mvI l5)] mq100 (mvDec_of cd100 rfl) lk_6_49 mq31 (by decide) rfl rfl (Nat.le_of_ble_eq_true rfl) (Nat.le_of_ble_eq_true rfl) (by decide) rfl mis36 rfl ?_
        refine rc_aload_n mq31 (mvDec_of cd31 rfl) rfl ?_
        refine rc_getR 38 mq31 (mvDec_of cd31 rfl) fl_6_15 mis36 rfl (gr_36_1 hG) (by decide) ?_
        refine rc_iload_n mq31 (mvDec_of cd31 rfl) rfl ?_
        refine rc_iconst mq31 (mvDec_of cd31 rfl) (by decide) ?_
        refine rc_imul mq31 (mvDec_of cd31 rfl) ?_
        refine rc_aload_n mq31 (mvDec_of cd31 rfl) rfl ?_
        refine rc_getR 37 mq31 (mvDec_of cd31 rfl) fl_6_9 mis36 rfl (gr_36_0 hG) (by decide) ?_
        refine rc_iload_n mq31 (mvDec_of cd31 rfl) rfl ?_
        obtain ⟨⟨hb0, hb1⟩, H⟩ := H
        refine rc_iald mq31 (mvDec_of cd31 rfl) mis37 hb0 hb1 ?_
        refine rc_iadd mq31 (mvDec_of cd31 rfl) ?_
        refine rc_iload_n mq31 (mvDec_of cd31 rfl) rfl ?_
        obtain ⟨⟨hb0, hb1⟩, H⟩ := H
        refine rc_iast mq31 (mvDec_of cd31 rfl) mis38 hb0 hb1 ?_
        refine rc_heap (fun h2 hh => ?_)
        replace H := H h2 hh
        refine rc_aload_n mq31 (mvDec_of cd31 rfl) rfl ?_
        refine rc_getR 37 mq31 (mvDec_of cd31 rfl) fl_6_9 mis36 rfl (gr_36_0 hG) (by decide) ?_
        refine rc_iload_n mq31 (mvDec_of cd31 rfl) rfl ?_
        refine rc_dup2 mq31 (mvDec_of cd31 rfl) rfl rfl ?_
        obtain ⟨⟨hb0, hb1⟩, H⟩ := H
        refine rc_iald mq31 (mvDec_of cd31 rfl) mis37 hb0 hb1 ?_
        refine rc_iconst mq31 (mvDec_of cd31 rfl) (by decide) ?_
        refine rc_iadd mq31 (mvDec_of cd31 rfl) ?_
        obtain ⟨⟨hb0, hb1⟩, H⟩ := H
        refine rc_iast mq31 (mvDec_of cd31 rfl) mis37 hb0 hb1 ?_
        refine rc_heap (fun h3 hh => ?_)
        replace H := H h3 hh
        refine rc_vret mq31 (mvDec_of cd31 rfl) ?_
        show Rch 100 66 [some (mvR 36), some (mvR e), some (mvR 31), some (mvI l3), some (mvI l4), some (mvI l5), some (mvI 1)] [] (97, g, h3) _
        refine rc_iload mq100 (mvDec_of cd100 rfl) rfl ?_
        refine rc_ifF (t := 90) mq100 (mvDec_of cd100 rfl) rfl rfl ?_
        refine rc_aload_n mq100 (mvDec_of cd100 rfl) rfl ?_
        refine rc_getR 39 mq100 (mvDec_of cd100 rfl) fl_6_18 mis36 rfl (gr_36_2 hG) (by decide) ?_
        refine rc_iload_n mq100 (mvDec_of cd100 rfl) rfl ?_
        refine rc_iconst mq100 (mvDec_of cd100 rfl) (by decide) ?_
        refine rc_imul mq100 (mvDec_of cd100 rfl) ?_
        refine rc_aload_n mq100 (mvDec_of cd100 rfl) rfl ?_
        refine rc_getR 37 mq100 (mvDec_of cd100 rfl) fl_6_9 mis36 rfl (gr_36_0 hG) (by decide) ?_
        refine rc_iload_n mq100 (mvDec_of cd100 rfl) rfl ?_
        obtain ⟨⟨hb0, hb1⟩, H⟩ := H
        refine rc_iald mq100 (mvDec_of cd100 rfl) mis37 hb0 hb1 ?_
        refine rc_iadd mq100 (mvDec_of cd100 rfl) ?_
        refine rc_iconst mq100 (mvDec_of cd100 rfl) (by decide) ?_
        refine rc_isub mq100 (mvDec_of cd100 rfl) ?_
        refine rc_iload mq100 (mvDec_of cd100 rfl) rfl ?_
        obtain ⟨⟨hb0, hb1⟩, H⟩ := H
        refine rc_iast mq100 (mvDec_of cd100 rfl) mis39 hb0 hb1 ?_
        refine rc_heap (fun h4 hh => ?_)
        replace H := H h4 hh
        refine rc_iload mq100 (mvDec_of cd100 rfl) rfl ?_
        refine rc_istore [some (mvR 36), some (mvR e), some (mvR 31), some (mvI l3), some (mvI 1), some (mvI l5), some (mvI 1)] mq100 (mvDec_of cd100 rfl) rfl ?_
        refine rc_iinc [some (mvR 36), some (mvR e), some (mvR 31), some (mvI l3), some (mvI 1), some (mvI (mw (l5 + 1))), some (mvI 1)] mq100 (mvDec_of cd100 rfl) rfl rfl ?_
        refine rc_goto (t := 24) mq100 (mvDec_of cd100 rfl) rfl ?_
        exact H
abbrev IV_beginsBeforeEnd (g : Nat → Nat → Nat) (h : Nat → Int → Int) (e : Nat) (x2 : Int) (x3 : Int) (K : Int → (Nat → Int → Int) → Prop) : Prop := RI 101 0 [some (mvR 36), some (mvR e), some (mvI x2), some (mvI x3), none, none] [] g h K
theorem IV_beginsBeforeEnd_wp {sw : Bool} {g : Nat → Nat → Nat} {h : Nat → Int → Int} {e : Nat} {x2 : Int} {x3 : Int} {K : Int → (Nat → Int → Int) → Prop} (hG : Gok sw g) (he : EvId e) (H :
  (0 ≤ x2 ∧ x2 < 4) ∧
  (0 ≤ (mw ((mw (x2 * 5)) + (h 40 x2))) ∧ (mw ((mw (x2 * 5)) + (h 40 x2))) < 20) ∧
  (∀ v1, v1 = (h 38 (mw ((mw (x2 * 5)) + (h 40 x2)))) →
  (0 ≤ x3 ∧ x3 < 4) ∧
  (0 ≤ (mw ((mw (x3 * 5)) + (h 40 x3))) ∧ (mw ((mw (x3 * 5)) + (h 40 x3))) < 20) ∧
  (∀ v2, v2 = (h 39 (mw ((mw (x3 * 5)) + (h 40 x3)))) →
  ((v1 = 0 →
    K 1 h) ∧
  (¬ v1 = 0 →
    (0 ≤ x3 ∧ x3 < 4) ∧
    ((¬ v2 = (h (e + 1) x3) →
      ((¬ x2 = x3 →
        (0 ≤ (mw ((mw ((mw ((mw (x3 * 9)) + v2)) * 4)) + x2)) ∧ (mw ((mw ((mw ((mw (x3 * 9)) + v2)) * 4)) + x2)) < 144) ∧
        (((h (e + 5) (mw ((mw ((mw ((mw (x3 * 9)) + v2)) * 4)) + x2))) ≤ (mw (v1 - 1)) →
          K 0 h) ∧
        ((mw (v1 - 1)) < (h (e + 5) (mw ((mw ((mw ((mw (x3 * 9)) + v2)) * 4)) + x2))) →
          K 1 h))) ∧
      (x2 = x3 →
        ((v2 ≤ (mw (v1 - 1)) →
          K 0 h) ∧
        ((mw (v1 - 1)) < v2 →
          K 1 h))))) ∧
    (v2 = (h (e + 1) x3) →
      K 1 h))))))) : IV_beginsBeforeEnd g h e x2 x3 K := by
  refine rc_aload_n mq101 (mvDec_of cd101 rfl) rfl ?_
  refine rc_iload_n mq101 (mvDec_of cd101 rfl) rfl ?_
  refine rc_aload_n mq101 (mvDec_of cd101 rfl) rfl ?_
  refine rc_getR 40 mq101 (mvDec_of cd101 rfl) fl_6_21 mis36 rfl (gr_36_3 hG) (by decide) ?_
  refine rc_iload_n mq101 (mvDec_of cd101 rfl) rfl ?_
  obtain ⟨⟨hb0, hb1⟩, H⟩ := H
  refine rc_iald mq101 (mvDec_of cd101 rfl) mis40 hb0 hb1 ?_
  refine rc_callV [mvR 36, mvI x2, mvI (h 40 x2)] [] [some (mvR 36), some (mvI x2), some (mvI (h 40 x2))] mq101 (mvDec_of cd101 rfl) lk_6_65 mq32 (by decide) rfl rfl (Nat.le_of_ble_eq_true rfl) (Nat.le_of_ble_eq_true rfl) (by decide) rfl mis36 rfl ?_
  refine rc_aload_n mq32 (mvDec_of cd32 rfl) rfl ?_
  refine rc_getR 38 mq32 (mvDec_of cd32 rfl) fl_6_15 mis36 rfl (gr_36_1 hG) (by decide) ?_
  refine rc_iload_n mq32 (mvDec_of cd32 rfl) rfl ?_
  refine rc_iconst mq32 (mvDec_of cd32 rfl) (by decide) ?_
  refine rc_imul mq32 (mvDec_of cd32 rfl) ?_
  refine rc_iload_n mq32 (mvDec_of cd32 rfl) rfl ?_
  refine rc_iadd mq32 (mvDec_of cd32 rfl) ?_
  obtain ⟨⟨hb0, hb1⟩, H⟩ := H
  refine rc_iald mq32 (mvDec_of cd32 rfl) mis38 hb0 hb1 ?_
  refine rc_iret mq32 (mvDec_of cd32 rfl) ?_
  show Rch 101 11 [some (mvR 36), some (mvR e), some (mvI x2), some (mvI x3), none, none] [mvI (h 38 (mw ((mw (x2 * 5)) + (h 40 x2))))] (97, g, h) _
  refine rc_top (fun v1 hv => ?_)
  replace H := H v1 hv
  refine rc_istore [some (mvR 36), some (mvR e), some (mvI x2), some (mvI x3), some (mvI v1), none] mq101 (mvDec_of cd101 rfl) rfl ?_
  refine rc_aload_n mq101 (mvDec_of cd101 rfl) rfl ?_
  refine rc_iload_n mq101 (mvDec_of cd101 rfl) rfl ?_
  refine rc_aload_n mq101 (mvDec_of cd101 rfl) rfl ?_
  refine rc_getR 40 mq101 (mvDec_of cd101 rfl) fl_6_21 mis36 rfl (gr_36_3 hG) (by decide) ?_
  refine rc_iload_n mq101 (mvDec_of cd101 rfl) rfl ?_
  obtain ⟨⟨hb0, hb1⟩, H⟩ := H
  refine rc_iald mq101 (mvDec_of cd101 rfl) mis40 hb0 hb1 ?_
  refine rc_callV [mvR 36, mvI x3, mvI (h 40 x3)] [] [some (mvR 36), some (mvI x3), some (mvI (h 40 x3))] mq101 (mvDec_of cd101 rfl) lk_6_68 mq33 (by decide) rfl rfl (Nat.le_of_ble_eq_true rfl) (Nat.le_of_ble_eq_true rfl) (by decide) rfl mis36 rfl ?_
  refine rc_aload_n mq33 (mvDec_of cd33 rfl) rfl ?_
  refine rc_getR 39 mq33 (mvDec_of cd33 rfl) fl_6_18 mis36 rfl (gr_36_2 hG) (by decide) ?_
  refine rc_iload_n mq33 (mvDec_of cd33 rfl) rfl ?_
  refine rc_iconst mq33 (mvDec_of cd33 rfl) (by decide) ?_
  refine rc_imul mq33 (mvDec_of cd33 rfl) ?_
  refine rc_iload_n mq33 (mvDec_of cd33 rfl) rfl ?_
  refine rc_iadd mq33 (mvDec_of cd33 rfl) ?_
  obtain ⟨⟨hb0, hb1⟩, H⟩ := H
  refine rc_iald mq33 (mvDec_of cd33 rfl) mis39 hb0 hb1 ?_
  refine rc_iret mq33 (mvDec_of cd33 rfl) ?_
  show Rch 101 24 [some (mvR 36), some (mvR e), some (mvI x2), some (mvI x3), some (mvI v1), none] [mvI (h 39 (mw ((mw (x3 * 5)) + (h 40 x3))))] (97, g, h) _
  refine rc_top (fun v2 hv => ?_)
  replace H := H v2 hv
  refine rc_istore [some (mvR 36), some (mvR e), some (mvI x2), some (mvI x3), some (mvI v1), some (mvI v2)] mq101 (mvDec_of cd101 rfl) rfl ?_
  refine rc_iload mq101 (mvDec_of cd101 rfl) rfl ?_
  refine rc_if_eq (t := 42) mq101 (mvDec_of cd101 rfl) rfl (fun hc => ?_) (fun hc => ?_)
  · replace H := H.1 hc
    refine rc_iconst mq101 (mvDec_of cd101 rfl) (by decide) ?_
    exact rc_zret mq101 (mvDec_of cd101 rfl) (Or.inr rfl) ⟨_, _, rfl, rfl, H⟩
  · replace H := H.2 hc
    refine rc_iload mq101 (mvDec_of cd101 rfl) rfl ?_
    refine rc_aload_n mq101 (mvDec_of cd101 rfl) rfl ?_
    refine rc_getR (e + 1) mq101 (mvDec_of cd101 rfl) fl_6_36 (miE0 he) rfl (mgE2 he hG) (Nat.succ_ne_zero _) ?_
    refine rc_iload_n mq101 (mvDec_of cd101 rfl) rfl ?_
    obtain ⟨⟨hb0, hb1⟩, H⟩ := H
    refine rc_iald mq101 (mvDec_of cd101 rfl) (miE1 he) hb0 hb1 ?_
    refine rc_icmp_ne (t := 44) mq101 (mvDec_of cd101 rfl) rfl (fun hc => ?_) (fun hc => ?_)
    · replace H := H.1 hc
      refine rc_aload_n mq101 (mvDec_of cd101 rfl) rfl ?_
      refine rc_iload_n mq101 (mvDec_of cd101 rfl) rfl ?_
      refine rc_iload mq101 (mvDec_of cd101 rfl) rfl ?_
      refine rc_iconst mq101 (mvDec_of cd101 rfl) (by decide) ?_
      refine rc_isub mq101 (mvDec_of cd101 rfl) ?_
      refine rc_iload_n mq101 (mvDec_of cd101 rfl) rfl ?_
      refine rc_iload mq101 (mvDec_of cd101 rfl) rfl ?_
      refine rc_callV [mvR e, mvI x2, mvI (mw (v1 - 1)), mvI x3, mvI v2] [] [some (mvR e), some (mvI x2), some (mvI (mw (v1 - 1))), some (mvI x3), some (mvI v2)] mq101 (mvDec_of cd101 rfl) lk_6_71 mq19 (by decide) rfl rfl (Nat.le_of_ble_eq_true rfl) (Nat.le_of_ble_eq_true rfl) (by decide) rfl (miE0 he) rfl ?_
      refine rc_iload_n mq19 (mvDec_of cd19 rfl) rfl ?_
      refine rc_iload_n mq19 (mvDec_of cd19 rfl) rfl ?_
      refine rc_icmp_ne (t := 17) mq19 (mvDec_of cd19 rfl) rfl (fun hc => ?_) (fun hc => ?_)
      · replace H := H.1 hc
        refine rc_aload_n mq19 (mvDec_of cd19 rfl) rfl ?_
        refine rc_getR (e + 5) mq19 (mvDec_of cd19 rfl) fl_2_24 (miE0 he) rfl (mgE6 he hG) (Nat.succ_ne_zero _) ?_
        refine rc_iload_n mq19 (mvDec_of cd19 rfl) rfl ?_
        refine rc_bipush mq19 (mvDec_of cd19 rfl) (by decide) ?_
        refine rc_imul mq19 (mvDec_of cd19 rfl) ?_
        refine rc_iload mq19 (mvDec_of cd19 rfl) rfl ?_
        refine rc_iadd mq19 (mvDec_of cd19 rfl) ?_
        refine rc_iconst mq19 (mvDec_of cd19 rfl) (by decide) ?_
        refine rc_imul mq19 (mvDec_of cd19 rfl) ?_
        refine rc_iload_n mq19 (mvDec_of cd19 rfl) rfl ?_
        refine rc_iadd mq19 (mvDec_of cd19 rfl) ?_
        obtain ⟨⟨hb0, hb1⟩, H⟩ := H
        refine rc_iald mq19 (mvDec_of cd19 rfl) (miE5 he) hb0 hb1 ?_
        refine rc_iload_n mq19 (mvDec_of cd19 rfl) rfl ?_
        refine rc_icmp_le (t := 41) mq19 (mvDec_of cd19 rfl) rfl (fun hc => ?_) (fun hc => ?_)
        · replace H := H.1 hc
          refine rc_iconst mq19 (mvDec_of cd19 rfl) (by decide) ?_
          refine rc_zret mq19 (mvDec_of cd19 rfl) (Or.inl rfl) ?_
          show Rch 101 56 [some (mvR 36), some (mvR e), some (mvI x2), some (mvI x3), some (mvI v1), some (mvI v2)] [mvI 0] (97, g, h) _
          exact rc_zret mq101 (mvDec_of cd101 rfl) (Or.inl rfl) ⟨_, _, rfl, rfl, H⟩
        · replace H := H.2 hc
          refine rc_iconst mq19 (mvDec_of cd19 rfl) (by decide) ?_
          refine rc_goto (t := 42) mq19 (mvDec_of cd19 rfl) rfl ?_
          refine rc_zret mq19 (mvDec_of cd19 rfl) (Or.inr rfl) ?_
          show Rch 101 56 [some (mvR 36), some (mvR e), some (mvI x2), some (mvI x3), some (mvI v1), some (mvI v2)] [mvI 1] (97, g, h) _
          exact rc_zret mq101 (mvDec_of cd101 rfl) (Or.inr rfl) ⟨_, _, rfl, rfl, H⟩
      · replace H := H.2 hc
        refine rc_iload_n mq19 (mvDec_of cd19 rfl) rfl ?_
        refine rc_iload mq19 (mvDec_of cd19 rfl) rfl ?_
        refine rc_icmp_ge (t := 15) mq19 (mvDec_of cd19 rfl) rfl (fun hc => ?_) (fun hc => ?_)
        · replace H := H.1 hc
          refine rc_iconst mq19 (mvDec_of cd19 rfl) (by decide) ?_
          refine rc_zret mq19 (mvDec_of cd19 rfl) (Or.inl rfl) ?_
          show Rch 101 56 [some (mvR 36), some (mvR e), some (mvI x2), some (mvI x3), some (mvI v1), some (mvI v2)] [mvI 0] (97, g, h) _
          exact rc_zret mq101 (mvDec_of cd101 rfl) (Or.inl rfl) ⟨_, _, rfl, rfl, H⟩
        · replace H := H.2 hc
          refine rc_iconst mq19 (mvDec_of cd19 rfl) (by decide) ?_
          refine rc_goto (t := 16) mq19 (mvDec_of cd19 rfl) rfl ?_
          refine rc_zret mq19 (mvDec_of cd19 rfl) (Or.inr rfl) ?_
          show Rch 101 56 [some (mvR 36), some (mvR e), some (mvI x2), some (mvI x3), some (mvI v1), some (mvI v2)] [mvI 1] (97, g, h) _
          exact rc_zret mq101 (mvDec_of cd101 rfl) (Or.inr rfl) ⟨_, _, rfl, rfl, H⟩
    · replace H := H.2 hc
      refine rc_iconst mq101 (mvDec_of cd101 rfl) (by decide) ?_
      exact rc_zret mq101 (mvDec_of cd101 rfl) (Or.inr rfl) ⟨_, _, rfl, rfl, H⟩
abbrev IV_isStrongChoice (g : Nat → Nat → Nat) (h : Nat → Int → Int) (e : Nat) (K : Int → (Nat → Int → Int) → Prop) : Prop := RI 156 0 [some (mvR 36), some (mvR e), none, none] [] g h K
abbrev IV_isStrongChoice_2 (g : Nat → Nat → Nat) (h : Nat → Int → Int) (e : Nat) (l2 : Int) (u3 : Option Int) (K : Int → (Nat → Int → Int) → Prop) : Prop := RI 156 2 [some (mvR 36), some (mvR e), some (mvI l2), u3.map mvI] [] g h K
abbrev IV_isStrongChoice_12 (g : Nat → Nat → Nat) (h : Nat → Int → Int) (e : Nat) (l2 : Int) (l3 : Int) (K : Int → (Nat → Int → Int) → Prop) : Prop := RI 156 12 [some (mvR 36), some (mvR e), some (mvI l2), some (mvI l3)] [] g h K
theorem IV_isStrongChoice_wp {sw : Bool} {g : Nat → Nat → Nat} {h : Nat → Int → Int} {e : Nat} {K : Int → (Nat → Int → Int) → Prop} (hG : Gok sw g) (he : EvId e) (H :
  IV_isStrongChoice_2 g h e 0 none K) : IV_isStrongChoice g h e K := by
  refine rc_iconst mq156 (mvDec_of cd156 rfl) (by decide) ?_
  refine rc_istore_n [some (mvR 36), some (mvR e), some (mvI 0), none] mq156 (mvDec_of cd156 rfl) rfl ?_
  exact H
theorem IV_isStrongChoice_2_wp {sw : Bool} {g : Nat → Nat → Nat} {h : Nat → Int → Int} {e : Nat} {l2 : Int} {u3 : Option Int} {K : Int → (Nat → Int → Int) → Prop} (hG : Gok sw g) (he : EvId e) (H :
  (((h e 0) ≤ l2 →
    K 1 h) ∧
  (l2 < (h e 0) →
    IV_isStrongChoice_12 g h e l2 0 K))) : IV_isStrongChoice_2 g h e l2 u3 K := by
  refine rc_iload_n mq156 (mvDec_of cd156 rfl) rfl ?_
  refine rc_aload_n mq156 (mvDec_of cd156 rfl) rfl ?_
  refine rc_getI 0 mq156 (mvDec_of cd156 rfl) fl_6_30 (miE0 he) rfl (by decide) (by decide) ?_
  refine rc_icmp_ge (t := 49) mq156 (mvDec_of cd156 rfl) rfl (fun hc => ?_) (fun hc => ?_)
  · replace H := H.1 hc
    refine rc_iconst mq156 (mvDec_of cd156 rfl) (by decide) ?_
    exact rc_zret mq156 (mvDec_of cd156 rfl) (Or.inr rfl) ⟨_, _, rfl, rfl, H⟩
  · replace H := H.2 hc
    refine rc_iconst mq156 (mvDec_of cd156 rfl) (by decide) ?_
    refine rc_istore_n [some (mvR 36), some (mvR e), some (mvI l2), some (mvI 0)] mq156 (mvDec_of cd156 rfl) rfl ?_
    exact H
theorem IV_isStrongChoice_12_wp {sw : Bool} {g : Nat → Nat → Nat} {h : Nat → Int → Int} {e : Nat} {l2 : Int} {l3 : Int} {K : Int → (Nat → Int → Int) → Prop} (hG : Gok sw g) (he : EvId e) (H :
  (((h e 0) ≤ l3 →
    IV_isStrongChoice_2 g h e (mw (l2 + 1)) (some l3) K) ∧
  (l3 < (h e 0) →
    ((l2 = l3 →
      IV_isStrongChoice_12 g h e l2 (mw (l3 + 1)) K) ∧
    (¬ l2 = l3 →
      IV_beginsBeforeEnd g h e l2 l3 (fun r2 h1 =>
        ((¬ r2 = 0 →
          IV_isStrongChoice_12 g h1 e l2 (mw (l3 + 1)) K) ∧
        (r2 = 0 →
          K 0 h1)))))))) : IV_isStrongChoice_12 g h e l2 l3 K := by
  refine rc_iload_n mq156 (mvDec_of cd156 rfl) rfl ?_
  refine rc_aload_n mq156 (mvDec_of cd156 rfl) rfl ?_
  refine rc_getI 0 mq156 (mvDec_of cd156 rfl) fl_6_30 (miE0 he) rfl (by decide) (by decide) ?_
  refine rc_icmp_ge (t := 43) mq156 (mvDec_of cd156 rfl) rfl (fun hc => ?_) (fun hc => ?_)
  · replace H := H.1 hc
    refine rc_iinc [some (mvR 36), some (mvR e), some (mvI (mw (l2 + 1))), some (mvI l3)] mq156 (mvDec_of cd156 rfl) rfl rfl ?_
    refine rc_goto (t := 2) mq156 (mvDec_of cd156 rfl) rfl ?_
    exact H
  · replace H := H.2 hc
    refine rc_iload_n mq156 (mvDec_of cd156 rfl) rfl ?_
    refine rc_iload_n mq156 (mvDec_of cd156 rfl) rfl ?_
    refine rc_icmp_eq (t := 37) mq156 (mvDec_of cd156 rfl) rfl (fun hc => ?_) (fun hc => ?_)
    · replace H := H.1 hc
      refine rc_iinc [some (mvR 36), some (mvR e), some (mvI l2), some (mvI (mw (l3 + 1)))] mq156 (mvDec_of cd156 rfl) rfl rfl ?_
      refine rc_goto (t := 12) mq156 (mvDec_of cd156 rfl) rfl ?_
      exact H
    · replace H := H.2 hc
      refine rc_aload_n mq156 (mvDec_of cd156 rfl) rfl ?_
      refine rc_aload_n mq156 (mvDec_of cd156 rfl) rfl ?_
      refine rc_iload_n mq156 (mvDec_of cd156 rfl) rfl ?_
      refine rc_iload_n mq156 (mvDec_of cd156 rfl) rfl ?_
      refine rc_callV [mvR 36, mvR e, mvI l2, mvI l3] [] [some (mvR 36), some (mvR e), some (mvI l2), some (mvI l3), none, none] mq156 (mvDec_of cd156 rfl) lk_6_61 mq101 (by decide) rfl rfl (Nat.le_of_ble_eq_true rfl) (Nat.le_of_ble_eq_true rfl) (by decide) rfl mis36 rfl (ri_bind H (fun r2 h1 H => ?_))
      refine rc_if_ne (t := 37) mq156 (mvDec_of cd156 rfl) rfl (fun hc => ?_) (fun hc => ?_)
      · replace H := H.1 hc
        refine rc_iinc [some (mvR 36), some (mvR e), some (mvI l2), some (mvI (mw (l3 + 1)))] mq156 (mvDec_of cd156 rfl) rfl rfl ?_
        refine rc_goto (t := 12) mq156 (mvDec_of cd156 rfl) rfl ?_
        exact H
      · replace H := H.2 hc
        refine rc_iconst mq156 (mvDec_of cd156 rfl) (by decide) ?_
        exact rc_zret mq156 (mvDec_of cd156 rfl) (Or.inl rfl) ⟨_, _, rfl, rfl, H⟩
abbrev IV_areStrong (g : Nat → Nat → Nat) (h : Nat → Int → Int) (e : Nat) (K : Int → (Nat → Int → Int) → Prop) : Prop := RI 185 0 [some (mvR 36), some (mvR e), none, none] [] g h K
abbrev IV_areStrong_4 (g : Nat → Nat → Nat) (h : Nat → Int → Int) (e : Nat) (l2 : Int) (l3 : Int) (K : Int → (Nat → Int → Int) → Prop) : Prop := RI 185 4 [some (mvR 36), some (mvR e), some (mvI l2), some (mvI l3)] [] g h K
abbrev IV_areStrong_37 (g : Nat → Nat → Nat) (h : Nat → Int → Int) (e : Nat) (l2 : Int) (l3 : Int) (K : Int → (Nat → Int → Int) → Prop) : Prop := RI 185 37 [some (mvR 36), some (mvR e), some (mvI l2), some (mvI l3)] [] g h K
theorem IV_areStrong_wp {sw : Bool} {g : Nat → Nat → Nat} {h : Nat → Int → Int} {e : Nat} {K : Int → (Nat → Int → Int) → Prop} (hG : Gok sw g) (he : EvId e) (H :
  IV_areStrong_4 g h e 1 0 K) : IV_areStrong g h e K := by
  refine rc_iconst mq185 (mvDec_of cd185 rfl) (by decide) ?_
  refine rc_istore_n [some (mvR 36), some (mvR e), some (mvI 1), none] mq185 (mvDec_of cd185 rfl) rfl ?_
  refine rc_iconst mq185 (mvDec_of cd185 rfl) (by decide) ?_
  refine rc_istore_n [some (mvR 36), some (mvR e), some (mvI 1), some (mvI 0)] mq185 (mvDec_of cd185 rfl) rfl ?_
  exact H
theorem IV_areStrong_4_wp {sw : Bool} {g : Nat → Nat → Nat} {h : Nat → Int → Int} {e : Nat} {l2 : Int} {l3 : Int} {K : Int → (Nat → Int → Int) → Prop} (hG : Gok sw g) (he : EvId e) (H :
  (((h e 0) ≤ l3 →
    AR_fill g h 40 0 (fun h1 =>
      IV_areStrong_37 g h1 e l2 0 K)) ∧
  (l3 < (h e 0) →
    (0 ≤ l3 ∧ l3 < 4) ∧
    (∀ v2, v2 = (mw (l2 * (h 37 l3))) →
    IV_areStrong_4 g h e v2 (mw (l3 + 1)) K)))) : IV_areStrong_4 g h e l2 l3 K := by
  refine rc_iload_n mq185 (mvDec_of cd185 rfl) rfl ?_
  refine rc_aload_n mq185 (mvDec_of cd185 rfl) rfl ?_
  refine rc_getI 0 mq185 (mvDec_of cd185 rfl) fl_6_30 (miE0 he) rfl (by decide) (by decide) ?_
  refine rc_icmp_ge (t := 27) mq185 (mvDec_of cd185 rfl) rfl (fun hc => ?_) (fun hc => ?_)
  · replace H := H.1 hc
    refine rc_aload_n mq185 (mvDec_of cd185 rfl) rfl ?_
    refine rc_getR 40 mq185 (mvDec_of cd185 rfl) fl_6_21 mis36 rfl (gr_36_3 hG) (by decide) ?_
    refine rc_iconst mq185 (mvDec_of cd185 rfl) (by decide) ?_
    refine rc_callS [mvR 40, mvI 0] [] [some (mvR 40), some (mvI 0), none, none] mq185 (mvDec_of cd185 rfl) lk_6_24 mq65 (by decide) rfl rfl (Nat.le_of_ble_eq_true rfl) (Nat.le_of_ble_eq_true rfl) (by decide) rfl (rv_bind H (fun h1 H => ?_))
    refine rc_iconst mq185 (mvDec_of cd185 rfl) (by decide) ?_
    refine rc_istore_n [some (mvR 36), some (mvR e), some (mvI l2), some (mvI 0)] mq185 (mvDec_of cd185 rfl) rfl ?_
    exact H
  · replace H := H.2 hc
    refine rc_iload_n mq185 (mvDec_of cd185 rfl) rfl ?_
    refine rc_aload_n mq185 (mvDec_of cd185 rfl) rfl ?_
    refine rc_getR 37 mq185 (mvDec_of cd185 rfl) fl_6_9 mis36 rfl (gr_36_0 hG) (by decide) ?_
    refine rc_iload_n mq185 (mvDec_of cd185 rfl) rfl ?_
    obtain ⟨⟨hb0, hb1⟩, H⟩ := H
    refine rc_iald mq185 (mvDec_of cd185 rfl) mis37 hb0 hb1 ?_
    refine rc_imul mq185 (mvDec_of cd185 rfl) ?_
    refine rc_top (fun v2 hv => ?_)
    replace H := H v2 hv
    refine rc_istore_n [some (mvR 36), some (mvR e), some (mvI v2), some (mvI l3)] mq185 (mvDec_of cd185 rfl) rfl ?_
    refine rc_iinc [some (mvR 36), some (mvR e), some (mvI v2), some (mvI (mw (l3 + 1)))] mq185 (mvDec_of cd185 rfl) rfl rfl ?_
    refine rc_goto (t := 4) mq185 (mvDec_of cd185 rfl) rfl ?_
    exact H
theorem IV_areStrong_37_wp {sw : Bool} {g : Nat → Nat → Nat} {h : Nat → Int → Int} {e : Nat} {l2 : Int} {l3 : Int} {K : Int → (Nat → Int → Int) → Prop} (hG : Gok sw g) (he : EvId e) (H :
  ((l2 ≤ l3 →
    K 0 h) ∧
  (l3 < l2 →
    IV_isStrongChoice g h e (fun r2 h1 =>
      ((r2 = 0 →
        IV_chooseNext g h1 (h1 e 0) (fun h3 =>
          IV_areStrong_37 g h3 e l2 (mw (l3 + 1)) K)) ∧
      (¬ r2 = 0 →
        K 1 h1)))))) : IV_areStrong_37 g h e l2 l3 K := by
  refine rc_iload_n mq185 (mvDec_of cd185 rfl) rfl ?_
  refine rc_iload_n mq185 (mvDec_of cd185 rfl) rfl ?_
  refine rc_icmp_ge (t := 66) mq185 (mvDec_of cd185 rfl) rfl (fun hc => ?_) (fun hc => ?_)
  · replace H := H.1 hc
    refine rc_iconst mq185 (mvDec_of cd185 rfl) (by decide) ?_
    exact rc_zret mq185 (mvDec_of cd185 rfl) (Or.inl rfl) ⟨_, _, rfl, rfl, H⟩
  · replace H := H.2 hc
    refine rc_aload_n mq185 (mvDec_of cd185 rfl) rfl ?_
    refine rc_aload_n mq185 (mvDec_of cd185 rfl) rfl ?_
    refine rc_callV [mvR 36, mvR e] [] [some (mvR 36), some (mvR e), none, none] mq185 (mvDec_of cd185 rfl) lk_6_53 mq156 (by decide) rfl rfl (Nat.le_of_ble_eq_true rfl) (Nat.le_of_ble_eq_true rfl) (by decide) rfl mis36 rfl (ri_bind H (fun r2 h1 H => ?_))
    refine rc_if_eq (t := 52) mq185 (mvDec_of cd185 rfl) rfl (fun hc => ?_) (fun hc => ?_)
    · replace H := H.1 hc
      refine rc_aload_n mq185 (mvDec_of cd185 rfl) rfl ?_
      refine rc_aload_n mq185 (mvDec_of cd185 rfl) rfl ?_
      refine rc_getI 0 mq185 (mvDec_of cd185 rfl) fl_6_30 (miE0 he) rfl (by decide) (by decide) ?_
      refine rc_callV [mvR 36, mvI (h1 e 0)] [] [some (mvR 36), some (mvI (h1 e 0)), none] mq185 (mvDec_of cd185 rfl) lk_6_57 mq34 (by decide) rfl rfl (Nat.le_of_ble_eq_true rfl) (Nat.le_of_ble_eq_true rfl) (by decide) rfl mis36 rfl (rv_bind H (fun h3 H => ?_))
      refine rc_iinc [some (mvR 36), some (mvR e), some (mvI l2), some (mvI (mw (l3 + 1)))] mq185 (mvDec_of cd185 rfl) rfl rfl ?_
      refine rc_goto (t := 37) mq185 (mvDec_of cd185 rfl) rfl ?_
      exact H
    · replace H := H.2 hc
      refine rc_iconst mq185 (mvDec_of cd185 rfl) (by decide) ?_
      exact rc_zret mq185 (mvDec_of cd185 rfl) (Or.inr rfl) ⟨_, _, rfl, rfl, H⟩
