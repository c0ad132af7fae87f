/-! out of the bytecode, by program: what suffices for a method (_wp), for a loop at its head (_place_wp) -/
abbrev PL_choose (g : Nat → Nat → Nat) (h : Nat → Int → Int) (x0 : Int) (x1 : Int) (K : Int → (Nat → Int → Int) → Prop) : Prop := RI 105 0 [some (mvI x0), some (mvJ x1), none, none, none, none, none] [] g h K
abbrev PL_choose_25 (g : Nat → Nat → Nat) (h : Nat → Int → Int) (l0 : Int) (l1 : Int) (u3 : Option Int) (l4 : Int) (l5 : Int) (u6 : Option Int) (K : Int → (Nat → Int → Int) → Prop) : Prop := RI 105 25 [some (mvI l0), some (mvJ l1), none, u3.map mvI, some (mvI l4), some (mvI l5), u6.map mvI] [] g h K
theorem PL_choose_wp {sw : Bool} {g : Nat → Nat → Nat} {h : Nat → Int → Int} {x0 : Int} {x1 : Int} {K : Int → (Nat → Int → Int) → Prop} (hG : Gok sw g)  (H :
  IG_bitCount g h x0 (fun r2 h1 =>
    ((¬ r2 = 0 →
      (¬ r2 = 0) ∧
      (∀ v3, v3 = (mw ((mwl (x1.tdiv 65536)).tmod r2)) →
      PL_choose_25 g h1 x0 x1 (some r2) v3 0 none K)) ∧
    (r2 = 0 →
      K (-1) h1)))) : PL_choose g h x0 x1 K := by
  refine rc_iload_n mq105 (mvDec_of cd105 rfl) rfl ?_
  refine rc_callS [mvI x0] [] [some (mvI x0)] mq105 (mvDec_of cd105 rfl) lk_8_42 mq66 (by decide) rfl rfl (Nat.le_of_ble_eq_true rfl) (Nat.le_of_ble_eq_true rfl) (by decide) rfl (ri_bind H (fun r2 h1 H => ?_))
  refine rc_istore_n [some (mvI x0), some (mvJ x1), none, some (mvI r2), none, none, none] mq105 (mvDec_of cd105 rfl) rfl ?_
  refine rc_iload_n mq105 (mvDec_of cd105 rfl) rfl ?_
  refine rc_if_ne (t := 11) mq105 (mvDec_of cd105 rfl) rfl (fun hc => ?_) (fun hc => ?_)
  · replace H := H.1 hc
    refine rc_lload_n mq105 (mvDec_of cd105 rfl) rfl ?_
    refine rc_ldc2 mq105 (mvDec_of cd105 rfl) rfl ?_
    refine rc_ldiv mq105 (mvDec_of cd105 rfl) (by decide) ?_
    refine rc_iload_n mq105 (mvDec_of cd105 rfl) rfl ?_
    refine rc_i2l mq105 (mvDec_of cd105 rfl) ?_
    obtain ⟨hb, H⟩ := H
    refine rc_lrem mq105 (mvDec_of cd105 rfl) hb ?_
    refine rc_l2i mq105 (mvDec_of cd105 rfl) ?_
    refine rc_top (fun v3 hv => ?_)
    replace H := H v3 hv
    refine rc_istore [some (mvI x0), some (mvJ x1), none, some (mvI r2), some (mvI v3), none, none] mq105 (mvDec_of cd105 rfl) rfl ?_
    refine rc_iconst mq105 (mvDec_of cd105 rfl) (by decide) ?_
    refine rc_istore [some (mvI x0), some (mvJ x1), none, some (mvI r2), some (mvI v3), some (mvI 0), none] mq105 (mvDec_of cd105 rfl) rfl ?_
    exact H
  · replace H := H.2 hc
    refine rc_iconst mq105 (mvDec_of cd105 rfl) (by decide) ?_
    exact rc_iret mq105 (mvDec_of cd105 rfl) ⟨_, _, rfl, rfl, H⟩
theorem PL_choose_25_wp {sw : Bool} {g : Nat → Nat → Nat} {h : Nat → Int → Int} {l0 : Int} {l1 : Int} {u3 : Option Int} {l4 : Int} {l5 : Int} {u6 : Option Int} {K : Int → (Nat → Int → Int) → Prop} (hG : Gok sw g)  (H :
  ((4 ≤ l5 →
    K (-1) h) ∧
  (l5 < 4 →
    (((mvAnd (mvShr l0 l5) 1) = 0 →
      PL_choose_25 g h l0 l1 u3 l4 (mw (l5 + 1)) (some 0) K) ∧
    (¬ (mvAnd (mvShr l0 l5) 1) = 0 →
      ((¬ l4 = 0 →
        PL_choose_25 g h l0 l1 u3 (mw (l4 + (-1))) (mw (l5 + 1)) (some 1) K) ∧
      (l4 = 0 →
        K l5 h))))))) : PL_choose_25 g h l0 l1 u3 l4 l5 u6 K := by
  refine rc_iload mq105 (mvDec_of cd105 rfl) rfl ?_
  refine rc_iconst mq105 (mvDec_of cd105 rfl) (by decide) ?_
  refine rc_icmp_ge (t := 74) mq105 (mvDec_of cd105 rfl) rfl (fun hc => ?_) (fun hc => ?_)
  · replace H := H.1 hc
    refine rc_iconst mq105 (mvDec_of cd105 rfl) (by decide) ?_
    exact rc_iret mq105 (mvDec_of cd105 rfl) ⟨_, _, rfl, rfl, H⟩
  · replace H := H.2 hc
    refine rc_iload_n mq105 (mvDec_of cd105 rfl) rfl ?_
    refine rc_iload mq105 (mvDec_of cd105 rfl) rfl ?_
    refine rc_ishr mq105 (mvDec_of cd105 rfl) ?_
    refine rc_iconst mq105 (mvDec_of cd105 rfl) (by decide) ?_
    refine rc_iand mq105 (mvDec_of cd105 rfl) ?_
    refine rc_if_eq (t := 44) mq105 (mvDec_of cd105 rfl) rfl (fun hc => ?_) (fun hc => ?_)
    · replace H := H.1 hc
      refine rc_iconst mq105 (mvDec_of cd105 rfl) (by decide) ?_
      refine rc_istore [some (mvI l0), some (mvJ l1), none, u3.map mvI, some (mvI l4), some (mvI l5), some (mvI 0)] mq105 (mvDec_of cd105 rfl) rfl ?_
      refine rc_iload mq105 (mvDec_of cd105 rfl) rfl ?_
      refine rc_ifT (t := 60) mq105 (mvDec_of cd105 rfl) rfl rfl ?_
      refine rc_iload mq105 (mvDec_of cd105 rfl) rfl ?_
      refine rc_ifT (t := 68) mq105 (mvDec_of cd105 rfl) rfl rfl ?_
      refine rc_iinc [some (mvI l0), some (mvJ l1), none, u3.map mvI, some (mvI l4), some (mvI (mw (l5 + 1))), some (mvI 0)] mq105 (mvDec_of cd105 rfl) rfl rfl ?_
      refine rc_goto (t := 25) mq105 (mvDec_of cd105 rfl) rfl ?_
      exact H
    · replace H := H.2 hc
      refine rc_iconst mq105 (mvDec_of cd105 rfl) (by decide) ?_
      refine rc_goto (t := 45) mq105 (mvDec_of cd105 rfl) rfl ?_
      refine rc_istore [some (mvI l0), some (mvJ l1), none, u3.map mvI, some (mvI l4), some (mvI l5), some (mvI 1)] mq105 (mvDec_of cd105 rfl) rfl ?_
      refine rc_iload mq105 (mvDec_of cd105 rfl) rfl ?_
      refine rc_ifF (t := 60) mq105 (mvDec_of cd105 rfl) rfl rfl ?_
      refine rc_iload mq105 (mvDec_of cd105 rfl) rfl ?_
      refine rc_if_ne (t := 60) mq105 (mvDec_of cd105 rfl) rfl (fun hc => ?_) (fun hc => ?_)
      · replace H := H.1 hc
        refine rc_iload mq105 (mvDec_of cd105 rfl) rfl ?_
        refine rc_ifF (t := 68) mq105 (mvDec_of cd105 rfl) rfl rfl ?_
        refine rc_iinc [some (mvI l0), some (mvJ l1), none, u3.map mvI, some (mvI (mw (l4 + (-1)))), some (mvI l5), some (mvI 1)] mq105 (mvDec_of cd105 rfl) rfl (by cases u3 <;> rfl) ?_
        refine rc_iinc [some (mvI l0), some (mvJ l1), none, u3.map mvI, some (mvI (mw (l4 + (-1)))), some (mvI (mw (l5 + 1))), some (mvI 1)] mq105 (mvDec_of cd105 rfl) rfl rfl ?_
        refine rc_goto (t := 25) mq105 (mvDec_of cd105 rfl) rfl ?_
        exact H
      · replace H := H.2 hc
        refine rc_iload mq105 (mvDec_of cd105 rfl) rfl ?_
        exact rc_iret mq105 (mvDec_of cd105 rfl) ⟨_, _, rfl, rfl, H⟩
abbrev PL_perform (g : Nat → Nat → Nat) (h : Nat → Int → Int) (e : Nat) (x2 : Int) (K : (Nat → Int → Int) → Prop) : Prop := RV 186 0 [some (mvR 61), some (mvR e), some (mvI x2), none, none, none, none, none] [] g h K
abbrev PL_perform_14 (g : Nat → Nat → Nat) (h : Nat → Int → Int) (e : Nat) (l2 : Int) (l3 : Int) (l5 : Int) (l6 : Int) (u7 : Option Int) (K : (Nat → Int → Int) → Prop) : Prop := RV 186 14 [some (mvR 61), some (mvR e), some (mvI l2), some (mvJ l3), none, some (mvI l5), some (mvI l6), u7.map mvI] [] g h K
theorem PL_perform_wp {sw : Bool} {g : Nat → Nat → Nat} {h : Nat → Int → Int} {e : Nat} {x2 : Int} {K : (Nat → Int → Int) → Prop} (hG : Gok sw g) (he : EvId e) (H :
  (∀ h1, h1 = mvUpd h 61 0 0 →
  PL_perform_14 g h1 e x2 x2 0 0 none K)) : PL_perform g h e x2 K := by
  refine rc_iload_n mq186 (mvDec_of cd186 rfl) rfl ?_
  refine rc_i2l mq186 (mvDec_of cd186 rfl) ?_
  refine rc_lstore_n [some (mvR 61), some (mvR e), some (mvI x2), some (mvJ x2), none, none, none, none] mq186 (mvDec_of cd186 rfl) rfl ?_
  refine rc_iconst mq186 (mvDec_of cd186 rfl) (by decide) ?_
  refine rc_istore [some (mvR 61), some (mvR e), some (mvI x2), some (mvJ x2), none, some (mvI 0), none, none] mq186 (mvDec_of cd186 rfl) rfl ?_
  refine rc_aload_n mq186 (mvDec_of cd186 rfl) rfl ?_
  refine rc_iconst mq186 (mvDec_of cd186 rfl) (by decide) ?_
  refine rc_putI 0 mq186 (mvDec_of cd186 rfl) fl_8_9 mis61 rfl (fun z => absurd z (by decide)) (Or.inl rfl) ?_
  refine rc_heap (fun h1 hh => ?_)
  replace H := H h1 hh
  refine rc_iconst mq186 (mvDec_of cd186 rfl) (by decide) ?_
  refine rc_istore [some (mvR 61), some (mvR e), some (mvI x2), some (mvJ x2), none, some (mvI 0), some (mvI 0), none] mq186 (mvDec_of cd186 rfl) rfl ?_
  exact H
theorem PL_perform_14_wp {sw : Bool} {g : Nat → Nat → Nat} {h : Nat → Int → Int} {e : Nat} {l2 : Int} {l3 : Int} {l5 : Int} {l6 : Int} {u7 : Option Int} {K : (Nat → Int → Int) → Prop} (hG : Gok sw g) (he : EvId e) (H :
  (((h e 1) ≤ l6 →
    K h) ∧
  (l6 < (h e 1) →
    ((l2 = 0 →
      EV_followers g h e l5 (fun r2 h1 =>
        PL_choose g h1 r2 l3 (fun r4 h3 =>
          ((¬ r4 = (-1) →
            (0 ≤ l6 ∧ l6 < 16) ∧
            (∀ h5, h5 = mvUpd h3 62 l6 r4 →
            (∀ h6, h6 = mvUpd h5 61 0 (mw ((h5 61 0) + 1)) →
            EV_with g h6 e l5 r4 (fun r8 h7 =>
              PL_perform_14 g h7 e l2 l3 r8 (mw (l6 + 1)) (some r4) K)))) ∧
          (r4 = (-1) →
            K h3))))) ∧
    (¬ l2 = 0 →
      (∀ v9, v9 = ((mwl ((mwl (1103515245 * l3)) + 12345)).tmod 2147483648) →
      EV_followers g h e l5 (fun r11 h10 =>
        PL_choose g h10 r11 v9 (fun r13 h12 =>
          ((¬ r13 = (-1) →
            (0 ≤ l6 ∧ l6 < 16) ∧
            (∀ h14, h14 = mvUpd h12 62 l6 r13 →
            (∀ h15, h15 = mvUpd h14 61 0 (mw ((h14 61 0) + 1)) →
            EV_with g h15 e l5 r13 (fun r17 h16 =>
              PL_perform_14 g h16 e l2 v9 r17 (mw (l6 + 1)) (some r13) K)))) ∧
          (r13 = (-1) →
            K h12)))))))))) : PL_perform_14 g h e l2 l3 l5 l6 u7 K := by
  refine rc_iload mq186 (mvDec_of cd186 rfl) rfl ?_
  refine rc_aload_n mq186 (mvDec_of cd186 rfl) rfl ?_
  refine rc_getI 1 mq186 (mvDec_of cd186 rfl) fl_8_19 (miE0 he) rfl (by decide) (by decide) ?_
  refine rc_icmp_ge (t := 95) mq186 (mvDec_of cd186 rfl) rfl (fun hc => ?_) (fun hc => ?_)
  · replace H := H.1 hc
    exact rc_vret mq186 (mvDec_of cd186 rfl) ⟨_, rfl, rfl, H⟩
  · replace H := H.2 hc
    refine rc_iload_n mq186 (mvDec_of cd186 rfl) rfl ?_
    refine rc_if_eq (t := 41) mq186 (mvDec_of cd186 rfl) rfl (fun hc => ?_) (fun hc => ?_)
    · replace H := H.1 hc
      refine rc_aload_n mq186 (mvDec_of cd186 rfl) rfl ?_
      refine rc_iload mq186 (mvDec_of cd186 rfl) rfl ?_
      refine rc_callV [mvR e, mvI l5] [] [some (mvR e), some (mvI l5), none, none] mq186 (mvDec_of cd186 rfl) lk_8_30 mq150 (by decide) rfl rfl (Nat.le_of_ble_eq_true rfl) (Nat.le_of_ble_eq_true rfl) (by decide) rfl (miE0 he) rfl (ri_bind H (fun r2 h1 H => ?_))
      refine rc_lload_n mq186 (mvDec_of cd186 rfl) rfl ?_
      refine rc_callS [mvI r2, mvJ l3] [] [some (mvI r2), some (mvJ l3), none, none, none, none, none] mq186 (mvDec_of cd186 rfl) lk_8_34 mq105 (by decide) rfl rfl (Nat.le_of_ble_eq_true rfl) (Nat.le_of_ble_eq_true rfl) (by decide) rfl (ri_bind H (fun r4 h3 H => ?_))
      refine rc_istore [some (mvR 61), some (mvR e), some (mvI l2), some (mvJ l3), none, some (mvI l5), some (mvI l6), some (mvI r4)] mq186 (mvDec_of cd186 rfl) rfl ?_
      refine rc_iload mq186 (mvDec_of cd186 rfl) rfl ?_
      refine rc_iconst mq186 (mvDec_of cd186 rfl) (by decide) ?_
      refine rc_icmp_ne (t := 60) mq186 (mvDec_of cd186 rfl) rfl (fun hc => ?_) (fun hc => ?_)
      · replace H := H.1 hc
        refine rc_aload_n mq186 (mvDec_of cd186 rfl) rfl ?_
        refine rc_getR 62 mq186 (mvDec_of cd186 rfl) fl_8_15 mis61 rfl (gr_61_1 hG) (by decide) ?_
        refine rc_iload mq186 (mvDec_of cd186 rfl) rfl ?_
        refine rc_iload mq186 (mvDec_of cd186 rfl) rfl ?_
        obtain ⟨⟨hb0, hb1⟩, H⟩ := H
        refine rc_iast mq186 (mvDec_of cd186 rfl) mis62 hb0 hb1 ?_
        refine rc_heap (fun h5 hh => ?_)
        replace H := H h5 hh
        refine rc_aload_n mq186 (mvDec_of cd186 rfl) rfl ?_
        refine rc_dup mq186 (mvDec_of cd186 rfl) rfl ?_
        refine rc_getI 0 mq186 (mvDec_of cd186 rfl) fl_8_9 mis61 rfl (by decide) (by decide) ?_
        refine rc_iconst mq186 (mvDec_of cd186 rfl) (by decide) ?_
        refine rc_iadd mq186 (mvDec_of cd186 rfl) ?_
        refine rc_putI 0 mq186 (mvDec_of cd186 rfl) fl_8_9 mis61 rfl (fun z => absurd z (by decide)) (Or.inl rfl) ?_
        refine rc_heap (fun h6 hh => ?_)
        replace H := H h6 hh
        refine rc_aload_n mq186 (mvDec_of cd186 rfl) rfl ?_
        refine rc_iload mq186 (mvDec_of cd186 rfl) rfl ?_
        refine rc_iload mq186 (mvDec_of cd186 rfl) rfl ?_
        refine rc_callV [mvR e, mvI l5, mvI r4] [] [some (mvR e), some (mvI l5), some (mvI r4)] mq186 (mvDec_of cd186 rfl) lk_8_38 mq24 (by decide) rfl rfl (Nat.le_of_ble_eq_true rfl) (Nat.le_of_ble_eq_true rfl) (by decide) rfl (miE0 he) rfl (ri_bind H (fun r8 h7 H => ?_))
        refine rc_istore [some (mvR 61), some (mvR e), some (mvI l2), some (mvJ l3), none, some (mvI r8), some (mvI l6), some (mvI r4)] mq186 (mvDec_of cd186 rfl) rfl ?_
        refine rc_iinc [some (mvR 61), some (mvR e), some (mvI l2), some (mvJ l3), none, some (mvI r8), some (mvI (mw (l6 + 1))), some (mvI r4)] mq186 (mvDec_of cd186 rfl) rfl rfl ?_
        refine rc_goto (t := 14) mq186 (mvDec_of cd186 rfl) rfl ?_
        exact H
      · replace H := H.2 hc
        exact rc_vret mq186 (mvDec_of cd186 rfl) ⟨_, rfl, rfl, H⟩
    · replace H := H.2 hc
      refine rc_ldc2 mq186 (mvDec_of cd186 rfl) rfl ?_
      refine rc_lload_n mq186 (mvDec_of cd186 rfl) rfl ?_
      refine rc_lmul mq186 (mvDec_of cd186 rfl) ?_
      refine rc_ldc2 mq186 (mvDec_of cd186 rfl) rfl ?_
      refine rc_ladd mq186 (mvDec_of cd186 rfl) ?_
      refine rc_ldc2 mq186 (mvDec_of cd186 rfl) rfl ?_
      refine rc_lrem mq186 (mvDec_of cd186 rfl) (by decide) ?_
      refine rc_topJ (fun v9 hv => ?_)
      replace H := H v9 hv
      refine rc_lstore_n [some (mvR 61), some (mvR e), some (mvI l2), some (mvJ v9), none, some (mvI l5), some (mvI l6), u7.map mvI] mq186 (mvDec_of cd186 rfl) rfl ?_
      refine rc_aload_n mq186 (mvDec_of cd186 rfl) rfl ?_
      refine rc_iload mq186 (mvDec_of cd186 rfl) rfl ?_
      refine rc_callV [mvR e, mvI l5] [] [some (mvR e), some (mvI l5), none, none] mq186 (mvDec_of cd186 rfl) lk_8_30 mq150 (by decide) rfl rfl (Nat.le_of_ble_eq_true rfl) (Nat.le_of_ble_eq_true rfl) (by decide) rfl (miE0 he) rfl (ri_bind H (fun r11 h10 H => ?_))
      refine rc_lload_n mq186 (mvDec_of cd186 rfl) rfl ?_
      refine rc_callS [mvI r11, mvJ v9] [] [some (mvI r11), some (mvJ v9), none, none, none, none, none] mq186 (mvDec_of cd186 rfl) lk_8_34 mq105 (by decide) rfl rfl (Nat.le_of_ble_eq_true rfl) (Nat.le_of_ble_eq_true rfl) (by decide) rfl (ri_bind H (fun r13 h12 H => ?_))
      refine rc_istore [some (mvR 61), some (mvR e), some (mvI l2), some (mvJ v9), none, some (mvI l5), some (mvI l6), some (mvI r13)] mq186 (mvDec_of cd186 rfl) rfl ?_
      refine rc_iload mq186 (mvDec_of cd186 rfl) rfl ?_
      refine rc_iconst mq186 (mvDec_of cd186 rfl) (by decide) ?_
      refine rc_icmp_ne (t := 60) mq186 (mvDec_of cd186 rfl) rfl (fun hc => ?_) (fun hc => ?_)
      · replace H := H.1 hc
        refine rc_aload_n mq186 (mvDec_of cd186 rfl) rfl ?_
        refine rc_getR 62 mq186 (mvDec_of cd186 rfl) fl_8_15 mis61 rfl (gr_61_1 hG) (by decide) ?_
        refine rc_iload mq186 (mvDec_of cd186 rfl) rfl ?_
        refine rc_iload mq186 (mvDec_of cd186 rfl) rfl ?_
        obtain ⟨⟨hb0, hb1⟩, H⟩ := H
        refine rc_iast mq186 (mvDec_of cd186 rfl) mis62 hb0 hb1 ?_
        refine rc_heap (fun h14 hh => ?_)
        replace H := H h14 hh
        refine rc_aload_n mq186 (mvDec_of cd186 rfl) rfl ?_
        refine rc_dup mq186 (mvDec_of cd186 rfl) rfl ?_
        refine rc_getI 0 mq186 (mvDec_of cd186 rfl) fl_8_9 mis61 rfl (by decide) (by decide) ?_
        refine rc_iconst mq186 (mvDec_of cd186 rfl) (by decide) ?_
        refine rc_iadd mq186 (mvDec_of cd186 rfl) ?_
        refine rc_putI 0 mq186 (mvDec_of cd186 rfl) fl_8_9 mis61 rfl (fun z => absurd z (by decide)) (Or.inl rfl) ?_
        refine rc_heap (fun h15 hh => ?_)
        replace H := H h15 hh
        refine rc_aload_n mq186 (mvDec_of cd186 rfl) rfl ?_
        refine rc_iload mq186 (mvDec_of cd186 rfl) rfl ?_
        refine rc_iload mq186 (mvDec_of cd186 rfl) rfl ?_
        refine rc_callV [mvR e, mvI l5, mvI r13] [] [some (mvR e), some (mvI l5), some (mvI r13)] mq186 (mvDec_of cd186 rfl) lk_8_38 mq24 (by decide) rfl rfl (Nat.le_of_ble_eq_true rfl) (Nat.le_of_ble_eq_true rfl) (by decide) rfl (miE0 he) rfl (ri_bind H (fun r17 h16 H => ?_))
        refine rc_istore [some (mvR 61), some (mvR e), some (mvI l2), some (mvJ v9), none, some (mvI r17), some (mvI l6), some (mvI r13)] mq186 (mvDec_of cd186 rfl) rfl ?_
        refine rc_iinc [some (mvR 61), some (mvR e), some (mvI l2), some (mvJ v9), none, some (mvI r17), some (mvI (mw (l6 + 1))), some (mvI r13)] mq186 (mvDec_of cd186 rfl) rfl rfl ?_
        refine rc_goto (t := 14) mq186 (mvDec_of cd186 rfl) rfl ?_
        exact H
      · replace H := H.2 hc
        exact rc_vret mq186 (mvDec_of cd186 rfl) ⟨_, rfl, rfl, H⟩
