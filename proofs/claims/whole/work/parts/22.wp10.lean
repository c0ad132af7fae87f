/-! out of the bytecode, by program: what suffices for a method (_wp), for a loop at its head (_place_wp) -/
abbrev SN_firstMarker (g : Nat → Nat → Nat) (h : Nat → Int → Int) (x1 : Int) (K : Int → (Nat → Int → Int) → Prop) : Prop := RI 36 0 [some (mvR 63), some (mvI x1), none] [] g h K
abbrev SN_firstMarker_2 (g : Nat → Nat → Nat) (h : Nat → Int → Int) (l1 : Int) (l2 : Int) (K : Int → (Nat → Int → Int) → Prop) : Prop := RI 36 2 [some (mvR 63), some (mvI l1), some (mvI l2)] [] g h K
theorem SN_firstMarker_wp {sw : Bool} {g : Nat → Nat → Nat} {h : Nat → Int → Int} {x1 : Int} {K : Int → (Nat → Int → Int) → Prop} (hG : Gok sw g)  (H :
  SN_firstMarker_2 g h x1 0 K) : SN_firstMarker g h x1 K := by
  refine rc_iconst mq36 (mvDec_of cd36 rfl) (by decide) ?_
  refine rc_istore_n [some (mvR 63), some (mvI x1), some (mvI 0)] mq36 (mvDec_of cd36 rfl) rfl ?_
  exact H
theorem SN_firstMarker_2_wp {sw : Bool} {g : Nat → Nat → Nat} {h : Nat → Int → Int} {l1 : Int} {l2 : Int} {K : Int → (Nat → Int → Int) → Prop} (hG : Gok sw g)  (H :
  ((16 ≤ l2 →
    K (-1) h) ∧
  (l2 < 16 →
    (0 ≤ l2 ∧ l2 < 16) ∧
    (((h 66 l2) = (-1) →
      SN_firstMarker_2 g h l1 (mw (l2 + 1)) K) ∧
    (¬ (h 66 l2) = (-1) →
      ((¬ l1 = 0 →
        K l2 h) ∧
      (l1 = 0 →
        (0 ≤ l2 ∧ l2 < 16) ∧
        (0 ≤ l2 ∧ l2 < 16) ∧
        (((h 65 l2) < (h 66 l2) →
          SN_firstMarker_2 g h l1 (mw (l2 + 1)) K) ∧
        ((h 66 l2) ≤ (h 65 l2) →
          K l2 h))))))))) : SN_firstMarker_2 g h l1 l2 K := by
  refine rc_iload_n mq36 (mvDec_of cd36 rfl) rfl ?_
  refine rc_bipush mq36 (mvDec_of cd36 rfl) (by decide) ?_
  refine rc_icmp_ge (t := 45) mq36 (mvDec_of cd36 rfl) rfl (fun hc => ?_) (fun hc => ?_)
  · replace H := H.1 hc
    refine rc_iconst mq36 (mvDec_of cd36 rfl) (by decide) ?_
    exact rc_iret mq36 (mvDec_of cd36 rfl) ⟨_, _, rfl, rfl, H⟩
  · replace H := H.2 hc
    refine rc_aload_n mq36 (mvDec_of cd36 rfl) rfl ?_
    refine rc_getR 66 mq36 (mvDec_of cd36 rfl) fl_9_18 mis63 rfl (gr_63_7 hG) (by decide) ?_
    refine rc_iload_n mq36 (mvDec_of cd36 rfl) rfl ?_
    obtain ⟨⟨hb0, hb1⟩, H⟩ := H
    refine rc_iald mq36 (mvDec_of cd36 rfl) mis66 hb0 hb1 ?_
    refine rc_iconst mq36 (mvDec_of cd36 rfl) (by decide) ?_
    refine rc_icmp_eq (t := 39) mq36 (mvDec_of cd36 rfl) rfl (fun hc => ?_) (fun hc => ?_)
    · replace H := H.1 hc
      refine rc_iinc [some (mvR 63), some (mvI l1), some (mvI (mw (l2 + 1)))] mq36 (mvDec_of cd36 rfl) rfl rfl ?_
      refine rc_goto (t := 2) mq36 (mvDec_of cd36 rfl) rfl ?_
      exact H
    · replace H := H.2 hc
      refine rc_iload_n mq36 (mvDec_of cd36 rfl) rfl ?_
      refine rc_if_ne (t := 37) mq36 (mvDec_of cd36 rfl) rfl (fun hc => ?_) (fun hc => ?_)
      · replace H := H.1 hc
        refine rc_iload_n mq36 (mvDec_of cd36 rfl) rfl ?_
        exact rc_iret mq36 (mvDec_of cd36 rfl) ⟨_, _, rfl, rfl, H⟩
      · replace H := H.2 hc
        refine rc_aload_n mq36 (mvDec_of cd36 rfl) rfl ?_
        refine rc_getR 65 mq36 (mvDec_of cd36 rfl) fl_9_15 mis63 rfl (gr_63_6 hG) (by decide) ?_
        refine rc_iload_n mq36 (mvDec_of cd36 rfl) rfl ?_
        obtain ⟨⟨hb0, hb1⟩, H⟩ := H
        refine rc_iald mq36 (mvDec_of cd36 rfl) mis65 hb0 hb1 ?_
        refine rc_aload_n mq36 (mvDec_of cd36 rfl) rfl ?_
        refine rc_getR 66 mq36 (mvDec_of cd36 rfl) fl_9_18 mis63 rfl (gr_63_7 hG) (by decide) ?_
        refine rc_iload_n mq36 (mvDec_of cd36 rfl) rfl ?_
        obtain ⟨⟨hb0, hb1⟩, H⟩ := H
        refine rc_iald mq36 (mvDec_of cd36 rfl) mis66 hb0 hb1 ?_
        refine rc_icmp_lt (t := 39) mq36 (mvDec_of cd36 rfl) rfl (fun hc => ?_) (fun hc => ?_)
        · replace H := H.1 hc
          refine rc_iinc [some (mvR 63), some (mvI l1), some (mvI (mw (l2 + 1)))] mq36 (mvDec_of cd36 rfl) rfl rfl ?_
          refine rc_goto (t := 2) mq36 (mvDec_of cd36 rfl) rfl ?_
          exact H
        · replace H := H.2 hc
          refine rc_iload_n mq36 (mvDec_of cd36 rfl) rfl ?_
          exact rc_iret mq36 (mvDec_of cd36 rfl) ⟨_, _, rfl, rfl, H⟩
abbrev SN_clear (g : Nat → Nat → Nat) (h : Nat → Int → Int)  (K : (Nat → Int → Int) → Prop) : Prop := RV 107 0 [some (mvR 63)] [] g h K
theorem SN_clear_wp {sw : Bool} {g : Nat → Nat → Nat} {h : Nat → Int → Int}  {K : (Nat → Int → Int) → Prop} (hG : Gok sw g)  (H :
  (∀ h1, h1 = mvUpd h 63 4 0 →
  (∀ h2, h2 = mvUpd h1 63 2 0 →
  (∀ h3, h3 = mvUpd h2 63 3 0 →
  AR_fill g h3 64 0 (fun h4 =>
    AR_fill g h4 65 0 (fun h5 =>
      AR_fill g h5 66 (-1) (fun h6 =>
        AR_fill g h6 67 (-1) (fun h7 =>
          K h7)))))))) : SN_clear g h  K := by
  refine rc_aload_n mq107 (mvDec_of cd107 rfl) rfl ?_
  refine rc_iconst mq107 (mvDec_of cd107 rfl) (by decide) ?_
  refine rc_putI 4 mq107 (mvDec_of cd107 rfl) fl_9_62 mis63 rfl (fun z => absurd z (by decide)) (Or.inl rfl) ?_
  refine rc_heap (fun h1 hh => ?_)
  replace H := H h1 hh
  refine rc_aload_n mq107 (mvDec_of cd107 rfl) rfl ?_
  refine rc_iconst mq107 (mvDec_of cd107 rfl) (by decide) ?_
  refine rc_putI 2 mq107 (mvDec_of cd107 rfl) fl_9_65 mis63 rfl (fun z => absurd z (by decide)) (Or.inl rfl) ?_
  refine rc_heap (fun h2 hh => ?_)
  replace H := H h2 hh
  refine rc_aload_n mq107 (mvDec_of cd107 rfl) rfl ?_
  refine rc_iconst mq107 (mvDec_of cd107 rfl) (by decide) ?_
  refine rc_putI 3 mq107 (mvDec_of cd107 rfl) fl_9_68 mis63 rfl (fun z => absurd z (by decide)) (Or.inl rfl) ?_
  refine rc_heap (fun h3 hh => ?_)
  replace H := H h3 hh
  refine rc_aload_n mq107 (mvDec_of cd107 rfl) rfl ?_
  refine rc_getR 64 mq107 (mvDec_of cd107 rfl) fl_9_9 mis63 rfl (gr_63_5 hG) (by decide) ?_
  refine rc_iconst mq107 (mvDec_of cd107 rfl) (by decide) ?_
  refine rc_callS [mvR 64, mvI 0] [] [some (mvR 64), some (mvI 0), none, none] mq107 (mvDec_of cd107 rfl) lk_9_71 mq65 (by decide) rfl rfl (Nat.le_of_ble_eq_true rfl) (Nat.le_of_ble_eq_true rfl) (by decide) rfl (rv_bind H (fun h4 H => ?_))
  refine rc_aload_n mq107 (mvDec_of cd107 rfl) rfl ?_
  refine rc_getR 65 mq107 (mvDec_of cd107 rfl) fl_9_15 mis63 rfl (gr_63_6 hG) (by decide) ?_
  refine rc_iconst mq107 (mvDec_of cd107 rfl) (by decide) ?_
  refine rc_callS [mvR 65, mvI 0] [] [some (mvR 65), some (mvI 0), none, none] mq107 (mvDec_of cd107 rfl) lk_9_71 mq65 (by decide) rfl rfl (Nat.le_of_ble_eq_true rfl) (Nat.le_of_ble_eq_true rfl) (by decide) rfl (rv_bind H (fun h5 H => ?_))
  refine rc_aload_n mq107 (mvDec_of cd107 rfl) rfl ?_
  refine rc_getR 66 mq107 (mvDec_of cd107 rfl) fl_9_18 mis63 rfl (gr_63_7 hG) (by decide) ?_
  refine rc_iconst mq107 (mvDec_of cd107 rfl) (by decide) ?_
  refine rc_callS [mvR 66, mvI (-1)] [] [some (mvR 66), some (mvI (-1)), none, none] mq107 (mvDec_of cd107 rfl) lk_9_71 mq65 (by decide) rfl rfl (Nat.le_of_ble_eq_true rfl) (Nat.le_of_ble_eq_true rfl) (by decide) rfl (rv_bind H (fun h6 H => ?_))
  refine rc_aload_n mq107 (mvDec_of cd107 rfl) rfl ?_
  refine rc_getR 67 mq107 (mvDec_of cd107 rfl) fl_9_21 mis63 rfl (gr_63_8 hG) (by decide) ?_
  refine rc_iconst mq107 (mvDec_of cd107 rfl) (by decide) ?_
  refine rc_callS [mvR 67, mvI (-1)] [] [some (mvR 67), some (mvI (-1)), none, none] mq107 (mvDec_of cd107 rfl) lk_9_71 mq65 (by decide) rfl rfl (Nat.le_of_ble_eq_true rfl) (Nat.le_of_ble_eq_true rfl) (by decide) rfl (rv_bind H (fun h7 H => ?_))
  exact rc_vret mq107 (mvDec_of cd107 rfl) ⟨_, rfl, rfl, H⟩
abbrev SN_pass (g : Nat → Nat → Nat) (h : Nat → Int → Int) (e : Nat) (x2 : Int) (K : (Nat → Int → Int) → Prop) : Prop := RV 108 0 [some (mvR 63), some (mvR e), some (mvI x2), none, none, none] [] g h K
theorem SN_pass_wp {sw : Bool} {g : Nat → Nat → Nat} {h : Nat → Int → Int} {e : Nat} {x2 : Int} {K : (Nat → Int → Int) → Prop} (hG : Gok sw g) (he : EvId e) (H :
  EV_countIn g h e (h 63 4) x2 (fun r2 h1 =>
    (0 ≤ (mw ((mw (x2 * 9)) + r2)) ∧ (mw ((mw (x2 * 9)) + r2)) < 36) ∧
    (∀ v3, v3 = (h1 (e + 2) (mw ((mw (x2 * 9)) + r2))) →
    (0 ≤ (mw ((mw (x2 * 9)) + r2)) ∧ (mw ((mw (x2 * 9)) + r2)) < 36) ∧
    (∀ v4, v4 = (h1 (e + 3) (mw ((mw (x2 * 9)) + r2))) →
    ((¬ v3 = 1 →
      ((¬ v3 = 2 →
        EV_with g h1 e (h1 63 4) x2 (fun r6 h5 =>
          (∀ h7, h7 = mvUpd h5 63 4 r6 →
          K h7))) ∧
      (v3 = 2 →
        (0 ≤ (mw ((mw (v4 * 4)) + x2)) ∧ (mw ((mw (v4 * 4)) + x2)) < 16) ∧
        (0 ≤ (mw ((mw (v4 * 4)) + x2)) ∧ (mw ((mw (v4 * 4)) + x2)) < 16) ∧
        (∀ h8, h8 = mvUpd h1 65 (mw ((mw (v4 * 4)) + x2)) (mw ((h1 65 (mw ((mw (v4 * 4)) + x2))) + 1)) →
        EV_with g h8 e (h8 63 4) x2 (fun r10 h9 =>
          (∀ h11, h11 = mvUpd h9 63 4 r10 →
          K h11)))))) ∧
    (v3 = 1 →
      (0 ≤ (mw ((mw (x2 * 4)) + v4)) ∧ (mw ((mw (x2 * 4)) + v4)) < 16) ∧
      (0 ≤ (mw ((mw (x2 * 4)) + v4)) ∧ (mw ((mw (x2 * 4)) + v4)) < 16) ∧
      (∀ h12, h12 = mvUpd h1 64 (mw ((mw (x2 * 4)) + v4)) (mw ((h1 64 (mw ((mw (x2 * 4)) + v4))) + 1)) →
      ((¬ v3 = 2 →
        EV_with g h12 e (h12 63 4) x2 (fun r14 h13 =>
          (∀ h15, h15 = mvUpd h13 63 4 r14 →
          K h15))) ∧
      (v3 = 2 →
        (0 ≤ (mw ((mw (v4 * 4)) + x2)) ∧ (mw ((mw (v4 * 4)) + x2)) < 16) ∧
        (0 ≤ (mw ((mw (v4 * 4)) + x2)) ∧ (mw ((mw (v4 * 4)) + x2)) < 16) ∧
        (∀ h16, h16 = mvUpd h12 65 (mw ((mw (v4 * 4)) + x2)) (mw ((h12 65 (mw ((mw (v4 * 4)) + x2))) + 1)) →
        EV_with g h16 e (h16 63 4) x2 (fun r18 h17 =>
          (∀ h19, h19 = mvUpd h17 63 4 r18 →
          K h19)))))))))))) : SN_pass g h e x2 K := by
  refine rc_aload_n mq108 (mvDec_of cd108 rfl) rfl ?_
  refine rc_aload_n mq108 (mvDec_of cd108 rfl) rfl ?_
  refine rc_getI 4 mq108 (mvDec_of cd108 rfl) fl_9_62 mis63 rfl (by decide) (by decide) ?_
  refine rc_iload_n mq108 (mvDec_of cd108 rfl) rfl ?_
  refine rc_callV [mvR e, mvI (h 63 4), mvI x2] [] [some (mvR e), some (mvI (h 63 4)), some (mvI x2)] mq108 (mvDec_of cd108 rfl) lk_9_77 mq23 (by decide) rfl rfl (Nat.le_of_ble_eq_true rfl) (Nat.le_of_ble_eq_true rfl) (by decide) rfl (miE0 he) rfl (ri_bind H (fun r2 h1 H => ?_))
  refine rc_istore_n [some (mvR 63), some (mvR e), some (mvI x2), some (mvI r2), none, none] mq108 (mvDec_of cd108 rfl) rfl ?_
  refine rc_aload_n mq108 (mvDec_of cd108 rfl) rfl ?_
  refine rc_iload_n mq108 (mvDec_of cd108 rfl) rfl ?_
  refine rc_iload_n mq108 (mvDec_of cd108 rfl) rfl ?_
  refine rc_callV [mvR e, mvI x2, mvI r2] [] [some (mvR e), some (mvI x2), some (mvI r2)] mq108 (mvDec_of cd108 rfl) lk_9_81 mq16 (by decide) rfl rfl (Nat.le_of_ble_eq_true rfl) (Nat.le_of_ble_eq_true rfl) (by decide) rfl (miE0 he) rfl ?_
  refine rc_aload_n mq16 (mvDec_of cd16 rfl) rfl ?_
  refine rc_getR (e + 2) mq16 (mvDec_of cd16 rfl) fl_2_15 (miE0 he) rfl (mgE3 he hG) (Nat.succ_ne_zero _) ?_
  refine rc_iload_n mq16 (mvDec_of cd16 rfl) rfl ?_
  refine rc_bipush mq16 (mvDec_of cd16 rfl) (by decide) ?_
  refine rc_imul mq16 (mvDec_of cd16 rfl) ?_
  refine rc_iload_n mq16 (mvDec_of cd16 rfl) rfl ?_
  refine rc_iadd mq16 (mvDec_of cd16 rfl) ?_
  obtain ⟨⟨hb0, hb1⟩, H⟩ := H
  refine rc_iald mq16 (mvDec_of cd16 rfl) (miE2 he) hb0 hb1 ?_
  refine rc_iret mq16 (mvDec_of cd16 rfl) ?_
  show Rch 108 16 [some (mvR 63), some (mvR e), some (mvI x2), some (mvI r2), none, none] [mvI (h1 (e + 2) (mw ((mw (x2 * 9)) + r2)))] (97, g, h1) _
  refine rc_top (fun v3 hv => ?_)
  replace H := H v3 hv
  refine rc_istore [some (mvR 63), some (mvR e), some (mvI x2), some (mvI r2), some (mvI v3), none] mq108 (mvDec_of cd108 rfl) rfl ?_
  refine rc_aload_n mq108 (mvDec_of cd108 rfl) rfl ?_
  refine rc_iload_n mq108 (mvDec_of cd108 rfl) rfl ?_
  refine rc_iload_n mq108 (mvDec_of cd108 rfl) rfl ?_
  refine rc_callV [mvR e, mvI x2, mvI r2] [] [some (mvR e), some (mvI x2), some (mvI r2)] mq108 (mvDec_of cd108 rfl) lk_9_84 mq17 (by decide) rfl rfl (Nat.le_of_ble_eq_true rfl) (Nat.le_of_ble_eq_true rfl) (by decide) rfl (miE0 he) rfl ?_
  refine rc_aload_n mq17 (mvDec_of cd17 rfl) rfl ?_
  refine rc_getR (e + 3) mq17 (mvDec_of cd17 rfl) fl_2_18 (miE0 he) rfl (mgE4 he hG) (Nat.succ_ne_zero _) ?_
  refine rc_iload_n mq17 (mvDec_of cd17 rfl) rfl ?_
  refine rc_bipush mq17 (mvDec_of cd17 rfl) (by decide) ?_
  refine rc_imul mq17 (mvDec_of cd17 rfl) ?_
  refine rc_iload_n mq17 (mvDec_of cd17 rfl) rfl ?_
  refine rc_iadd mq17 (mvDec_of cd17 rfl) ?_
  obtain ⟨⟨hb0, hb1⟩, H⟩ := H
  refine rc_iald mq17 (mvDec_of cd17 rfl) (miE3 he) hb0 hb1 ?_
  refine rc_iret mq17 (mvDec_of cd17 rfl) ?_
  show Rch 108 24 [some (mvR 63), some (mvR e), some (mvI x2), some (mvI r2), some (mvI v3), none] [mvI (h1 (e + 3) (mw ((mw (x2 * 9)) + r2)))] (97, g, h1) _
  refine rc_top (fun v4 hv => ?_)
  replace H := H v4 hv
  refine rc_istore [some (mvR 63), some (mvR e), some (mvI x2), some (mvI r2), some (mvI v3), some (mvI v4)] mq108 (mvDec_of cd108 rfl) rfl ?_
  refine rc_iload mq108 (mvDec_of cd108 rfl) rfl ?_
  refine rc_iconst mq108 (mvDec_of cd108 rfl) (by decide) ?_
  refine rc_icmp_ne (t := 47) mq108 (mvDec_of cd108 rfl) rfl (fun hc => ?_) (fun hc => ?_)
  · replace H := H.1 hc
    refine rc_iload mq108 (mvDec_of cd108 rfl) rfl ?_
    refine rc_iconst mq108 (mvDec_of cd108 rfl) (by decide) ?_
    refine rc_icmp_ne (t := 68) mq108 (mvDec_of cd108 rfl) rfl (fun hc => ?_) (fun hc => ?_)
    · replace H := H.1 hc
      refine rc_aload_n mq108 (mvDec_of cd108 rfl) rfl ?_
      refine rc_aload_n mq108 (mvDec_of cd108 rfl) rfl ?_
      refine rc_aload_n mq108 (mvDec_of cd108 rfl) rfl ?_
      refine rc_getI 4 mq108 (mvDec_of cd108 rfl) fl_9_62 mis63 rfl (by decide) (by decide) ?_
      refine rc_iload_n mq108 (mvDec_of cd108 rfl) rfl ?_
      refine rc_callV [mvR e, mvI (h1 63 4), mvI x2] [mvR 63] [some (mvR e), some (mvI (h1 63 4)), some (mvI x2)] mq108 (mvDec_of cd108 rfl) lk_9_87 mq24 (by decide) rfl rfl (Nat.le_of_ble_eq_true rfl) (Nat.le_of_ble_eq_true rfl) (by decide) rfl (miE0 he) rfl (ri_bind H (fun r6 h5 H => ?_))
      refine rc_putI 4 mq108 (mvDec_of cd108 rfl) fl_9_62 mis63 rfl (fun z => absurd z (by decide)) (Or.inl rfl) ?_
      refine rc_heap (fun h7 hh => ?_)
      replace H := H h7 hh
      exact rc_vret mq108 (mvDec_of cd108 rfl) ⟨_, rfl, rfl, H⟩
    · replace H := H.2 hc
      refine rc_aload_n mq108 (mvDec_of cd108 rfl) rfl ?_
      refine rc_getR 65 mq108 (mvDec_of cd108 rfl) fl_9_15 mis63 rfl (gr_63_6 hG) (by decide) ?_
      refine rc_iload mq108 (mvDec_of cd108 rfl) rfl ?_
      refine rc_iconst mq108 (mvDec_of cd108 rfl) (by decide) ?_
      refine rc_imul mq108 (mvDec_of cd108 rfl) ?_
      refine rc_iload_n mq108 (mvDec_of cd108 rfl) rfl ?_
      refine rc_iadd mq108 (mvDec_of cd108 rfl) ?_
      refine rc_dup2 mq108 (mvDec_of cd108 rfl) rfl rfl ?_
      obtain ⟨⟨hb0, hb1⟩, H⟩ := H
      refine rc_iald mq108 (mvDec_of cd108 rfl) mis65 hb0 hb1 ?_
      refine rc_iconst mq108 (mvDec_of cd108 rfl) (by decide) ?_
      refine rc_iadd mq108 (mvDec_of cd108 rfl) ?_
      obtain ⟨⟨hb0, hb1⟩, H⟩ := H
      refine rc_iast mq108 (mvDec_of cd108 rfl) mis65 hb0 hb1 ?_
      refine rc_heap (fun h8 hh => ?_)
      replace H := H h8 hh
      refine rc_aload_n mq108 (mvDec_of cd108 rfl) rfl ?_
      refine rc_aload_n mq108 (mvDec_of cd108 rfl) rfl ?_
      refine rc_aload_n mq108 (mvDec_of cd108 rfl) rfl ?_
      refine rc_getI 4 mq108 (mvDec_of cd108 rfl) fl_9_62 mis63 rfl (by decide) (by decide) ?_
      refine rc_iload_n mq108 (mvDec_of cd108 rfl) rfl ?_
      refine rc_callV [mvR e, mvI (h8 63 4), mvI x2] [mvR 63] [some (mvR e), some (mvI (h8 63 4)), some (mvI x2)] mq108 (mvDec_of cd108 rfl) lk_9_87 mq24 (by decide) rfl rfl (Nat.le_of_ble_eq_true rfl) (Nat.le_of_ble_eq_true rfl) (by decide) rfl (miE0 he) rfl (ri_bind H (fun r10 h9 H => ?_))
      refine rc_putI 4 mq108 (mvDec_of cd108 rfl) fl_9_62 mis63 rfl (fun z => absurd z (by decide)) (Or.inl rfl) ?_
      refine rc_heap (fun h11 hh => ?_)
      replace H := H h11 hh
      exact rc_vret mq108 (mvDec_of cd108 rfl) ⟨_, rfl, rfl, H⟩
  · replace H := H.2 hc
    refine rc_aload_n mq108 (mvDec_of cd108 rfl) rfl ?_
    refine rc_getR 64 mq108 (mvDec_of cd108 rfl) fl_9_9 mis63 rfl (gr_63_5 hG) (by decide) ?_
    refine rc_iload_n mq108 (mvDec_of cd108 rfl) rfl ?_
    refine rc_iconst mq108 (mvDec_of cd108 rfl) (by decide) ?_
    refine rc_imul mq108 (mvDec_of cd108 rfl) ?_
    refine rc_iload mq108 (mvDec_of cd108 rfl) rfl ?_
    refine rc_iadd mq108 (mvDec_of cd108 rfl) ?_
    refine rc_dup2 mq108 (mvDec_of cd108 rfl) rfl rfl ?_
    obtain ⟨⟨hb0, hb1⟩, H⟩ := H
    refine rc_iald mq108 (mvDec_of cd108 rfl) mis64 hb0 hb1 ?_
    refine rc_iconst mq108 (mvDec_of cd108 rfl) (by decide) ?_
    refine rc_iadd mq108 (mvDec_of cd108 rfl) ?_
    obtain ⟨⟨hb0, hb1⟩, H⟩ := H
    refine rc_iast mq108 (mvDec_of cd108 rfl) mis64 hb0 hb1 ?_
    refine rc_heap (fun h12 hh => ?_)
    replace H := H h12 hh
    refine rc_iload mq108 (mvDec_of cd108 rfl) rfl ?_
    refine rc_iconst mq108 (mvDec_of cd108 rfl) (by decide) ?_
    refine rc_icmp_ne (t := 68) mq108 (mvDec_of cd108 rfl) rfl (fun hc => ?_) (fun hc => ?_)
    · replace H := H.1 hc
      refine rc_aload_n mq108 (mvDec_of cd108 rfl) rfl ?_
      refine rc_aload_n mq108 (mvDec_of cd108 rfl) rfl ?_
      refine rc_aload_n mq108 (mvDec_of cd108 rfl) rfl ?_
      refine rc_getI 4 mq108 (mvDec_of cd108 rfl) fl_9_62 mis63 rfl (by decide) (by decide) ?_
      refine rc_iload_n mq108 (mvDec_of cd108 rfl) rfl ?_
      refine rc_callV [mvR e, mvI (h12 63 4), mvI x2] [mvR 63] [some (mvR e), some (mvI (h12 63 4)), some (mvI x2)] mq108 (mvDec_of cd108 rfl) lk_9_87 mq24 (by decide) rfl rfl (Nat.le_of_ble_eq_true rfl) (Nat.le_of_ble_eq_true rfl) (by decide) rfl (miE0 he) rfl (ri_bind H (fun r14 h13 H => ?_))
      refine rc_putI 4 mq108 (mvDec_of cd108 rfl) fl_9_62 mis63 rfl (fun z => absurd z (by decide)) (Or.inl rfl) ?_
      refine rc_heap (fun h15 hh => ?_)
      replace H := H h15 hh
      exact rc_vret mq108 (mvDec_of cd108 rfl) ⟨_, rfl, rfl, H⟩
    · replace H := H.2 hc
      refine rc_aload_n mq108 (mvDec_of cd108 rfl) rfl ?_
      refine rc_getR 65 mq108 (mvDec_of cd108 rfl) fl_9_15 mis63 rfl (gr_63_6 hG) (by decide) ?_
      refine rc_iload mq108 (mvDec_of cd108 rfl) rfl ?_
      refine rc_iconst mq108 (mvDec_of cd108 rfl) (by decide) ?_
      refine rc_imul mq108 (mvDec_of cd108 rfl) ?_
      refine rc_iload_n mq108 (mvDec_of cd108 rfl) rfl ?_
      refine rc_iadd mq108 (mvDec_of cd108 rfl) ?_
      refine rc_dup2 mq108 (mvDec_of cd108 rfl) rfl rfl ?_
      obtain ⟨⟨hb0, hb1⟩, H⟩ := H
      refine rc_iald mq108 (mvDec_of cd108 rfl) mis65 hb0 hb1 ?_
      refine rc_iconst mq108 (mvDec_of cd108 rfl) (by decide) ?_
      refine rc_iadd mq108 (mvDec_of cd108 rfl) ?_
      obtain ⟨⟨hb0, hb1⟩, H⟩ := H
      refine rc_iast mq108 (mvDec_of cd108 rfl) mis65 hb0 hb1 ?_
      refine rc_heap (fun h16 hh => ?_)
      replace H := H h16 hh
      refine rc_aload_n mq108 (mvDec_of cd108 rfl) rfl ?_
      refine rc_aload_n mq108 (mvDec_of cd108 rfl) rfl ?_
      refine rc_aload_n mq108 (mvDec_of cd108 rfl) rfl ?_
      refine rc_getI 4 mq108 (mvDec_of cd108 rfl) fl_9_62 mis63 rfl (by decide) (by decide) ?_
      refine rc_iload_n mq108 (mvDec_of cd108 rfl) rfl ?_
      refine rc_callV [mvR e, mvI (h16 63 4), mvI x2] [mvR 63] [some (mvR e), some (mvI (h16 63 4)), some (mvI x2)] mq108 (mvDec_of cd108 rfl) lk_9_87 mq24 (by decide) rfl rfl (Nat.le_of_ble_eq_true rfl) (Nat.le_of_ble_eq_true rfl) (by decide) rfl (miE0 he) rfl (ri_bind H (fun r18 h17 H => ?_))
      refine rc_putI 4 mq108 (mvDec_of cd108 rfl) fl_9_62 mis63 rfl (fun z => absurd z (by decide)) (Or.inl rfl) ?_
      refine rc_heap (fun h19 hh => ?_)
      replace H := H h19 hh
      exact rc_vret mq108 (mvDec_of cd108 rfl) ⟨_, rfl, rfl, H⟩
abbrev SN_note (g : Nat → Nat → Nat) (h : Nat → Int → Int) (e : Nat) (x2 : Int) (K : (Nat → Int → Int) → Prop) : Prop := RV 109 0 [some (mvR 63), some (mvR e), some (mvI x2), none, none] [] g h K
abbrev SN_note_39 (g : Nat → Nat → Nat) (h : Nat → Int → Int) (e : Nat) (l2 : Int) (l3 : Int) (u4 : Option Int) (K : (Nat → Int → Int) → Prop) : Prop := RV 109 39 [some (mvR 63), some (mvR e), some (mvI l2), some (mvI l3), u4.map mvI] [] g h K
theorem SN_note_wp {sw : Bool} {g : Nat → Nat → Nat} {h : Nat → Int → Int} {e : Nat} {x2 : Int} {K : (Nat → Int → Int) → Prop} (hG : Gok sw g) (he : EvId e) (H :
  (0 ≤ x2 ∧ x2 < 4) ∧
  (((h 67 x2) = (-1) →
    EV_countIn g h e (h 63 4) x2 (fun r2 h1 =>
      (0 ≤ x2 ∧ x2 < 4) ∧
      (∀ h3, h3 = mvUpd h1 67 x2 r2 →
      RC_levelOf g h3 (h3 63 4) (fun r5 h4 =>
        (∀ h6, h6 = mvUpd h4 63 3 r5 →
        SN_note_39 g h6 e x2 0 none K))))) ∧
  (¬ (h 67 x2) = (-1) →
    K h))) : SN_note g h e x2 K := by
  refine rc_aload_n mq109 (mvDec_of cd109 rfl) rfl ?_
  refine rc_getR 67 mq109 (mvDec_of cd109 rfl) fl_9_21 mis63 rfl (gr_63_8 hG) (by decide) ?_
  refine rc_iload_n mq109 (mvDec_of cd109 rfl) rfl ?_
  obtain ⟨⟨hb0, hb1⟩, H⟩ := H
  refine rc_iald mq109 (mvDec_of cd109 rfl) mis67 hb0 hb1 ?_
  refine rc_iconst mq109 (mvDec_of cd109 rfl) (by decide) ?_
  refine rc_icmp_eq (t := 11) mq109 (mvDec_of cd109 rfl) rfl (fun hc => ?_) (fun hc => ?_)
  · replace H := H.1 hc
    refine rc_aload_n mq109 (mvDec_of cd109 rfl) rfl ?_
    refine rc_getR 67 mq109 (mvDec_of cd109 rfl) fl_9_21 mis63 rfl (gr_63_8 hG) (by decide) ?_
    refine rc_iload_n mq109 (mvDec_of cd109 rfl) rfl ?_
    refine rc_aload_n mq109 (mvDec_of cd109 rfl) rfl ?_
    refine rc_aload_n mq109 (mvDec_of cd109 rfl) rfl ?_
    refine rc_getI 4 mq109 (mvDec_of cd109 rfl) fl_9_62 mis63 rfl (by decide) (by decide) ?_
    refine rc_iload_n mq109 (mvDec_of cd109 rfl) rfl ?_
    refine rc_callV [mvR e, mvI (h 63 4), mvI x2] [mvI x2, mvR 67] [some (mvR e), some (mvI (h 63 4)), some (mvI x2)] mq109 (mvDec_of cd109 rfl) lk_9_77 mq23 (by decide) rfl rfl (Nat.le_of_ble_eq_true rfl) (Nat.le_of_ble_eq_true rfl) (by decide) rfl (miE0 he) rfl (ri_bind H (fun r2 h1 H => ?_))
    obtain ⟨⟨hb0, hb1⟩, H⟩ := H
    refine rc_iast mq109 (mvDec_of cd109 rfl) mis67 hb0 hb1 ?_
    refine rc_heap (fun h3 hh => ?_)
    replace H := H h3 hh
    refine rc_aload_n mq109 (mvDec_of cd109 rfl) rfl ?_
    refine rc_aload_n mq109 (mvDec_of cd109 rfl) rfl ?_
    refine rc_getI 4 mq109 (mvDec_of cd109 rfl) fl_9_62 mis63 rfl (by decide) (by decide) ?_
    refine rc_callSN [mvI (h3 63 4)] [mvR 63] [some (mvI (h3 63 4))] mq109 (mvDec_of cd109 rfl) lk_9_90 mq4 (by decide) rfl rfl (Nat.le_of_ble_eq_true rfl) (Nat.le_of_ble_eq_true rfl) (by decide) rfl (ri_bind H (fun r5 h4 H => ?_))
    refine rc_putI 3 mq109 (mvDec_of cd109 rfl) fl_9_68 mis63 rfl (fun z => absurd z (by decide)) (Or.inl rfl) ?_
    refine rc_heap (fun h6 hh => ?_)
    replace H := H h6 hh
    refine rc_iconst mq109 (mvDec_of cd109 rfl) (by decide) ?_
    refine rc_istore_n [some (mvR 63), some (mvR e), some (mvI x2), some (mvI 0), none] mq109 (mvDec_of cd109 rfl) rfl ?_
    exact H
  · replace H := H.2 hc
    exact rc_vret mq109 (mvDec_of cd109 rfl) ⟨_, rfl, rfl, H⟩
theorem SN_note_39_wp {sw : Bool} {g : Nat → Nat → Nat} {h : Nat → Int → Int} {e : Nat} {l2 : Int} {l3 : Int} {u4 : Option Int} {K : (Nat → Int → Int) → Prop} (hG : Gok sw g) (he : EvId e) (H :
  (((h e 0) ≤ l3 →
    K h) ∧
  (l3 < (h e 0) →
    (∀ v1, v1 = (mw ((mw (l2 * 4)) + l3)) →
    ((l3 = l2 →
      SN_note_39 g h e l2 (mw (l3 + 1)) (some v1) K) ∧
    (¬ l3 = l2 →
      (0 ≤ v1 ∧ v1 < 16) ∧
      (0 ≤ v1 ∧ v1 < 16) ∧
      (∀ h2, h2 = mvUpd h 66 v1 (h 64 v1) →
      SN_note_39 g h2 e l2 (mw (l3 + 1)) (some v1) K))))))) : SN_note_39 g h e l2 l3 u4 K := by
  refine rc_iload_n mq109 (mvDec_of cd109 rfl) rfl ?_
  refine rc_aload_n mq109 (mvDec_of cd109 rfl) rfl ?_
  refine rc_getI 0 mq109 (mvDec_of cd109 rfl) fl_9_53 (miE0 he) rfl (by decide) (by decide) ?_
  refine rc_icmp_ge (t := 79) mq109 (mvDec_of cd109 rfl) rfl (fun hc => ?_) (fun hc => ?_)
  · replace H := H.1 hc
    exact rc_vret mq109 (mvDec_of cd109 rfl) ⟨_, rfl, rfl, H⟩
  · replace H := H.2 hc
    refine rc_iload_n mq109 (mvDec_of cd109 rfl) rfl ?_
    refine rc_iconst mq109 (mvDec_of cd109 rfl) (by decide) ?_
    refine rc_imul mq109 (mvDec_of cd109 rfl) ?_
    refine rc_iload_n mq109 (mvDec_of cd109 rfl) rfl ?_
    refine rc_iadd mq109 (mvDec_of cd109 rfl) ?_
    refine rc_top (fun v1 hv => ?_)
    replace H := H v1 hv
    refine rc_istore [some (mvR 63), some (mvR e), some (mvI l2), some (mvI l3), some (mvI v1)] mq109 (mvDec_of cd109 rfl) rfl ?_
    refine rc_iload_n mq109 (mvDec_of cd109 rfl) rfl ?_
    refine rc_iload_n mq109 (mvDec_of cd109 rfl) rfl ?_
    refine rc_icmp_eq (t := 73) mq109 (mvDec_of cd109 rfl) rfl (fun hc => ?_) (fun hc => ?_)
    · replace H := H.1 hc
      refine rc_iinc [some (mvR 63), some (mvR e), some (mvI l2), some (mvI (mw (l3 + 1))), some (mvI v1)] mq109 (mvDec_of cd109 rfl) rfl rfl ?_
      refine rc_goto (t := 39) mq109 (mvDec_of cd109 rfl) rfl ?_
      exact H
    · replace H := H.2 hc
      refine rc_aload_n mq109 (mvDec_of cd109 rfl) rfl ?_
      refine rc_getR 66 mq109 (mvDec_of cd109 rfl) fl_9_18 mis63 rfl (gr_63_7 hG) (by decide) ?_
      refine rc_iload mq109 (mvDec_of cd109 rfl) rfl ?_
      refine rc_aload_n mq109 (mvDec_of cd109 rfl) rfl ?_
      refine rc_getR 64 mq109 (mvDec_of cd109 rfl) fl_9_9 mis63 rfl (gr_63_5 hG) (by decide) ?_
      refine rc_iload mq109 (mvDec_of cd109 rfl) rfl ?_
      obtain ⟨⟨hb0, hb1⟩, H⟩ := H
      refine rc_iald mq109 (mvDec_of cd109 rfl) mis64 hb0 hb1 ?_
      obtain ⟨⟨hb0, hb1⟩, H⟩ := H
      refine rc_iast mq109 (mvDec_of cd109 rfl) mis66 hb0 hb1 ?_
      refine rc_heap (fun h2 hh => ?_)
      replace H := H h2 hh
      refine rc_iinc [some (mvR 63), some (mvR e), some (mvI l2), some (mvI (mw (l3 + 1))), some (mvI v1)] mq109 (mvDec_of cd109 rfl) rfl rfl ?_
      refine rc_goto (t := 39) mq109 (mvDec_of cd109 rfl) rfl ?_
      exact H
abbrev SN_deliver (g : Nat → Nat → Nat) (h : Nat → Int → Int) (e : Nat) (K : (Nat → Int → Int) → Prop) : Prop := RV 187 0 [some (mvR 63), some (mvR e), none, none] [] g h K
abbrev SN_deliver_2 (g : Nat → Nat → Nat) (h : Nat → Int → Int) (e : Nat) (l2 : Int) (u3 : Option Int) (K : (Nat → Int → Int) → Prop) : Prop := RV 187 2 [some (mvR 63), some (mvR e), some (mvI l2), u3.map mvI] [] g h K
theorem SN_deliver_wp {sw : Bool} {g : Nat → Nat → Nat} {h : Nat → Int → Int} {e : Nat} {K : (Nat → Int → Int) → Prop} (hG : Gok sw g) (he : EvId e) (H :
  SN_deliver_2 g h e 0 none K) : SN_deliver g h e K := by
  refine rc_iconst mq187 (mvDec_of cd187 rfl) (by decide) ?_
  refine rc_istore_n [some (mvR 63), some (mvR e), some (mvI 0), none] mq187 (mvDec_of cd187 rfl) rfl ?_
  exact H
theorem SN_deliver_2_wp {sw : Bool} {g : Nat → Nat → Nat} {h : Nat → Int → Int} {e : Nat} {l2 : Int} {u3 : Option Int} {K : (Nat → Int → Int) → Prop} (hG : Gok sw g) (he : EvId e) (H :
  ((16 ≤ l2 →
    K h) ∧
  (l2 < 16 →
    SN_firstMarker g h 0 (fun r2 h1 =>
      ((¬ r2 = (-1) →
        (0 ≤ r2 ∧ r2 < 16) ∧
        (∀ h3, h3 = mvUpd h1 66 r2 (-1) →
        SN_note g h3 e (r2.tmod 4) (fun h4 =>
          SN_deliver_2 g h4 e (mw (l2 + 1)) (some r2) K))) ∧
      (r2 = (-1) →
        K h1)))))) : SN_deliver_2 g h e l2 u3 K := by
  refine rc_iload_n mq187 (mvDec_of cd187 rfl) rfl ?_
  refine rc_bipush mq187 (mvDec_of cd187 rfl) (by decide) ?_
  refine rc_icmp_ge (t := 32) mq187 (mvDec_of cd187 rfl) rfl (fun hc => ?_) (fun hc => ?_)
  · replace H := H.1 hc
    exact rc_vret mq187 (mvDec_of cd187 rfl) ⟨_, rfl, rfl, H⟩
  · replace H := H.2 hc
    refine rc_aload_n mq187 (mvDec_of cd187 rfl) rfl ?_
    refine rc_iconst mq187 (mvDec_of cd187 rfl) (by decide) ?_
    refine rc_callV [mvR 63, mvI 0] [] [some (mvR 63), some (mvI 0), none] mq187 (mvDec_of cd187 rfl) lk_9_94 mq36 (by decide) rfl rfl (Nat.le_of_ble_eq_true rfl) (Nat.le_of_ble_eq_true rfl) (by decide) rfl mis63 rfl (ri_bind H (fun r2 h1 H => ?_))
    refine rc_istore_n [some (mvR 63), some (mvR e), some (mvI l2), some (mvI r2)] mq187 (mvDec_of cd187 rfl) rfl ?_
    refine rc_iload_n mq187 (mvDec_of cd187 rfl) rfl ?_
    refine rc_iconst mq187 (mvDec_of cd187 rfl) (by decide) ?_
    refine rc_icmp_ne (t := 20) mq187 (mvDec_of cd187 rfl) rfl (fun hc => ?_) (fun hc => ?_)
    · replace H := H.1 hc
      refine rc_aload_n mq187 (mvDec_of cd187 rfl) rfl ?_
      refine rc_aload_n mq187 (mvDec_of cd187 rfl) rfl ?_
      refine rc_iload_n mq187 (mvDec_of cd187 rfl) rfl ?_
      refine rc_callV [mvR 63, mvR e, mvI r2] [] [some (mvR 63), some (mvR e), some (mvI r2)] mq187 (mvDec_of cd187 rfl) lk_9_98 mq158 (by decide) rfl rfl (Nat.le_of_ble_eq_true rfl) (Nat.le_of_ble_eq_true rfl) (by decide) rfl mis63 rfl ?_
      refine rc_aload_n mq158 (mvDec_of cd158 rfl) rfl ?_
      refine rc_getR 66 mq158 (mvDec_of cd158 rfl) fl_9_18 mis63 rfl (gr_63_7 hG) (by decide) ?_
      refine rc_iload_n mq158 (mvDec_of cd158 rfl) rfl ?_
      refine rc_iconst mq158 (mvDec_of cd158 rfl) (by decide) ?_
      obtain ⟨⟨hb0, hb1⟩, H⟩ := H
      refine rc_iast mq158 (mvDec_of cd158 rfl) mis66 hb0 hb1 ?_
      refine rc_heap (fun h3 hh => ?_)
      replace H := H h3 hh
      refine rc_aload_n mq158 (mvDec_of cd158 rfl) rfl ?_
      refine rc_aload_n mq158 (mvDec_of cd158 rfl) rfl ?_
      refine rc_iload_n mq158 (mvDec_of cd158 rfl) rfl ?_
      refine rc_iconst mq158 (mvDec_of cd158 rfl) (by decide) ?_
      refine rc_irem mq158 (mvDec_of cd158 rfl) (by decide) ?_
      refine rc_callV [mvR 63, mvR e, mvI (r2.tmod 4)] [] [some (mvR 63), some (mvR e), some (mvI (r2.tmod 4)), none, none] mq158 (mvDec_of cd158 rfl) lk_9_36 mq109 (by decide) rfl rfl (Nat.le_of_ble_eq_true rfl) (Nat.le_of_ble_eq_true rfl) (by decide) rfl mis63 rfl (rv_bind H (fun h4 H => ?_))
      refine rc_vret mq158 (mvDec_of cd158 rfl) ?_
      show Rch 187 26 [some (mvR 63), some (mvR e), some (mvI l2), some (mvI r2)] [] (97, g, h4) _
      refine rc_iinc [some (mvR 63), some (mvR e), some (mvI (mw (l2 + 1))), some (mvI r2)] mq187 (mvDec_of cd187 rfl) rfl rfl ?_
      refine rc_goto (t := 2) mq187 (mvDec_of cd187 rfl) rfl ?_
      exact H
    · replace H := H.2 hc
      exact rc_vret mq187 (mvDec_of cd187 rfl) ⟨_, rfl, rfl, H⟩
abbrev SN_forceLeft (g : Nat → Nat → Nat) (h : Nat → Int → Int) (e : Nat) (K : (Nat → Int → Int) → Prop) : Prop := RV 209 0 [some (mvR 63), some (mvR e), none, none] [] g h K
abbrev SN_forceLeft_2 (g : Nat → Nat → Nat) (h : Nat → Int → Int) (e : Nat) (l2 : Int) (u3 : Option Int) (K : (Nat → Int → Int) → Prop) : Prop := RV 209 2 [some (mvR 63), some (mvR e), some (mvI l2), u3.map mvI] [] g h K
theorem SN_forceLeft_wp {sw : Bool} {g : Nat → Nat → Nat} {h : Nat → Int → Int} {e : Nat} {K : (Nat → Int → Int) → Prop} (hG : Gok sw g) (he : EvId e) (H :
  SN_forceLeft_2 g h e 0 none K) : SN_forceLeft g h e K := by
  refine rc_iconst mq209 (mvDec_of cd209 rfl) (by decide) ?_
  refine rc_istore_n [some (mvR 63), some (mvR e), some (mvI 0), none] mq209 (mvDec_of cd209 rfl) rfl ?_
  exact H
theorem SN_forceLeft_2_wp {sw : Bool} {g : Nat → Nat → Nat} {h : Nat → Int → Int} {e : Nat} {l2 : Int} {u3 : Option Int} {K : (Nat → Int → Int) → Prop} (hG : Gok sw g) (he : EvId e) (H :
  ((16 ≤ l2 →
    K h) ∧
  (l2 < 16 →
    SN_firstMarker g h 1 (fun r2 h1 =>
      ((¬ r2 = (-1) →
        (∀ h3, h3 = mvUpd h1 63 2 (mw ((h1 63 2) + 1)) →
        (0 ≤ r2 ∧ r2 < 16) ∧
        (∀ h4, h4 = mvUpd h3 66 r2 (-1) →
        SN_note g h4 e (r2.tmod 4) (fun h5 =>
          SN_deliver g h5 e (fun h6 =>
            SN_forceLeft_2 g h6 e (mw (l2 + 1)) (some r2) K))))) ∧
      (r2 = (-1) →
        K h1)))))) : SN_forceLeft_2 g h e l2 u3 K := by
  refine rc_iload_n mq209 (mvDec_of cd209 rfl) rfl ?_
  refine rc_bipush mq209 (mvDec_of cd209 rfl) (by decide) ?_
  refine rc_icmp_ge (t := 47) mq209 (mvDec_of cd209 rfl) rfl (fun hc => ?_) (fun hc => ?_)
  · replace H := H.1 hc
    exact rc_vret mq209 (mvDec_of cd209 rfl) ⟨_, rfl, rfl, H⟩
  · replace H := H.2 hc
    refine rc_aload_n mq209 (mvDec_of cd209 rfl) rfl ?_
    refine rc_iconst mq209 (mvDec_of cd209 rfl) (by decide) ?_
    refine rc_callV [mvR 63, mvI 1] [] [some (mvR 63), some (mvI 1), none] mq209 (mvDec_of cd209 rfl) lk_9_94 mq36 (by decide) rfl rfl (Nat.le_of_ble_eq_true rfl) (Nat.le_of_ble_eq_true rfl) (by decide) rfl mis63 rfl (ri_bind H (fun r2 h1 H => ?_))
    refine rc_istore_n [some (mvR 63), some (mvR e), some (mvI l2), some (mvI r2)] mq209 (mvDec_of cd209 rfl) rfl ?_
    refine rc_iload_n mq209 (mvDec_of cd209 rfl) rfl ?_
    refine rc_iconst mq209 (mvDec_of cd209 rfl) (by decide) ?_
    refine rc_icmp_ne (t := 20) mq209 (mvDec_of cd209 rfl) rfl (fun hc => ?_) (fun hc => ?_)
    · replace H := H.1 hc
      refine rc_aload_n mq209 (mvDec_of cd209 rfl) rfl ?_
      refine rc_dup mq209 (mvDec_of cd209 rfl) rfl ?_
      refine rc_getI 2 mq209 (mvDec_of cd209 rfl) fl_9_65 mis63 rfl (by decide) (by decide) ?_
      refine rc_iconst mq209 (mvDec_of cd209 rfl) (by decide) ?_
      refine rc_iadd mq209 (mvDec_of cd209 rfl) ?_
      refine rc_putI 2 mq209 (mvDec_of cd209 rfl) fl_9_65 mis63 rfl (fun z => absurd z (by decide)) (Or.inl rfl) ?_
      refine rc_heap (fun h3 hh => ?_)
      replace H := H h3 hh
      refine rc_aload_n mq209 (mvDec_of cd209 rfl) rfl ?_
      refine rc_aload_n mq209 (mvDec_of cd209 rfl) rfl ?_
      refine rc_iload_n mq209 (mvDec_of cd209 rfl) rfl ?_
      refine rc_callV [mvR 63, mvR e, mvI r2] [] [some (mvR 63), some (mvR e), some (mvI r2)] mq209 (mvDec_of cd209 rfl) lk_9_98 mq158 (by decide) rfl rfl (Nat.le_of_ble_eq_true rfl) (Nat.le_of_ble_eq_true rfl) (by decide) rfl mis63 rfl ?_
      refine rc_aload_n mq158 (mvDec_of cd158 rfl) rfl ?_
      refine rc_getR 66 mq158 (mvDec_of cd158 rfl) fl_9_18 mis63 rfl (gr_63_7 hG) (by decide) ?_
      refine rc_iload_n mq158 (mvDec_of cd158 rfl) rfl ?_
      refine rc_iconst mq158 (mvDec_of cd158 rfl) (by decide) ?_
      obtain ⟨⟨hb0, hb1⟩, H⟩ := H
      refine rc_iast mq158 (mvDec_of cd158 rfl) mis66 hb0 hb1 ?_
      refine rc_heap (fun h4 hh => ?_)
      replace H := H h4 hh
      refine rc_aload_n mq158 (mvDec_of cd158 rfl) rfl ?_
      refine rc_aload_n mq158 (mvDec_of cd158 rfl) rfl ?_
      refine rc_iload_n mq158 (mvDec_of cd158 rfl) rfl ?_
      refine rc_iconst mq158 (mvDec_of cd158 rfl) (by decide) ?_
      refine rc_irem mq158 (mvDec_of cd158 rfl) (by decide) ?_
      refine rc_callV [mvR 63, mvR e, mvI (r2.tmod 4)] [] [some (mvR 63), some (mvR e), some (mvI (r2.tmod 4)), none, none] mq158 (mvDec_of cd158 rfl) lk_9_36 mq109 (by decide) rfl rfl (Nat.le_of_ble_eq_true rfl) (Nat.le_of_ble_eq_true rfl) (by decide) rfl mis63 rfl (rv_bind H (fun h5 H => ?_))
      refine rc_vret mq158 (mvDec_of cd158 rfl) ?_
      show Rch 209 36 [some (mvR 63), some (mvR e), some (mvI l2), some (mvI r2)] [] (97, g, h5) _
      refine rc_aload_n mq209 (mvDec_of cd209 rfl) rfl ?_
      refine rc_aload_n mq209 (mvDec_of cd209 rfl) rfl ?_
      refine rc_callV [mvR 63, mvR e] [] [some (mvR 63), some (mvR e), none, none] mq209 (mvDec_of cd209 rfl) lk_9_39 mq187 (by decide) rfl rfl (Nat.le_of_ble_eq_true rfl) (Nat.le_of_ble_eq_true rfl) (by decide) rfl mis63 rfl (rv_bind H (fun h6 H => ?_))
      refine rc_iinc [some (mvR 63), some (mvR e), some (mvI (mw (l2 + 1))), some (mvI r2)] mq209 (mvDec_of cd209 rfl) rfl rfl ?_
      refine rc_goto (t := 2) mq209 (mvDec_of cd209 rfl) rfl ?_
      exact H
    · replace H := H.2 hc
      exact rc_vret mq209 (mvDec_of cd209 rfl) ⟨_, rfl, rfl, H⟩
abbrev SN_take (g : Nat → Nat → Nat) (h : Nat → Int → Int) (e : Nat) (x3 : Int) (x4 : Int) (K : (Nat → Int → Int) → Prop) : Prop := RV 221 0 [some (mvR 63), some (mvR e), some (mvR 61), some (mvI x3), some (mvI x4), none] [] g h K
abbrev SN_take_7 (g : Nat → Nat → Nat) (h : Nat → Int → Int) (e : Nat) (l3 : Int) (l4 : Int) (l5 : Int) (K : (Nat → Int → Int) → Prop) : Prop := RV 221 7 [some (mvR 63), some (mvR e), some (mvR 61), some (mvI l3), some (mvI l4), some (mvI l5)] [] g h K
abbrev SN_take_47 (g : Nat → Nat → Nat) (h : Nat → Int → Int) (e : Nat) (u3 : Option Int) (u4 : Option Int) (l5 : Int) (K : (Nat → Int → Int) → Prop) : Prop := RV 221 47 [some (mvR 63), some (mvR e), some (mvR 61), u3.map mvI, u4.map mvI, some (mvI l5)] [] g h K
abbrev SN_take_92 (g : Nat → Nat → Nat) (h : Nat → Int → Int) (e : Nat) (u3 : Option Int) (u4 : Option Int) (l5 : Int) (K : (Nat → Int → Int) → Prop) : Prop := RV 221 92 [some (mvR 63), some (mvR e), some (mvR 61), u3.map mvI, u4.map mvI, some (mvI l5)] [] g h K
theorem SN_take_wp {sw : Bool} {g : Nat → Nat → Nat} {h : Nat → Int → Int} {e : Nat} {x3 : Int} {x4 : Int} {K : (Nat → Int → Int) → Prop} (hG : Gok sw g) (he : EvId e) (H :
  SN_clear g h (fun h1 =>
    SN_take_7 g h1 e x3 x4 0 K)) : SN_take g h e x3 x4 K := by
  refine rc_aload_n mq221 (mvDec_of cd221 rfl) rfl ?_
  refine rc_callV [mvR 63] [] [some (mvR 63)] mq221 (mvDec_of cd221 rfl) lk_9_24 mq107 (by decide) rfl rfl (Nat.le_of_ble_eq_true rfl) (Nat.le_of_ble_eq_true rfl) (by decide) rfl mis63 rfl (rv_bind H (fun h1 H => ?_))
  refine rc_iconst mq221 (mvDec_of cd221 rfl) (by decide) ?_
  refine rc_istore [some (mvR 63), some (mvR e), some (mvR 61), some (mvI x3), some (mvI x4), some (mvI 0)] mq221 (mvDec_of cd221 rfl) rfl ?_
  exact H
theorem SN_take_7_wp {sw : Bool} {g : Nat → Nat → Nat} {h : Nat → Int → Int} {e : Nat} {l3 : Int} {l4 : Int} {l5 : Int} {K : (Nat → Int → Int) → Prop} (hG : Gok sw g) (he : EvId e) (H :
  ((l4 ≤ l5 →
    SN_note g h e l3 (fun h1 =>
      SN_deliver g h1 e (fun h2 =>
        SN_take_47 g h2 e (some l3) (some l4) l4 K))) ∧
  (l5 < l4 →
    (0 ≤ l5 ∧ l5 < 16) ∧
    SN_pass g h e (h 62 l5) (fun h3 =>
      SN_take_7 g h3 e l3 l4 (mw (l5 + 1)) K)))) : SN_take_7 g h e l3 l4 l5 K := by
  refine rc_iload mq221 (mvDec_of cd221 rfl) rfl ?_
  refine rc_iload mq221 (mvDec_of cd221 rfl) rfl ?_
  refine rc_icmp_ge (t := 32) mq221 (mvDec_of cd221 rfl) rfl (fun hc => ?_) (fun hc => ?_)
  · replace H := H.1 hc
    refine rc_aload_n mq221 (mvDec_of cd221 rfl) rfl ?_
    refine rc_aload_n mq221 (mvDec_of cd221 rfl) rfl ?_
    refine rc_iload_n mq221 (mvDec_of cd221 rfl) rfl ?_
    refine rc_callV [mvR 63, mvR e, mvI l3] [] [some (mvR 63), some (mvR e), some (mvI l3), none, none] mq221 (mvDec_of cd221 rfl) lk_9_36 mq109 (by decide) rfl rfl (Nat.le_of_ble_eq_true rfl) (Nat.le_of_ble_eq_true rfl) (by decide) rfl mis63 rfl (rv_bind H (fun h1 H => ?_))
    refine rc_aload_n mq221 (mvDec_of cd221 rfl) rfl ?_
    refine rc_aload_n mq221 (mvDec_of cd221 rfl) rfl ?_
    refine rc_callV [mvR 63, mvR e] [] [some (mvR 63), some (mvR e), none, none] mq221 (mvDec_of cd221 rfl) lk_9_39 mq187 (by decide) rfl rfl (Nat.le_of_ble_eq_true rfl) (Nat.le_of_ble_eq_true rfl) (by decide) rfl mis63 rfl (rv_bind H (fun h2 H => ?_))
    refine rc_iload mq221 (mvDec_of cd221 rfl) rfl ?_
    refine rc_istore [some (mvR 63), some (mvR e), some (mvR 61), some (mvI l3), some (mvI l4), some (mvI l4)] mq221 (mvDec_of cd221 rfl) rfl ?_
    exact H
  · replace H := H.2 hc
    refine rc_aload_n mq221 (mvDec_of cd221 rfl) rfl ?_
    refine rc_aload_n mq221 (mvDec_of cd221 rfl) rfl ?_
    refine rc_aload_n mq221 (mvDec_of cd221 rfl) rfl ?_
    refine rc_getR 62 mq221 (mvDec_of cd221 rfl) fl_9_27 mis61 rfl (gr_61_1 hG) (by decide) ?_
    refine rc_iload mq221 (mvDec_of cd221 rfl) rfl ?_
    obtain ⟨⟨hb0, hb1⟩, H⟩ := H
    refine rc_iald mq221 (mvDec_of cd221 rfl) mis62 hb0 hb1 ?_
    refine rc_callV [mvR 63, mvR e, mvI (h 62 l5)] [] [some (mvR 63), some (mvR e), some (mvI (h 62 l5)), none, none, none] mq221 (mvDec_of cd221 rfl) lk_9_32 mq108 (by decide) rfl rfl (Nat.le_of_ble_eq_true rfl) (Nat.le_of_ble_eq_true rfl) (by decide) rfl mis63 rfl (rv_bind H (fun h3 H => ?_))
    refine rc_iinc [some (mvR 63), some (mvR e), some (mvR 61), some (mvI l3), some (mvI l4), some (mvI (mw (l5 + 1)))] mq221 (mvDec_of cd221 rfl) rfl rfl ?_
    refine rc_goto (t := 7) mq221 (mvDec_of cd221 rfl) rfl ?_
    exact H
theorem SN_take_47_wp {sw : Bool} {g : Nat → Nat → Nat} {h : Nat → Int → Int} {e : Nat} {u3 : Option Int} {u4 : Option Int} {l5 : Int} {K : (Nat → Int → Int) → Prop} (hG : Gok sw g) (he : EvId e) (H :
  (((h 61 0) ≤ l5 →
    SN_forceLeft g h e (fun h1 =>
      (∀ h2, h2 = mvUpd h1 63 1 0 →
      SN_take_92 g h2 e u3 u4 0 K))) ∧
  (l5 < (h 61 0) →
    (0 ≤ l5 ∧ l5 < 16) ∧
    SN_pass g h e (h 62 l5) (fun h3 =>
      SN_deliver g h3 e (fun h4 =>
        SN_take_47 g h4 e u3 u4 (mw (l5 + 1)) K))))) : SN_take_47 g h e u3 u4 l5 K := by
  refine rc_iload mq221 (mvDec_of cd221 rfl) rfl ?_
  refine rc_aload_n mq221 (mvDec_of cd221 rfl) rfl ?_
  refine rc_getI 0 mq221 (mvDec_of cd221 rfl) fl_9_43 mis61 rfl (by decide) (by decide) ?_
  refine rc_icmp_ge (t := 79) mq221 (mvDec_of cd221 rfl) rfl (fun hc => ?_) (fun hc => ?_)
  · replace H := H.1 hc
    refine rc_aload_n mq221 (mvDec_of cd221 rfl) rfl ?_
    refine rc_aload_n mq221 (mvDec_of cd221 rfl) rfl ?_
    refine rc_callV [mvR 63, mvR e] [] [some (mvR 63), some (mvR e), none, none] mq221 (mvDec_of cd221 rfl) lk_9_47 mq209 (by decide) rfl rfl (Nat.le_of_ble_eq_true rfl) (Nat.le_of_ble_eq_true rfl) (by decide) rfl mis63 rfl (rv_bind H (fun h1 H => ?_))
    refine rc_aload_n mq221 (mvDec_of cd221 rfl) rfl ?_
    refine rc_iconst mq221 (mvDec_of cd221 rfl) (by decide) ?_
    refine rc_putI 1 mq221 (mvDec_of cd221 rfl) fl_9_50 mis63 rfl (fun z => absurd z (by decide)) (Or.inl rfl) ?_
    refine rc_heap (fun h2 hh => ?_)
    replace H := H h2 hh
    refine rc_iconst mq221 (mvDec_of cd221 rfl) (by decide) ?_
    refine rc_istore [some (mvR 63), some (mvR e), some (mvR 61), u3.map mvI, u4.map mvI, some (mvI 0)] mq221 (mvDec_of cd221 rfl) (by cases u4 <;> rfl) ?_
    exact H
  · replace H := H.2 hc
    refine rc_aload_n mq221 (mvDec_of cd221 rfl) rfl ?_
    refine rc_aload_n mq221 (mvDec_of cd221 rfl) rfl ?_
    refine rc_aload_n mq221 (mvDec_of cd221 rfl) rfl ?_
    refine rc_getR 62 mq221 (mvDec_of cd221 rfl) fl_9_27 mis61 rfl (gr_61_1 hG) (by decide) ?_
    refine rc_iload mq221 (mvDec_of cd221 rfl) rfl ?_
    obtain ⟨⟨hb0, hb1⟩, H⟩ := H
    refine rc_iald mq221 (mvDec_of cd221 rfl) mis62 hb0 hb1 ?_
    refine rc_callV [mvR 63, mvR e, mvI (h 62 l5)] [] [some (mvR 63), some (mvR e), some (mvI (h 62 l5)), none, none, none] mq221 (mvDec_of cd221 rfl) lk_9_32 mq108 (by decide) rfl rfl (Nat.le_of_ble_eq_true rfl) (Nat.le_of_ble_eq_true rfl) (by decide) rfl mis63 rfl (rv_bind H (fun h3 H => ?_))
    refine rc_aload_n mq221 (mvDec_of cd221 rfl) rfl ?_
    refine rc_aload_n mq221 (mvDec_of cd221 rfl) rfl ?_
    refine rc_callV [mvR 63, mvR e] [] [some (mvR 63), some (mvR e), none, none] mq221 (mvDec_of cd221 rfl) lk_9_39 mq187 (by decide) rfl rfl (Nat.le_of_ble_eq_true rfl) (Nat.le_of_ble_eq_true rfl) (by decide) rfl mis63 rfl (rv_bind H (fun h4 H => ?_))
    refine rc_iinc [some (mvR 63), some (mvR e), some (mvR 61), u3.map mvI, u4.map mvI, some (mvI (mw (l5 + 1)))] mq221 (mvDec_of cd221 rfl) rfl (by cases u4 <;> rfl) ?_
    refine rc_goto (t := 47) mq221 (mvDec_of cd221 rfl) rfl ?_
    exact H
theorem SN_take_92_wp {sw : Bool} {g : Nat → Nat → Nat} {h : Nat → Int → Int} {e : Nat} {u3 : Option Int} {u4 : Option Int} {l5 : Int} {K : (Nat → Int → Int) → Prop} (hG : Gok sw g) (he : EvId e) (H :
  (((h e 0) ≤ l5 →
    (∀ h1, h1 = mvUpd h 63 0 1 →
    K h1)) ∧
  (l5 < (h e 0) →
    (0 ≤ l5 ∧ l5 < 4) ∧
    (∀ h2, h2 = mvUpd h 63 1 (mw ((mw ((h 63 1) * 10)) + (h 67 l5))) →
    SN_take_92 g h2 e u3 u4 (mw (l5 + 1)) K)))) : SN_take_92 g h e u3 u4 l5 K := by
  refine rc_iload mq221 (mvDec_of cd221 rfl) rfl ?_
  refine rc_aload_n mq221 (mvDec_of cd221 rfl) rfl ?_
  refine rc_getI 0 mq221 (mvDec_of cd221 rfl) fl_9_53 (miE0 he) rfl (by decide) (by decide) ?_
  refine rc_icmp_ge (t := 126) mq221 (mvDec_of cd221 rfl) rfl (fun hc => ?_) (fun hc => ?_)
  · replace H := H.1 hc
    refine rc_aload_n mq221 (mvDec_of cd221 rfl) rfl ?_
    refine rc_iconst mq221 (mvDec_of cd221 rfl) (by decide) ?_
    refine rc_putI 0 mq221 (mvDec_of cd221 rfl) fl_9_58 mis63 rfl (fun z => absurd z (by decide)) (Or.inr ⟨rfl, Or.inr rfl⟩) ?_
    refine rc_heap (fun h1 hh => ?_)
    replace H := H h1 hh
    exact rc_vret mq221 (mvDec_of cd221 rfl) ⟨_, rfl, rfl, H⟩
  · replace H := H.2 hc
    refine rc_aload_n mq221 (mvDec_of cd221 rfl) rfl ?_
    refine rc_aload_n mq221 (mvDec_of cd221 rfl) rfl ?_
    refine rc_getI 1 mq221 (mvDec_of cd221 rfl) fl_9_50 mis63 rfl (by decide) (by decide) ?_
    refine rc_bipush mq221 (mvDec_of cd221 rfl) (by decide) ?_
    refine rc_imul mq221 (mvDec_of cd221 rfl) ?_
    refine rc_aload_n mq221 (mvDec_of cd221 rfl) rfl ?_
    refine rc_getR 67 mq221 (mvDec_of cd221 rfl) fl_9_21 mis63 rfl (gr_63_8 hG) (by decide) ?_
    refine rc_iload mq221 (mvDec_of cd221 rfl) rfl ?_
    obtain ⟨⟨hb0, hb1⟩, H⟩ := H
    refine rc_iald mq221 (mvDec_of cd221 rfl) mis67 hb0 hb1 ?_
    refine rc_iadd mq221 (mvDec_of cd221 rfl) ?_
    refine rc_putI 1 mq221 (mvDec_of cd221 rfl) fl_9_50 mis63 rfl (fun z => absurd z (by decide)) (Or.inl rfl) ?_
    refine rc_heap (fun h2 hh => ?_)
    replace H := H h2 hh
    refine rc_iinc [some (mvR 63), some (mvR e), some (mvR 61), u3.map mvI, u4.map mvI, some (mvI (mw (l5 + 1)))] mq221 (mvDec_of cd221 rfl) rfl (by cases u4 <;> rfl) ?_
    refine rc_goto (t := 92) mq221 (mvDec_of cd221 rfl) rfl ?_
    exact H
