/-! out of the bytecode, by program: what suffices for a method (_wp), for a loop at its head (_place_wp) -/
abbrev SE_property (g : Nat → Nat → Nat) (h : Nat → Int → Int) (s : Nat) (x1 : Int) (K : Int → (Nat → Int → Int) → Prop) : Prop := RI 29 0 [some (mvR s), some (mvI x1)] [] g h K
theorem SE_property_wp {sw : Bool} {g : Nat → Nat → Nat} {h : Nat → Int → Int} {s : Nat} {x1 : Int} {K : Int → (Nat → Int → Int) → Prop} (hG : Gok sw g) (hs : SeId s) (H :
  (((x1 < 0 ∨ 2 < x1) →
    (((h (s + 2) 0) = 0 →
      K 1 h) ∧
    (¬ (h (s + 2) 0) = 0 →
      K 0 h))) ∧
  (x1 = 0 →
    (((h s 3) ≤ 0 →
      K 0 h) ∧
    (0 < (h s 3) →
      K 1 h))) ∧
  (x1 = 1 →
    K (h s 3) h) ∧
  (x1 = 2 →
    K (h s 4) h))) : SE_property g h s x1 K := by
  refine rc_iload_n mq29 (mvDec_of cd29 rfl) rfl ?_
  have hsw : (x1 < 0 ∨ 2 < x1) ∨ x1 = 0 ∨ x1 = 1 ∨ x1 = 2 := by omega
  rcases hsw with hsw | hsw | hsw | hsw
  · replace H := H.1 hsw
    refine rc_swD (t := 51) mq29 (mvDec_of cd29 rfl) hsw rfl ?_
    refine rc_aload_n mq29 (mvDec_of cd29 rfl) rfl ?_
    refine rc_getR (s + 2) mq29 (mvDec_of cd29 rfl) fl_5_15 (miS0 hs) rfl (mgS5 hs hG) (Nat.succ_ne_zero _) ?_
    refine rc_iconst mq29 (mvDec_of cd29 rfl) (by decide) ?_
    refine rc_bald mq29 (mvDec_of cd29 rfl) (miS2 hs) (by decide) (by decide) ?_
    refine rc_if_eq (t := 64) mq29 (mvDec_of cd29 rfl) rfl (fun hc => ?_) (fun hc => ?_)
    · replace H := H.1 hc
      refine rc_iconst mq29 (mvDec_of cd29 rfl) (by decide) ?_
      exact rc_iret mq29 (mvDec_of cd29 rfl) ⟨_, _, rfl, rfl, H⟩
    · replace H := H.2 hc
      refine rc_iconst mq29 (mvDec_of cd29 rfl) (by decide) ?_
      refine rc_goto (t := 65) mq29 (mvDec_of cd29 rfl) rfl ?_
      exact rc_iret mq29 (mvDec_of cd29 rfl) ⟨_, _, rfl, rfl, H⟩
  · replace H := H.2.1 hsw
    refine rc_swI (t := 28) mq29 (mvDec_of cd29 rfl) (by omega) (by rw [hsw]; rfl) rfl ?_
    refine rc_aload_n mq29 (mvDec_of cd29 rfl) rfl ?_
    refine rc_getI 3 mq29 (mvDec_of cd29 rfl) fl_5_23 (miS0 hs) rfl (by decide) (by decide) ?_
    refine rc_if_le (t := 39) mq29 (mvDec_of cd29 rfl) rfl (fun hc => ?_) (fun hc => ?_)
    · replace H := H.1 hc
      refine rc_iconst mq29 (mvDec_of cd29 rfl) (by decide) ?_
      exact rc_iret mq29 (mvDec_of cd29 rfl) ⟨_, _, rfl, rfl, H⟩
    · replace H := H.2 hc
      refine rc_iconst mq29 (mvDec_of cd29 rfl) (by decide) ?_
      refine rc_goto (t := 40) mq29 (mvDec_of cd29 rfl) rfl ?_
      exact rc_iret mq29 (mvDec_of cd29 rfl) ⟨_, _, rfl, rfl, H⟩
  · replace H := H.2.2.1 hsw
    refine rc_swI (t := 41) mq29 (mvDec_of cd29 rfl) (by omega) (by rw [hsw]; rfl) rfl ?_
    refine rc_aload_n mq29 (mvDec_of cd29 rfl) rfl ?_
    refine rc_getI 3 mq29 (mvDec_of cd29 rfl) fl_5_23 (miS0 hs) rfl (by decide) (by decide) ?_
    exact rc_iret mq29 (mvDec_of cd29 rfl) ⟨_, _, rfl, rfl, H⟩
  · replace H := H.2.2.2 hsw
    refine rc_swI (t := 46) mq29 (mvDec_of cd29 rfl) (by omega) (by rw [hsw]; rfl) rfl ?_
    refine rc_aload_n mq29 (mvDec_of cd29 rfl) rfl ?_
    refine rc_getI 4 mq29 (mvDec_of cd29 rfl) fl_5_27 (miS0 hs) rfl (by decide) (by decide) ?_
    exact rc_iret mq29 (mvDec_of cd29 rfl) ⟨_, _, rfl, rfl, H⟩
abbrev SE_avoidingStep (g : Nat → Nat → Nat) (h : Nat → Int → Int) (s : Nat) (e : Nat) (a : Nat) (x3 : Int) (K : Int → (Nat → Int → Int) → Prop) : Prop := RI 155 0 [some (mvR s), some (mvR e), some (mvR a), some (mvI x3), none, none] [] g h K
abbrev SE_avoidingStep_3 (g : Nat → Nat → Nat) (h : Nat → Int → Int) (s : Nat) (e : Nat) (a : Nat) (l3 : Int) (l4 : Int) (u5 : Option Int) (K : Int → (Nat → Int → Int) → Prop) : Prop := RI 155 3 [some (mvR s), some (mvR e), some (mvR a), some (mvI l3), some (mvI l4), u5.map mvI] [] g h K
theorem SE_avoidingStep_wp {sw : Bool} {g : Nat → Nat → Nat} {h : Nat → Int → Int} {s : Nat} {e : Nat} {a : Nat} {x3 : Int} {K : Int → (Nat → Int → Int) → Prop} (hG : Gok sw g) (hs : SeId s) (he : EvId e) (ha : LtId a) (H :
  SE_avoidingStep_3 g h s e a x3 0 none K) : SE_avoidingStep g h s e a x3 K := by
  refine rc_iconst mq155 (mvDec_of cd155 rfl) (by decide) ?_
  refine rc_istore [some (mvR s), some (mvR e), some (mvR a), some (mvI x3), some (mvI 0), none] mq155 (mvDec_of cd155 rfl) rfl ?_
  exact H
theorem SE_avoidingStep_3_wp {sw : Bool} {g : Nat → Nat → Nat} {h : Nat → Int → Int} {s : Nat} {e : Nat} {a : Nat} {l3 : Int} {l4 : Int} {u5 : Option Int} {K : Int → (Nat → Int → Int) → Prop} (hG : Gok sw g) (hs : SeId s) (he : EvId e) (ha : LtId a) (H :
  (((h e 0) ≤ l4 →
    K (-1) h) ∧
  (l4 < (h e 0) →
    (0 ≤ l3 ∧ l3 < 625) ∧
    EV_canFollow g h e (h (a + 3) l3) l4 (fun r2 h1 =>
      ((r2 = 0 →
        SE_avoidingStep_3 g h1 s e a l3 (mw (l4 + 1)) (some r2) K) ∧
      (¬ r2 = 0 →
        (0 ≤ l4 ∧ l4 < 4) ∧
        (0 ≤ (mw (l3 + (h1 (a + 2) l4))) ∧ (mw (l3 + (h1 (a + 2) l4))) < 625) ∧
        (((h1 (s + 2) (mw (l3 + (h1 (a + 2) l4)))) = 0 →
          SE_avoidingStep_3 g h1 s e a l3 (mw (l4 + 1)) (some r2) K) ∧
        (¬ (h1 (s + 2) (mw (l3 + (h1 (a + 2) l4)))) = 0 →
          K l4 h1)))))))) : SE_avoidingStep_3 g h s e a l3 l4 u5 K := by
  refine rc_iload mq155 (mvDec_of cd155 rfl) rfl ?_
  refine rc_aload_n mq155 (mvDec_of cd155 rfl) rfl ?_
  refine rc_getI 0 mq155 (mvDec_of cd155 rfl) fl_5_58 (miE0 he) rfl (by decide) (by decide) ?_
  refine rc_icmp_ge (t := 57) mq155 (mvDec_of cd155 rfl) rfl (fun hc => ?_) (fun hc => ?_)
  · replace H := H.1 hc
    refine rc_iconst mq155 (mvDec_of cd155 rfl) (by decide) ?_
    exact rc_iret mq155 (mvDec_of cd155 rfl) ⟨_, _, rfl, rfl, H⟩
  · replace H := H.2 hc
    refine rc_aload_n mq155 (mvDec_of cd155 rfl) rfl ?_
    refine rc_aload_n mq155 (mvDec_of cd155 rfl) rfl ?_
    refine rc_getR (a + 3) mq155 (mvDec_of cd155 rfl) fl_5_38 (miA0 ha) rfl (mgA6 ha hG) (Nat.succ_ne_zero _) ?_
    refine rc_iload_n mq155 (mvDec_of cd155 rfl) rfl ?_
    obtain ⟨⟨hb0, hb1⟩, H⟩ := H
    refine rc_iald mq155 (mvDec_of cd155 rfl) (miA3 ha) hb0 hb1 ?_
    refine rc_iload mq155 (mvDec_of cd155 rfl) rfl ?_
    refine rc_callV [mvR e, mvI (h (a + 3) l3), mvI l4] [] [some (mvR e), some (mvI (h (a + 3) l3)), some (mvI l4), none, none] mq155 (mvDec_of cd155 rfl) lk_5_63 mq84 (by decide) rfl rfl (Nat.le_of_ble_eq_true rfl) (Nat.le_of_ble_eq_true rfl) (by decide) rfl (miE0 he) rfl (ri_bind H (fun r2 h1 H => ?_))
    refine rc_istore [some (mvR s), some (mvR e), some (mvR a), some (mvI l3), some (mvI l4), some (mvI r2)] mq155 (mvDec_of cd155 rfl) rfl ?_
    refine rc_iload mq155 (mvDec_of cd155 rfl) rfl ?_
    refine rc_if_eq (t := 51) mq155 (mvDec_of cd155 rfl) rfl (fun hc => ?_) (fun hc => ?_)
    · replace H := H.1 hc
      refine rc_iinc [some (mvR s), some (mvR e), some (mvR a), some (mvI l3), some (mvI (mw (l4 + 1))), some (mvI r2)] mq155 (mvDec_of cd155 rfl) rfl rfl ?_
      refine rc_goto (t := 3) mq155 (mvDec_of cd155 rfl) rfl ?_
      exact H
    · replace H := H.2 hc
      refine rc_aload_n mq155 (mvDec_of cd155 rfl) rfl ?_
      refine rc_getR (s + 2) mq155 (mvDec_of cd155 rfl) fl_5_15 (miS0 hs) rfl (mgS5 hs hG) (Nat.succ_ne_zero _) ?_
      refine rc_iload_n mq155 (mvDec_of cd155 rfl) rfl ?_
      refine rc_aload_n mq155 (mvDec_of cd155 rfl) rfl ?_
      refine rc_getR (a + 2) mq155 (mvDec_of cd155 rfl) fl_5_67 (miA0 ha) rfl (mgA5 ha hG) (Nat.succ_ne_zero _) ?_
      refine rc_iload mq155 (mvDec_of cd155 rfl) rfl ?_
      obtain ⟨⟨hb0, hb1⟩, H⟩ := H
      refine rc_iald mq155 (mvDec_of cd155 rfl) (miA2 ha) hb0 hb1 ?_
      refine rc_iadd mq155 (mvDec_of cd155 rfl) ?_
      obtain ⟨⟨hb0, hb1⟩, H⟩ := H
      refine rc_bald mq155 (mvDec_of cd155 rfl) (miS2 hs) hb0 hb1 ?_
      refine rc_if_eq (t := 51) mq155 (mvDec_of cd155 rfl) rfl (fun hc => ?_) (fun hc => ?_)
      · replace H := H.1 hc
        refine rc_iinc [some (mvR s), some (mvR e), some (mvR a), some (mvI l3), some (mvI (mw (l4 + 1))), some (mvI r2)] mq155 (mvDec_of cd155 rfl) rfl rfl ?_
        refine rc_goto (t := 3) mq155 (mvDec_of cd155 rfl) rfl ?_
        exact H
      · replace H := H.2 hc
        refine rc_iload mq155 (mvDec_of cd155 rfl) rfl ?_
        exact rc_iret mq155 (mvDec_of cd155 rfl) ⟨_, _, rfl, rfl, H⟩
abbrev SE_findPath (g : Nat → Nat → Nat) (h : Nat → Int → Int) (s : Nat) (e : Nat) (a : Nat) (K : (Nat → Int → Int) → Prop) : Prop := RV 184 0 [some (mvR s), some (mvR e), some (mvR a), none, none, none] [] g h K
abbrev SE_findPath_20 (g : Nat → Nat → Nat) (h : Nat → Int → Int) (s : Nat) (e : Nat) (a : Nat) (l3 : Int) (l4 : Int) (u5 : Option Int) (K : (Nat → Int → Int) → Prop) : Prop := RV 184 20 [some (mvR s), some (mvR e), some (mvR a), some (mvI l3), some (mvI l4), u5.map mvI] [] g h K
theorem SE_findPath_wp {sw : Bool} {g : Nat → Nat → Nat} {h : Nat → Int → Int} {s : Nat} {e : Nat} {a : Nat} {K : (Nat → Int → Int) → Prop} (hG : Gok sw g) (hs : SeId s) (he : EvId e) (ha : LtId a) (H :
  (∀ h1, h1 = mvUpd h s 1 0 →
  ((¬ (h1 (s + 2) 0) = 0 →
    SE_findPath_20 g h1 s e a 0 0 none K) ∧
  ((h1 (s + 2) 0) = 0 →
    K h1)))) : SE_findPath g h s e a K := by
  refine rc_aload_n mq184 (mvDec_of cd184 rfl) rfl ?_
  refine rc_iconst mq184 (mvDec_of cd184 rfl) (by decide) ?_
  refine rc_putI 1 mq184 (mvDec_of cd184 rfl) fl_5_70 (miS0 hs) rfl (fun z => absurd z (by decide)) (Or.inl rfl) ?_
  refine rc_heap (fun h1 hh => ?_)
  replace H := H h1 hh
  refine rc_aload_n mq184 (mvDec_of cd184 rfl) rfl ?_
  refine rc_getR (s + 2) mq184 (mvDec_of cd184 rfl) fl_5_15 (miS0 hs) rfl (mgS5 hs hG) (Nat.succ_ne_zero _) ?_
  refine rc_iconst mq184 (mvDec_of cd184 rfl) (by decide) ?_
  refine rc_bald mq184 (mvDec_of cd184 rfl) (miS2 hs) (by decide) (by decide) ?_
  refine rc_if_ne (t := 15) mq184 (mvDec_of cd184 rfl) rfl (fun hc => ?_) (fun hc => ?_)
  · replace H := H.1 hc
    refine rc_iconst mq184 (mvDec_of cd184 rfl) (by decide) ?_
    refine rc_istore_n [some (mvR s), some (mvR e), some (mvR a), some (mvI 0), none, none] mq184 (mvDec_of cd184 rfl) rfl ?_
    refine rc_iconst mq184 (mvDec_of cd184 rfl) (by decide) ?_
    refine rc_istore [some (mvR s), some (mvR e), some (mvR a), some (mvI 0), some (mvI 0), none] mq184 (mvDec_of cd184 rfl) rfl ?_
    exact H
  · replace H := H.2 hc
    exact rc_vret mq184 (mvDec_of cd184 rfl) ⟨_, rfl, rfl, H⟩
theorem SE_findPath_20_wp {sw : Bool} {g : Nat → Nat → Nat} {h : Nat → Int → Int} {s : Nat} {e : Nat} {a : Nat} {l3 : Int} {l4 : Int} {u5 : Option Int} {K : (Nat → Int → Int) → Prop} (hG : Gok sw g) (hs : SeId s) (he : EvId e) (ha : LtId a) (H :
  (((h e 1) ≤ l4 →
    K h) ∧
  (l4 < (h e 1) →
    SE_avoidingStep g h s e a l3 (fun r2 h1 =>
      ((¬ r2 = (-1) →
        (0 ≤ l4 ∧ l4 < 16) ∧
        (∀ h3, h3 = mvUpd h1 (s + 1) l4 r2 →
        (∀ h4, h4 = mvUpd h3 s 1 (mw ((h3 s 1) + 1)) →
        (0 ≤ r2 ∧ r2 < 4) ∧
        (∀ v5, v5 = (mw (l3 + (h4 (a + 2) r2))) →
        SE_findPath_20 g h4 s e a v5 (mw (l4 + 1)) (some r2) K)))) ∧
      (r2 = (-1) →
        K h1)))))) : SE_findPath_20 g h s e a l3 l4 u5 K := by
  refine rc_iload mq184 (mvDec_of cd184 rfl) rfl ?_
  refine rc_aload_n mq184 (mvDec_of cd184 rfl) rfl ?_
  refine rc_getI 1 mq184 (mvDec_of cd184 rfl) fl_5_73 (miE0 he) rfl (by decide) (by decide) ?_
  refine rc_icmp_ge (t := 80) mq184 (mvDec_of cd184 rfl) rfl (fun hc => ?_) (fun hc => ?_)
  · replace H := H.1 hc
    exact rc_vret mq184 (mvDec_of cd184 rfl) ⟨_, rfl, rfl, H⟩
  · replace H := H.2 hc
    refine rc_aload_n mq184 (mvDec_of cd184 rfl) rfl ?_
    refine rc_aload_n mq184 (mvDec_of cd184 rfl) rfl ?_
    refine rc_aload_n mq184 (mvDec_of cd184 rfl) rfl ?_
    refine rc_iload_n mq184 (mvDec_of cd184 rfl) rfl ?_
    refine rc_callV [mvR s, mvR e, mvR a, mvI l3] [] [some (mvR s), some (mvR e), some (mvR a), some (mvI l3), none, none] mq184 (mvDec_of cd184 rfl) lk_5_50 mq155 (by decide) rfl rfl (Nat.le_of_ble_eq_true rfl) (Nat.le_of_ble_eq_true rfl) (by decide) rfl (miS0 hs) rfl (ri_bind H (fun r2 h1 H => ?_))
    refine rc_istore [some (mvR s), some (mvR e), some (mvR a), some (mvI l3), some (mvI l4), some (mvI r2)] mq184 (mvDec_of cd184 rfl) rfl ?_
    refine rc_iload mq184 (mvDec_of cd184 rfl) rfl ?_
    refine rc_iconst mq184 (mvDec_of cd184 rfl) (by decide) ?_
    refine rc_icmp_ne (t := 45) mq184 (mvDec_of cd184 rfl) rfl (fun hc => ?_) (fun hc => ?_)
    · replace H := H.1 hc
      refine rc_aload_n mq184 (mvDec_of cd184 rfl) rfl ?_
      refine rc_getR (s + 1) mq184 (mvDec_of cd184 rfl) fl_5_9 (miS0 hs) rfl (mgS2 hs hG) (Nat.succ_ne_zero _) ?_
      refine rc_iload mq184 (mvDec_of cd184 rfl) rfl ?_
      refine rc_iload mq184 (mvDec_of cd184 rfl) rfl ?_
      obtain ⟨⟨hb0, hb1⟩, H⟩ := H
      refine rc_iast mq184 (mvDec_of cd184 rfl) (miS1 hs) hb0 hb1 ?_
      refine rc_heap (fun h3 hh => ?_)
      replace H := H h3 hh
      refine rc_aload_n mq184 (mvDec_of cd184 rfl) rfl ?_
      refine rc_dup mq184 (mvDec_of cd184 rfl) rfl ?_
      refine rc_getI 1 mq184 (mvDec_of cd184 rfl) fl_5_70 (miS0 hs) rfl (by decide) (by decide) ?_
      refine rc_iconst mq184 (mvDec_of cd184 rfl) (by decide) ?_
      refine rc_iadd mq184 (mvDec_of cd184 rfl) ?_
      refine rc_putI 1 mq184 (mvDec_of cd184 rfl) fl_5_70 (miS0 hs) rfl (fun z => absurd z (by decide)) (Or.inl rfl) ?_
      refine rc_heap (fun h4 hh => ?_)
      replace H := H h4 hh
      refine rc_iload_n mq184 (mvDec_of cd184 rfl) rfl ?_
      refine rc_aload_n mq184 (mvDec_of cd184 rfl) rfl ?_
      refine rc_getR (a + 2) mq184 (mvDec_of cd184 rfl) fl_5_67 (miA0 ha) rfl (mgA5 ha hG) (Nat.succ_ne_zero _) ?_
      refine rc_iload mq184 (mvDec_of cd184 rfl) rfl ?_
      obtain ⟨⟨hb0, hb1⟩, H⟩ := H
      refine rc_iald mq184 (mvDec_of cd184 rfl) (miA2 ha) hb0 hb1 ?_
      refine rc_iadd mq184 (mvDec_of cd184 rfl) ?_
      refine rc_top (fun v5 hv => ?_)
      replace H := H v5 hv
      refine rc_istore_n [some (mvR s), some (mvR e), some (mvR a), some (mvI v5), some (mvI l4), some (mvI r2)] mq184 (mvDec_of cd184 rfl) rfl ?_
      refine rc_iinc [some (mvR s), some (mvR e), some (mvR a), some (mvI v5), some (mvI (mw (l4 + 1))), some (mvI r2)] mq184 (mvDec_of cd184 rfl) rfl rfl ?_
      refine rc_goto (t := 20) mq184 (mvDec_of cd184 rfl) rfl ?_
      exact H
    · replace H := H.2 hc
      exact rc_vret mq184 (mvDec_of cd184 rfl) ⟨_, rfl, rfl, H⟩
abbrev SE_build (g : Nat → Nat → Nat) (h : Nat → Int → Int) (s : Nat) (e : Nat) (a : Nat) (K : (Nat → Int → Int) → Prop) : Prop := RV 208 0 [some (mvR s), some (mvR e), some (mvR a), some (mvR 31), none, none, none, none] [] g h K
abbrev SE_build_31 (g : Nat → Nat → Nat) (h : Nat → Int → Int) (s : Nat) (e : Nat) (a : Nat) (l4 : Int) (u5 : Option Int) (u6 : Option Int) (u7 : Option Int) (K : (Nat → Int → Int) → Prop) : Prop := RV 208 31 [some (mvR s), some (mvR e), some (mvR a), some (mvR 31), some (mvI l4), u5.map mvI, u6.map mvI, u7.map mvI] [] g h K
theorem SE_build_wp {sw : Bool} {g : Nat → Nat → Nat} {h : Nat → Int → Int} {s : Nat} {e : Nat} {a : Nat} {K : (Nat → Int → Int) → Prop} (hG : Gok sw g) (hs : SeId s) (he : EvId e) (ha : LtId a) (H :
  (((h s 0) = 0 →
    (∀ h1, h1 = mvUpd h s 0 1 →
    (∀ h2, h2 = mvUpd h1 s 3 0 →
    (∀ h3, h3 = mvUpd h2 s 4 (-1) →
    (∀ v4, v4 = (mw ((h3 a 1) - 1)) →
    SE_build_31 g h3 s e a v4 none none none K))))) ∧
  (¬ (h s 0) = 0 →
    K h))) : SE_build g h s e a K := by
  refine rc_aload_n mq208 (mvDec_of cd208 rfl) rfl ?_
  refine rc_getI 0 mq208 (mvDec_of cd208 rfl) fl_5_19 (miS0 hs) rfl (by decide) (by decide) ?_
  refine rc_if_eq (t := 8) mq208 (mvDec_of cd208 rfl) rfl (fun hc => ?_) (fun hc => ?_)
  · replace H := H.1 hc
    refine rc_aload_n mq208 (mvDec_of cd208 rfl) rfl ?_
    refine rc_iconst mq208 (mvDec_of cd208 rfl) (by decide) ?_
    refine rc_putI 0 mq208 (mvDec_of cd208 rfl) fl_5_19 (miS0 hs) rfl (fun z => absurd z (by decide)) (Or.inr ⟨rfl, Or.inr rfl⟩) ?_
    refine rc_heap (fun h1 hh => ?_)
    replace H := H h1 hh
    refine rc_aload_n mq208 (mvDec_of cd208 rfl) rfl ?_
    refine rc_iconst mq208 (mvDec_of cd208 rfl) (by decide) ?_
    refine rc_putI 3 mq208 (mvDec_of cd208 rfl) fl_5_23 (miS0 hs) rfl (fun z => absurd z (by decide)) (Or.inl rfl) ?_
    refine rc_heap (fun h2 hh => ?_)
    replace H := H h2 hh
    refine rc_aload_n mq208 (mvDec_of cd208 rfl) rfl ?_
    refine rc_iconst mq208 (mvDec_of cd208 rfl) (by decide) ?_
    refine rc_putI 4 mq208 (mvDec_of cd208 rfl) fl_5_27 (miS0 hs) rfl (fun z => absurd z (by decide)) (Or.inl rfl) ?_
    refine rc_heap (fun h3 hh => ?_)
    replace H := H h3 hh
    refine rc_aload_n mq208 (mvDec_of cd208 rfl) rfl ?_
    refine rc_getI 1 mq208 (mvDec_of cd208 rfl) fl_5_30 (miA0 ha) rfl (by decide) (by decide) ?_
    refine rc_iconst mq208 (mvDec_of cd208 rfl) (by decide) ?_
    refine rc_isub mq208 (mvDec_of cd208 rfl) ?_
    refine rc_top (fun v4 hv => ?_)
    replace H := H v4 hv
    refine rc_istore [some (mvR s), some (mvR e), some (mvR a), some (mvR 31), some (mvI v4), none, none, none] mq208 (mvDec_of cd208 rfl) rfl ?_
    exact H
  · replace H := H.2 hc
    exact rc_vret mq208 (mvDec_of cd208 rfl) ⟨_, rfl, rfl, H⟩
theorem SE_build_31_wp {sw : Bool} {g : Nat → Nat → Nat} {h : Nat → Int → Int} {s : Nat} {e : Nat} {a : Nat} {l4 : Int} {u5 : Option Int} {u6 : Option Int} {u7 : Option Int} {K : (Nat → Int → Int) → Prop} (hG : Gok sw g) (hs : SeId s) (he : EvId e) (ha : LtId a) (H :
  ((l4 < 0 →
    SE_findPath g h s e a (fun h1 =>
      K h1)) ∧
  (0 ≤ l4 →
    (0 ≤ l4 ∧ l4 < 625) ∧
    (∀ v2, v2 = (h (a + 4) l4) →
    (0 ≤ v2 ∧ v2 < 625) ∧
    PR_holdsIn g h e (h (a + 3) v2) (fun r4 h3 =>
      ((r4 = 0 →
        ((¬ v2 = (mw ((h3 a 2) - 1)) →
          ((¬ r4 = 0 →
            (0 ≤ v2 ∧ v2 < 625) ∧
            (∀ h5, h5 = mvUpd h3 (s + 2) v2 0 →
            SE_build_31 g h5 s e a (mw (l4 + (-1))) (some v2) (some r4) (some 0) K)) ∧
          (r4 = 0 →
            SE_avoidingStep g h3 s e a v2 (fun r7 h6 =>
              ((r7 = (-1) →
                (0 ≤ v2 ∧ v2 < 625) ∧
                (∀ h8, h8 = mvUpd h6 (s + 2) v2 0 →
                SE_build_31 g h8 s e a (mw (l4 + (-1))) (some v2) (some r4) (some 0) K)) ∧
              (¬ r7 = (-1) →
                (0 ≤ v2 ∧ v2 < 625) ∧
                (∀ h9, h9 = mvUpd h6 (s + 2) v2 1 →
                SE_build_31 g h9 s e a (mw (l4 + (-1))) (some v2) (some r4) (some 0) K))))))) ∧
        (v2 = (mw ((h3 a 2) - 1)) →
          ((¬ r4 = 0 →
            (0 ≤ v2 ∧ v2 < 625) ∧
            (∀ h10, h10 = mvUpd h3 (s + 2) v2 0 →
            SE_build_31 g h10 s e a (mw (l4 + (-1))) (some v2) (some r4) (some 1) K)) ∧
          (r4 = 0 →
            (0 ≤ v2 ∧ v2 < 625) ∧
            (∀ h11, h11 = mvUpd h3 (s + 2) v2 1 →
            SE_build_31 g h11 s e a (mw (l4 + (-1))) (some v2) (some r4) (some 1) K)))))) ∧
      (¬ r4 = 0 →
        (∀ h12, h12 = mvUpd h3 s 3 (mw ((h3 s 3) + 1)) →
        (0 ≤ v2 ∧ v2 < 625) ∧
        (∀ h13, h13 = mvUpd h12 s 4 (h12 (a + 3) v2) →
        ((¬ v2 = (mw ((h13 a 2) - 1)) →
          ((¬ r4 = 0 →
            (0 ≤ v2 ∧ v2 < 625) ∧
            (∀ h14, h14 = mvUpd h13 (s + 2) v2 0 →
            SE_build_31 g h14 s e a (mw (l4 + (-1))) (some v2) (some r4) (some 0) K)) ∧
          (r4 = 0 →
            SE_avoidingStep g h13 s e a v2 (fun r16 h15 =>
              ((r16 = (-1) →
                (0 ≤ v2 ∧ v2 < 625) ∧
                (∀ h17, h17 = mvUpd h15 (s + 2) v2 0 →
                SE_build_31 g h17 s e a (mw (l4 + (-1))) (some v2) (some r4) (some 0) K)) ∧
              (¬ r16 = (-1) →
                (0 ≤ v2 ∧ v2 < 625) ∧
                (∀ h18, h18 = mvUpd h15 (s + 2) v2 1 →
                SE_build_31 g h18 s e a (mw (l4 + (-1))) (some v2) (some r4) (some 0) K))))))) ∧
        (v2 = (mw ((h13 a 2) - 1)) →
          ((¬ r4 = 0 →
            (0 ≤ v2 ∧ v2 < 625) ∧
            (∀ h19, h19 = mvUpd h13 (s + 2) v2 0 →
            SE_build_31 g h19 s e a (mw (l4 + (-1))) (some v2) (some r4) (some 1) K)) ∧
          (r4 = 0 →
            (0 ≤ v2 ∧ v2 < 625) ∧
            (∀ h20, h20 = mvUpd h13 (s + 2) v2 1 →
            SE_build_31 g h20 s e a (mw (l4 + (-1))) (some v2) (some r4) (some 1) K)))))))))))))) : SE_build_31 g h s e a l4 u5 u6 u7 K := by
  refine rc_iload mq208 (mvDec_of cd208 rfl) rfl ?_
  refine rc_if_lt (t := 143) mq208 (mvDec_of cd208 rfl) rfl (fun hc => ?_) (fun hc => ?_)
  · replace H := H.1 hc
    refine rc_aload_n mq208 (mvDec_of cd208 rfl) rfl ?_
    refine rc_aload_n mq208 (mvDec_of cd208 rfl) rfl ?_
    refine rc_aload_n mq208 (mvDec_of cd208 rfl) rfl ?_
    refine rc_callV [mvR s, mvR e, mvR a] [] [some (mvR s), some (mvR e), some (mvR a), none, none, none] mq208 (mvDec_of cd208 rfl) lk_5_54 mq184 (by decide) rfl rfl (Nat.le_of_ble_eq_true rfl) (Nat.le_of_ble_eq_true rfl) (by decide) rfl (miS0 hs) rfl (rv_bind H (fun h1 H => ?_))
    exact rc_vret mq208 (mvDec_of cd208 rfl) ⟨_, rfl, rfl, H⟩
  · replace H := H.2 hc
    refine rc_aload_n mq208 (mvDec_of cd208 rfl) rfl ?_
    refine rc_getR (a + 4) mq208 (mvDec_of cd208 rfl) fl_5_35 (miA0 ha) rfl (mgA7 ha hG) (Nat.succ_ne_zero _) ?_
    refine rc_iload mq208 (mvDec_of cd208 rfl) rfl ?_
    obtain ⟨⟨hb0, hb1⟩, H⟩ := H
    refine rc_iald mq208 (mvDec_of cd208 rfl) (miA4 ha) hb0 hb1 ?_
    refine rc_top (fun v2 hv => ?_)
    replace H := H v2 hv
    refine rc_istore [some (mvR s), some (mvR e), some (mvR a), some (mvR 31), some (mvI l4), some (mvI v2), u6.map mvI, u7.map mvI] mq208 (mvDec_of cd208 rfl) rfl ?_
    refine rc_aload_n mq208 (mvDec_of cd208 rfl) rfl ?_
    refine rc_aload_n mq208 (mvDec_of cd208 rfl) rfl ?_
    refine rc_aload_n mq208 (mvDec_of cd208 rfl) rfl ?_
    refine rc_getR (a + 3) mq208 (mvDec_of cd208 rfl) fl_5_38 (miA0 ha) rfl (mgA6 ha hG) (Nat.succ_ne_zero _) ?_
    refine rc_iload mq208 (mvDec_of cd208 rfl) rfl ?_
    obtain ⟨⟨hb0, hb1⟩, H⟩ := H
    refine rc_iald mq208 (mvDec_of cd208 rfl) (miA3 ha) hb0 hb1 ?_
    refine rc_callV [mvR 31, mvR e, mvI (h (a + 3) v2)] [] [some (mvR 31), some (mvR e), some (mvI (h (a + 3) v2))] mq208 (mvDec_of cd208 rfl) lk_5_41 mq154 (by decide) rfl rfl (Nat.le_of_ble_eq_true rfl) (Nat.le_of_ble_eq_true rfl) (by decide) rfl mis31 rfl (ri_bind H (fun r4 h3 H => ?_))
    refine rc_istore [some (mvR s), some (mvR e), some (mvR a), some (mvR 31), some (mvI l4), some (mvI v2), some (mvI r4), u7.map mvI] mq208 (mvDec_of cd208 rfl) rfl ?_
    refine rc_iload mq208 (mvDec_of cd208 rfl) rfl ?_
    refine rc_if_eq (t := 85) mq208 (mvDec_of cd208 rfl) rfl (fun hc => ?_) (fun hc => ?_)
    · replace H := H.1 hc
      refine rc_iload mq208 (mvDec_of cd208 rfl) rfl ?_
      refine rc_aload_n mq208 (mvDec_of cd208 rfl) rfl ?_
      refine rc_getI 2 mq208 (mvDec_of cd208 rfl) fl_5_47 (miA0 ha) rfl (by decide) (by decide) ?_
      refine rc_iconst mq208 (mvDec_of cd208 rfl) (by decide) ?_
      refine rc_isub mq208 (mvDec_of cd208 rfl) ?_
      refine rc_icmp_ne (t := 100) mq208 (mvDec_of cd208 rfl) rfl (fun hc => ?_) (fun hc => ?_)
      · replace H := H.1 hc
        refine rc_iconst mq208 (mvDec_of cd208 rfl) (by decide) ?_
        refine rc_istore [some (mvR s), some (mvR e), some (mvR a), some (mvR 31), some (mvI l4), some (mvI v2), some (mvI r4), some (mvI 0)] mq208 (mvDec_of cd208 rfl) rfl ?_
        refine rc_aload_n mq208 (mvDec_of cd208 rfl) rfl ?_
        refine rc_getR (s + 2) mq208 (mvDec_of cd208 rfl) fl_5_15 (miS0 hs) rfl (mgS5 hs hG) (Nat.succ_ne_zero _) ?_
        refine rc_iload mq208 (mvDec_of cd208 rfl) rfl ?_
        refine rc_iload mq208 (mvDec_of cd208 rfl) rfl ?_
        refine rc_if_ne (t := 135) mq208 (mvDec_of cd208 rfl) rfl (fun hc => ?_) (fun hc => ?_)
        · replace H := H.1 hc
          refine rc_iconst mq208 (mvDec_of cd208 rfl) (by decide) ?_
          obtain ⟨⟨hb0, hb1⟩, H⟩ := H
          refine rc_bast mq208 (mvDec_of cd208 rfl) (miS2 hs) hb0 hb1 (Or.inl rfl) ?_
          refine rc_heap (fun h5 hh => ?_)
          replace H := H h5 hh
          refine rc_iinc [some (mvR s), some (mvR e), some (mvR a), some (mvR 31), some (mvI (mw (l4 + (-1)))), some (mvI v2), some (mvI r4), some (mvI 0)] mq208 (mvDec_of cd208 rfl) rfl rfl ?_
          refine rc_goto (t := 31) mq208 (mvDec_of cd208 rfl) rfl ?_
          exact H
        · replace H := H.2 hc
          refine rc_iload mq208 (mvDec_of cd208 rfl) rfl ?_
          refine rc_ifF (t := 131) mq208 (mvDec_of cd208 rfl) rfl rfl ?_
          refine rc_aload_n mq208 (mvDec_of cd208 rfl) rfl ?_
          refine rc_aload_n mq208 (mvDec_of cd208 rfl) rfl ?_
          refine rc_aload_n mq208 (mvDec_of cd208 rfl) rfl ?_
          refine rc_iload mq208 (mvDec_of cd208 rfl) rfl ?_
          refine rc_callV [mvR s, mvR e, mvR a, mvI v2] [mvI v2, mvR (s + 2)] [some (mvR s), some (mvR e), some (mvR a), some (mvI v2), none, none] mq208 (mvDec_of cd208 rfl) lk_5_50 mq155 (by decide) rfl rfl (Nat.le_of_ble_eq_true rfl) (Nat.le_of_ble_eq_true rfl) (by decide) rfl (miS0 hs) rfl (ri_bind H (fun r7 h6 H => ?_))
          refine rc_iconst mq208 (mvDec_of cd208 rfl) (by decide) ?_
          refine rc_icmp_eq (t := 135) mq208 (mvDec_of cd208 rfl) rfl (fun hc => ?_) (fun hc => ?_)
          · replace H := H.1 hc
            refine rc_iconst mq208 (mvDec_of cd208 rfl) (by decide) ?_
            obtain ⟨⟨hb0, hb1⟩, H⟩ := H
            refine rc_bast mq208 (mvDec_of cd208 rfl) (miS2 hs) hb0 hb1 (Or.inl rfl) ?_
            refine rc_heap (fun h8 hh => ?_)
            replace H := H h8 hh
            refine rc_iinc [some (mvR s), some (mvR e), some (mvR a), some (mvR 31), some (mvI (mw (l4 + (-1)))), some (mvI v2), some (mvI r4), some (mvI 0)] mq208 (mvDec_of cd208 rfl) rfl rfl ?_
            refine rc_goto (t := 31) mq208 (mvDec_of cd208 rfl) rfl ?_
            exact H
          · replace H := H.2 hc
            refine rc_iconst mq208 (mvDec_of cd208 rfl) (by decide) ?_
            refine rc_goto (t := 136) mq208 (mvDec_of cd208 rfl) rfl ?_
            obtain ⟨⟨hb0, hb1⟩, H⟩ := H
            refine rc_bast mq208 (mvDec_of cd208 rfl) (miS2 hs) hb0 hb1 (Or.inr rfl) ?_
            refine rc_heap (fun h9 hh => ?_)
            replace H := H h9 hh
            refine rc_iinc [some (mvR s), some (mvR e), some (mvR a), some (mvR 31), some (mvI (mw (l4 + (-1)))), some (mvI v2), some (mvI r4), some (mvI 0)] mq208 (mvDec_of cd208 rfl) rfl rfl ?_
            refine rc_goto (t := 31) mq208 (mvDec_of cd208 rfl) rfl ?_
            exact H
      · replace H := H.2 hc
        refine rc_iconst mq208 (mvDec_of cd208 rfl) (by decide) ?_
        refine rc_goto (t := 101) mq208 (mvDec_of cd208 rfl) rfl ?_
        refine rc_istore [some (mvR s), some (mvR e), some (mvR a), some (mvR 31), some (mvI l4), some (mvI v2), some (mvI r4), some (mvI 1)] mq208 (mvDec_of cd208 rfl) rfl ?_
        refine rc_aload_n mq208 (mvDec_of cd208 rfl) rfl ?_
        refine rc_getR (s + 2) mq208 (mvDec_of cd208 rfl) fl_5_15 (miS0 hs) rfl (mgS5 hs hG) (Nat.succ_ne_zero _) ?_
        refine rc_iload mq208 (mvDec_of cd208 rfl) rfl ?_
        refine rc_iload mq208 (mvDec_of cd208 rfl) rfl ?_
        refine rc_if_ne (t := 135) mq208 (mvDec_of cd208 rfl) rfl (fun hc => ?_) (fun hc => ?_)
        · replace H := H.1 hc
          refine rc_iconst mq208 (mvDec_of cd208 rfl) (by decide) ?_
          obtain ⟨⟨hb0, hb1⟩, H⟩ := H
          refine rc_bast mq208 (mvDec_of cd208 rfl) (miS2 hs) hb0 hb1 (Or.inl rfl) ?_
          refine rc_heap (fun h10 hh => ?_)
          replace H := H h10 hh
          refine rc_iinc [some (mvR s), some (mvR e), some (mvR a), some (mvR 31), some (mvI (mw (l4 + (-1)))), some (mvI v2), some (mvI r4), some (mvI 1)] mq208 (mvDec_of cd208 rfl) rfl rfl ?_
          refine rc_goto (t := 31) mq208 (mvDec_of cd208 rfl) rfl ?_
          exact H
        · replace H := H.2 hc
          refine rc_iload mq208 (mvDec_of cd208 rfl) rfl ?_
          refine rc_ifT (t := 131) mq208 (mvDec_of cd208 rfl) rfl rfl ?_
          refine rc_iconst mq208 (mvDec_of cd208 rfl) (by decide) ?_
          refine rc_goto (t := 136) mq208 (mvDec_of cd208 rfl) rfl ?_
          obtain ⟨⟨hb0, hb1⟩, H⟩ := H
          refine rc_bast mq208 (mvDec_of cd208 rfl) (miS2 hs) hb0 hb1 (Or.inr rfl) ?_
          refine rc_heap (fun h11 hh => ?_)
          replace H := H h11 hh
          refine rc_iinc [some (mvR s), some (mvR e), some (mvR a), some (mvR 31), some (mvI (mw (l4 + (-1)))), some (mvI v2), some (mvI r4), some (mvI 1)] mq208 (mvDec_of cd208 rfl) rfl rfl ?_
          refine rc_goto (t := 31) mq208 (mvDec_of cd208 rfl) rfl ?_
          exact H
    · replace H := H.2 hc
      refine rc_aload_n mq208 (mvDec_of cd208 rfl) rfl ?_
      refine rc_dup mq208 (mvDec_of cd208 rfl) rfl ?_
      refine rc_getI 3 mq208 (mvDec_of cd208 rfl) fl_5_23 (miS0 hs) rfl (by decide) (by decide) ?_
      refine rc_iconst mq208 (mvDec_of cd208 rfl) (by decide) ?_
      refine rc_iadd mq208 (mvDec_of cd208 rfl) ?_
      refine rc_putI 3 mq208 (mvDec_of cd208 rfl) fl_5_23 (miS0 hs) rfl (fun z => absurd z (by decide)) (Or.inl rfl) ?_
      refine rc_heap (fun h12 hh => ?_)
      replace H := H h12 hh
      refine rc_aload_n mq208 (mvDec_of cd208 rfl) rfl ?_
      refine rc_aload_n mq208 (mvDec_of cd208 rfl) rfl ?_
      refine rc_getR (a + 3) mq208 (mvDec_of cd208 rfl) fl_5_38 (miA0 ha) rfl (mgA6 ha hG) (Nat.succ_ne_zero _) ?_
      refine rc_iload mq208 (mvDec_of cd208 rfl) rfl ?_
      obtain ⟨⟨hb0, hb1⟩, H⟩ := H
      refine rc_iald mq208 (mvDec_of cd208 rfl) (miA3 ha) hb0 hb1 ?_
      refine rc_putI 4 mq208 (mvDec_of cd208 rfl) fl_5_27 (miS0 hs) rfl (fun z => absurd z (by decide)) (Or.inl rfl) ?_
      refine rc_heap (fun h13 hh => ?_)
      replace H := H h13 hh
      refine rc_iload mq208 (mvDec_of cd208 rfl) rfl ?_
      refine rc_aload_n mq208 (mvDec_of cd208 rfl) rfl ?_
      refine rc_getI 2 mq208 (mvDec_of cd208 rfl) fl_5_47 (miA0 ha) rfl (by decide) (by decide) ?_
      refine rc_iconst mq208 (mvDec_of cd208 rfl) (by decide) ?_
      refine rc_isub mq208 (mvDec_of cd208 rfl) ?_
      refine rc_icmp_ne (t := 100) mq208 (mvDec_of cd208 rfl) rfl (fun hc => ?_) (fun hc => ?_)
      · replace H := H.1 hc
        refine rc_iconst mq208 (mvDec_of cd208 rfl) (by decide) ?_
        refine rc_istore [some (mvR s), some (mvR e), some (mvR a), some (mvR 31), some (mvI l4), some (mvI v2), some (mvI r4), some (mvI 0)] mq208 (mvDec_of cd208 rfl) rfl ?_
        refine rc_aload_n mq208 (mvDec_of cd208 rfl) rfl ?_
        refine rc_getR (s + 2) mq208 (mvDec_of cd208 rfl) fl_5_15 (miS0 hs) rfl (mgS5 hs hG) (Nat.succ_ne_zero _) ?_
        refine rc_iload mq208 (mvDec_of cd208 rfl) rfl ?_
        refine rc_iload mq208 (mvDec_of cd208 rfl) rfl ?_
        refine rc_if_ne (t := 135) mq208 (mvDec_of cd208 rfl) rfl (fun hc => ?_) (fun hc => ?_)
        · replace H := H.1 hc
          refine rc_iconst mq208 (mvDec_of cd208 rfl) (by decide) ?_
          obtain ⟨⟨hb0, hb1⟩, H⟩ := H
          refine rc_bast mq208 (mvDec_of cd208 rfl) (miS2 hs) hb0 hb1 (Or.inl rfl) ?_
          refine rc_heap (fun h14 hh => ?_)
          replace H := H h14 hh
          refine rc_iinc [some (mvR s), some (mvR e), some (mvR a), some (mvR 31), some (mvI (mw (l4 + (-1)))), some (mvI v2), some (mvI r4), some (mvI 0)] mq208 (mvDec_of cd208 rfl) rfl rfl ?_
          refine rc_goto (t := 31) mq208 (mvDec_of cd208 rfl) rfl ?_
          exact H
        · replace H := H.2 hc
          refine rc_iload mq208 (mvDec_of cd208 rfl) rfl ?_
          refine rc_ifF (t := 131) mq208 (mvDec_of cd208 rfl) rfl rfl ?_
          refine rc_aload_n mq208 (mvDec_of cd208 rfl) rfl ?_
          refine rc_aload_n mq208 (mvDec_of cd208 rfl) rfl ?_
          refine rc_aload_n mq208 (mvDec_of cd208 rfl) rfl ?_
          refine rc_iload mq208 (mvDec_of cd208 rfl) rfl ?_
          refine rc_callV [mvR s, mvR e, mvR a, mvI v2] [mvI v2, mvR (s + 2)] [some (mvR s), some (mvR e), some (mvR a), some (mvI v2), none, none] mq208 (mvDec_of cd208 rfl) lk_5_50 mq155 (by decide) rfl rfl (Nat.le_of_ble_eq_true rfl) (Nat.le_of_ble_eq_true rfl) (by decide) rfl (miS0 hs) rfl (ri_bind H (fun r16 h15 H => ?_))
          refine rc_iconst mq208 (mvDec_of cd208 rfl) (by decide) ?_
          refine rc_icmp_eq (t := 135) mq208 (mvDec_of cd208 rfl) rfl (fun hc => ?_) (fun hc => ?_)
          · replace H := H.1 hc
            refine rc_iconst mq208 (mvDec_of cd208 rfl) (by decide) ?_
            obtain ⟨⟨hb0, hb1⟩, H⟩ := H
            refine rc_bast mq208 (mvDec_of cd208 rfl) (miS2 hs) hb0 hb1 (Or.inl rfl) ?_
            refine rc_heap (fun h17 hh => ?_)
            replace H := H h17 hh
            refine rc_iinc [some (mvR s), some (mvR e), some (mvR a), some (mvR 31), some (mvI (mw (l4 + (-1)))), some (mvI v2), some (mvI r4), some (mvI 0)] mq208 (mvDec_of cd208 rfl) rfl rfl ?_
            refine rc_goto (t := 31) mq208 (mvDec_of cd208 rfl) rfl ?_
            exact H
          · replace H := H.2 hc
            refine rc_iconst mq208 (mvDec_of cd208 rfl) (by decide) ?_
            refine rc_goto (t := 136) mq208 (mvDec_of cd208 rfl) rfl ?_
            obtain ⟨⟨hb0, hb1⟩, H⟩ := H
            refine rc_bast mq208 (mvDec_of cd208 rfl) (miS2 hs) hb0 hb1 (Or.inr rfl) ?_
            refine rc_heap (fun h18 hh => ?_)
            replace H := H h18 hh
            refine rc_iinc [some (mvR s), some (mvR e), some (mvR a), some (mvR 31), some (mvI (mw (l4 + (-1)))), some (mvI v2), some (mvI r4), some (mvI 0)] mq208 (mvDec_of cd208 rfl) rfl rfl ?_
            refine rc_goto (t := 31) mq208 (mvDec_of cd208 rfl) rfl ?_
            exact H
      · replace H := H.2 hc
        refine rc_iconst mq208 (mvDec_of cd208 rfl) (by decide) ?_
        refine rc_goto (t := 101) mq208 (mvDec_of cd208 rfl) rfl ?_
        refine rc_istore [some (mvR s), some (mvR e), some (mvR a), some (mvR 31), some (mvI l4), some (mvI v2), some (mvI r4), some (mvI 1)] mq208 (mvDec_of cd208 rfl) rfl ?_
        refine rc_aload_n mq208 (mvDec_of cd208 rfl) rfl ?_
        refine rc_getR (s + 2) mq208 (mvDec_of cd208 rfl) fl_5_15 (miS0 hs) rfl (mgS5 hs hG) (Nat.succ_ne_zero _) ?_
        refine rc_iload mq208 (mvDec_of cd208 rfl) rfl ?_
        refine rc_iload mq208 (mvDec_of cd208 rfl) rfl ?_
        refine rc_if_ne (t := 135) mq208 (mvDec_of cd208 rfl) rfl (fun hc => ?_) (fun hc => ?_)
        · replace H := H.1 hc
          refine rc_iconst mq208 (mvDec_of cd208 rfl) (by decide) ?_
          obtain ⟨⟨hb0, hb1⟩, H⟩ := H
          refine rc_bast mq208 (mvDec_of cd208 rfl) (miS2 hs) hb0 hb1 (Or.inl rfl) ?_
          refine rc_heap (fun h19 hh => ?_)
          replace H := H h19 hh
          refine rc_iinc [some (mvR s), some (mvR e), some (mvR a), some (mvR 31), some (mvI (mw (l4 + (-1)))), some (mvI v2), some (mvI r4), some (mvI 1)] mq208 (mvDec_of cd208 rfl) rfl rfl ?_
          refine rc_goto (t := 31) mq208 (mvDec_of cd208 rfl) rfl ?_
          exact H
        · replace H := H.2 hc
          refine rc_iload mq208 (mvDec_of cd208 rfl) rfl ?_
          refine rc_ifT (t := 131) mq208 (mvDec_of cd208 rfl) rfl rfl ?_
          refine rc_iconst mq208 (mvDec_of cd208 rfl) (by decide) ?_
          refine rc_goto (t := 136) mq208 (mvDec_of cd208 rfl) rfl ?_
          obtain ⟨⟨hb0, hb1⟩, H⟩ := H
          refine rc_bast mq208 (mvDec_of cd208 rfl) (miS2 hs) hb0 hb1 (Or.inr rfl) ?_
          refine rc_heap (fun h20 hh => ?_)
          replace H := H h20 hh
          refine rc_iinc [some (mvR s), some (mvR e), some (mvR a), some (mvR 31), some (mvI (mw (l4 + (-1)))), some (mvI v2), some (mvI r4), some (mvI 1)] mq208 (mvDec_of cd208 rfl) rfl rfl ?_
          refine rc_goto (t := 31) mq208 (mvDec_of cd208 rfl) rfl ?_
          exact H
