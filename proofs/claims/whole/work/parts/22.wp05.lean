/-! out of the bytecode, by program: what suffices for a method (_wp), for a loop at its head (_place_wp) -/
abbrev LT_numberPlaces (g : Nat → Nat → Nat) (h : Nat → Int → Int) (a : Nat) (e : Nat) (K : (Nat → Int → Int) → Prop) : Prop := RV 89 0 [some (mvR a), some (mvR e), none, none] [] g h K
abbrev LT_numberPlaces_19 (g : Nat → Nat → Nat) (h : Nat → Int → Int) (a : Nat) (e : Nat) (l2 : Int) (u3 : Option Int) (K : (Nat → Int → Int) → Prop) : Prop := RV 89 19 [some (mvR a), some (mvR e), some (mvI l2), u3.map mvI] [] g h K
abbrev LT_numberPlaces_38 (g : Nat → Nat → Nat) (h : Nat → Int → Int) (a : Nat) (e : Nat) (l2 : Int) (l3 : Int) (K : (Nat → Int → Int) → Prop) : Prop := RV 89 38 [some (mvR a), some (mvR e), some (mvI l2), some (mvI l3)] [] g h K
theorem LT_numberPlaces_wp {sw : Bool} {g : Nat → Nat → Nat} {h : Nat → Int → Int} {a : Nat} {e : Nat} {K : (Nat → Int → Int) → Prop} (hG : Gok sw g) (ha : LtId a) (he : EvId e) (H :
  (∀ h1, h1 = mvUpd h (a + 3) 0 0 →
  (∀ h2, h2 = mvUpd h1 a 2 1 →
  (∀ v3, v3 = (mw ((h2 e 0) - 1)) →
  LT_numberPlaces_19 g h2 a e v3 none K)))) : LT_numberPlaces g h a e K := by
  refine rc_aload_n mq89 (mvDec_of cd89 rfl) rfl ?_
  refine rc_getR (a + 3) mq89 (mvDec_of cd89 rfl) fl_3_18 (miA0 ha) rfl (mgA6 ha hG) (Nat.succ_ne_zero _) ?_
  refine rc_iconst mq89 (mvDec_of cd89 rfl) (by decide) ?_
  refine rc_iconst mq89 (mvDec_of cd89 rfl) (by decide) ?_
  refine rc_iast mq89 (mvDec_of cd89 rfl) (miA3 ha) (by decide) (by decide) ?_
  refine rc_heap (fun h1 hh => ?_)
  replace H := H h1 hh
  refine rc_aload_n mq89 (mvDec_of cd89 rfl) rfl ?_
  refine rc_iconst mq89 (mvDec_of cd89 rfl) (by decide) ?_
  refine rc_putI 2 mq89 (mvDec_of cd89 rfl) fl_3_56 (miA0 ha) rfl (fun z => absurd z (by decide)) (Or.inl rfl) ?_
  refine rc_heap (fun h2 hh => ?_)
  replace H := H h2 hh
  refine rc_aload_n mq89 (mvDec_of cd89 rfl) rfl ?_
  refine rc_getI 0 mq89 (mvDec_of cd89 rfl) fl_3_59 (miE0 he) rfl (by decide) (by decide) ?_
  refine rc_iconst mq89 (mvDec_of cd89 rfl) (by decide) ?_
  refine rc_isub mq89 (mvDec_of cd89 rfl) ?_
  refine rc_top (fun v3 hv => ?_)
  replace H := H v3 hv
  refine rc_istore_n [some (mvR a), some (mvR e), some (mvI v3), none] mq89 (mvDec_of cd89 rfl) rfl ?_
  exact H
theorem LT_numberPlaces_19_wp {sw : Bool} {g : Nat → Nat → Nat} {h : Nat → Int → Int} {a : Nat} {e : Nat} {l2 : Int} {u3 : Option Int} {K : (Nat → Int → Int) → Prop} (hG : Gok sw g) (ha : LtId a) (he : EvId e) (H :
  ((l2 < 0 →
    K h) ∧
  (0 ≤ l2 →
    (0 ≤ l2 ∧ l2 < 4) ∧
    (∀ h1, h1 = mvUpd h (a + 2) l2 (h a 2) →
    (∀ v2, v2 = (h1 a 2) →
    LT_numberPlaces_38 g h1 a e l2 v2 K))))) : LT_numberPlaces_19 g h a e l2 u3 K := by
  refine rc_iload_n mq89 (mvDec_of cd89 rfl) rfl ?_
  refine rc_if_lt (t := 110) mq89 (mvDec_of cd89 rfl) rfl (fun hc => ?_) (fun hc => ?_)
  · replace H := H.1 hc
    exact rc_vret mq89 (mvDec_of cd89 rfl) ⟨_, rfl, rfl, H⟩
  · replace H := H.2 hc
    refine rc_aload_n mq89 (mvDec_of cd89 rfl) rfl ?_
    refine rc_getR (a + 2) mq89 (mvDec_of cd89 rfl) fl_3_15 (miA0 ha) rfl (mgA5 ha hG) (Nat.succ_ne_zero _) ?_
    refine rc_iload_n mq89 (mvDec_of cd89 rfl) rfl ?_
    refine rc_aload_n mq89 (mvDec_of cd89 rfl) rfl ?_
    refine rc_getI 2 mq89 (mvDec_of cd89 rfl) fl_3_56 (miA0 ha) rfl (by decide) (by decide) ?_
    obtain ⟨⟨hb0, hb1⟩, H⟩ := H
    refine rc_iast mq89 (mvDec_of cd89 rfl) (miA2 ha) hb0 hb1 ?_
    refine rc_heap (fun h1 hh => ?_)
    replace H := H h1 hh
    refine rc_aload_n mq89 (mvDec_of cd89 rfl) rfl ?_
    refine rc_getI 2 mq89 (mvDec_of cd89 rfl) fl_3_56 (miA0 ha) rfl (by decide) (by decide) ?_
    refine rc_top (fun v2 hv => ?_)
    replace H := H v2 hv
    refine rc_istore_n [some (mvR a), some (mvR e), some (mvI l2), some (mvI v2)] mq89 (mvDec_of cd89 rfl) rfl ?_
    exact H
theorem LT_numberPlaces_38_wp {sw : Bool} {g : Nat → Nat → Nat} {h : Nat → Int → Int} {a : Nat} {e : Nat} {l2 : Int} {l3 : Int} {K : (Nat → Int → Int) → Prop} (hG : Gok sw g) (ha : LtId a) (he : EvId e) (H :
  (0 ≤ l2 ∧ l2 < 4) ∧
  (0 ≤ l2 ∧ l2 < 4) ∧
  (((mw ((h (a + 2) l2) * (mw ((h (e + 1) l2) + 1)))) ≤ l3 →
    (0 ≤ l2 ∧ l2 < 4) ∧
    (∀ h1, h1 = mvUpd h a 2 (mw ((h a 2) * (mw ((h (e + 1) l2) + 1)))) →
    LT_numberPlaces_19 g h1 a e (mw (l2 + (-1))) (some l3) K)) ∧
  (l3 < (mw ((h (a + 2) l2) * (mw ((h (e + 1) l2) + 1)))) →
    (0 ≤ l2 ∧ l2 < 4) ∧
    (0 ≤ (mw (l3 - (h (a + 2) l2))) ∧ (mw (l3 - (h (a + 2) l2))) < 625) ∧
    EV_with g h e (h (a + 3) (mw (l3 - (h (a + 2) l2)))) l2 (fun r3 h2 =>
      (0 ≤ l3 ∧ l3 < 625) ∧
      (∀ h4, h4 = mvUpd h2 (a + 3) l3 r3 →
      LT_numberPlaces_38 g h4 a e l2 (mw (l3 + 1)) K))))) : LT_numberPlaces_38 g h a e l2 l3 K := by
  refine rc_iload_n mq89 (mvDec_of cd89 rfl) rfl ?_
  refine rc_aload_n mq89 (mvDec_of cd89 rfl) rfl ?_
  refine rc_getR (a + 2) mq89 (mvDec_of cd89 rfl) fl_3_15 (miA0 ha) rfl (mgA5 ha hG) (Nat.succ_ne_zero _) ?_
  refine rc_iload_n mq89 (mvDec_of cd89 rfl) rfl ?_
  obtain ⟨⟨hb0, hb1⟩, H⟩ := H
  refine rc_iald mq89 (mvDec_of cd89 rfl) (miA2 ha) hb0 hb1 ?_
  refine rc_aload_n mq89 (mvDec_of cd89 rfl) rfl ?_
  refine rc_getR (e + 1) mq89 (mvDec_of cd89 rfl) fl_3_62 (miE0 he) rfl (mgE2 he hG) (Nat.succ_ne_zero _) ?_
  refine rc_iload_n mq89 (mvDec_of cd89 rfl) rfl ?_
  obtain ⟨⟨hb0, hb1⟩, H⟩ := H
  refine rc_iald mq89 (mvDec_of cd89 rfl) (miE1 he) hb0 hb1 ?_
  refine rc_iconst mq89 (mvDec_of cd89 rfl) (by decide) ?_
  refine rc_iadd mq89 (mvDec_of cd89 rfl) ?_
  refine rc_imul mq89 (mvDec_of cd89 rfl) ?_
  refine rc_icmp_ge (t := 87) mq89 (mvDec_of cd89 rfl) rfl (fun hc => ?_) (fun hc => ?_)
  · replace H := H.1 hc
    refine rc_aload_n mq89 (mvDec_of cd89 rfl) rfl ?_
    refine rc_dup mq89 (mvDec_of cd89 rfl) rfl ?_
    refine rc_getI 2 mq89 (mvDec_of cd89 rfl) fl_3_56 (miA0 ha) rfl (by decide) (by decide) ?_
    refine rc_aload_n mq89 (mvDec_of cd89 rfl) rfl ?_
    refine rc_getR (e + 1) mq89 (mvDec_of cd89 rfl) fl_3_62 (miE0 he) rfl (mgE2 he hG) (Nat.succ_ne_zero _) ?_
    refine rc_iload_n mq89 (mvDec_of cd89 rfl) rfl ?_
    obtain ⟨⟨hb0, hb1⟩, H⟩ := H
    refine rc_iald mq89 (mvDec_of cd89 rfl) (miE1 he) hb0 hb1 ?_
    refine rc_iconst mq89 (mvDec_of cd89 rfl) (by decide) ?_
    refine rc_iadd mq89 (mvDec_of cd89 rfl) ?_
    refine rc_imul mq89 (mvDec_of cd89 rfl) ?_
    refine rc_putI 2 mq89 (mvDec_of cd89 rfl) fl_3_56 (miA0 ha) rfl (fun z => absurd z (by decide)) (Or.inl rfl) ?_
    refine rc_heap (fun h1 hh => ?_)
    replace H := H h1 hh
    refine rc_iinc [some (mvR a), some (mvR e), some (mvI (mw (l2 + (-1)))), some (mvI l3)] mq89 (mvDec_of cd89 rfl) rfl rfl ?_
    refine rc_goto (t := 19) mq89 (mvDec_of cd89 rfl) rfl ?_
    exact H
  · replace H := H.2 hc
    refine rc_aload_n mq89 (mvDec_of cd89 rfl) rfl ?_
    refine rc_getR (a + 3) mq89 (mvDec_of cd89 rfl) fl_3_18 (miA0 ha) rfl (mgA6 ha hG) (Nat.succ_ne_zero _) ?_
    refine rc_iload_n mq89 (mvDec_of cd89 rfl) rfl ?_
    refine rc_aload_n mq89 (mvDec_of cd89 rfl) rfl ?_
    refine rc_aload_n mq89 (mvDec_of cd89 rfl) rfl ?_
    refine rc_getR (a + 3) mq89 (mvDec_of cd89 rfl) fl_3_18 (miA0 ha) rfl (mgA6 ha hG) (Nat.succ_ne_zero _) ?_
    refine rc_iload_n mq89 (mvDec_of cd89 rfl) rfl ?_
    refine rc_aload_n mq89 (mvDec_of cd89 rfl) rfl ?_
    refine rc_getR (a + 2) mq89 (mvDec_of cd89 rfl) fl_3_15 (miA0 ha) rfl (mgA5 ha hG) (Nat.succ_ne_zero _) ?_
    refine rc_iload_n mq89 (mvDec_of cd89 rfl) rfl ?_
    obtain ⟨⟨hb0, hb1⟩, H⟩ := H
    refine rc_iald mq89 (mvDec_of cd89 rfl) (miA2 ha) hb0 hb1 ?_
    refine rc_isub mq89 (mvDec_of cd89 rfl) ?_
    obtain ⟨⟨hb0, hb1⟩, H⟩ := H
    refine rc_iald mq89 (mvDec_of cd89 rfl) (miA3 ha) hb0 hb1 ?_
    refine rc_iload_n mq89 (mvDec_of cd89 rfl) rfl ?_
    refine rc_callV [mvR e, mvI (h (a + 3) (mw (l3 - (h (a + 2) l2)))), mvI l2] [mvI l3, mvR (a + 3)] [some (mvR e), some (mvI (h (a + 3) (mw (l3 - (h (a + 2) l2))))), some (mvI l2)] mq89 (mvDec_of cd89 rfl) lk_3_65 mq24 (by decide) rfl rfl (Nat.le_of_ble_eq_true rfl) (Nat.le_of_ble_eq_true rfl) (by decide) rfl (miE0 he) rfl (ri_bind H (fun r3 h2 H => ?_))
    obtain ⟨⟨hb0, hb1⟩, H⟩ := H
    refine rc_iast mq89 (mvDec_of cd89 rfl) (miA3 ha) hb0 hb1 ?_
    refine rc_heap (fun h4 hh => ?_)
    replace H := H h4 hh
    refine rc_iinc [some (mvR a), some (mvR e), some (mvI l2), some (mvI (mw (l3 + 1)))] mq89 (mvDec_of cd89 rfl) rfl rfl ?_
    refine rc_goto (t := 38) mq89 (mvDec_of cd89 rfl) rfl ?_
    exact H
abbrev LT_sortByLevel (g : Nat → Nat → Nat) (h : Nat → Int → Int) (a : Nat) (K : (Nat → Int → Int) → Prop) : Prop := RV 90 0 [some (mvR a), none, none] [] g h K
abbrev LT_sortByLevel_10 (g : Nat → Nat → Nat) (h : Nat → Int → Int) (a : Nat) (l1 : Int) (u2 : Option Int) (K : (Nat → Int → Int) → Prop) : Prop := RV 90 10 [some (mvR a), some (mvI l1), u2.map mvI] [] g h K
abbrev LT_sortByLevel_53 (g : Nat → Nat → Nat) (h : Nat → Int → Int) (a : Nat) (l1 : Int) (u2 : Option Int) (K : (Nat → Int → Int) → Prop) : Prop := RV 90 53 [some (mvR a), some (mvI l1), u2.map mvI] [] g h K
abbrev LT_sortByLevel_103 (g : Nat → Nat → Nat) (h : Nat → Int → Int) (a : Nat) (l1 : Int) (u2 : Option Int) (K : (Nat → Int → Int) → Prop) : Prop := RV 90 103 [some (mvR a), some (mvI l1), u2.map mvI] [] g h K
theorem LT_sortByLevel_wp {sw : Bool} {g : Nat → Nat → Nat} {h : Nat → Int → Int} {a : Nat} {K : (Nat → Int → Int) → Prop} (hG : Gok sw g) (ha : LtId a) (H :
  AR_fill g h (a + 1) 0 (fun h1 =>
    LT_sortByLevel_10 g h1 a 0 none K)) : LT_sortByLevel g h a K := by
  refine rc_aload_n mq90 (mvDec_of cd90 rfl) rfl ?_
  refine rc_getR (a + 1) mq90 (mvDec_of cd90 rfl) fl_3_9 (miA0 ha) rfl (mgA4 ha hG) (Nat.succ_ne_zero _) ?_
  refine rc_iconst mq90 (mvDec_of cd90 rfl) (by decide) ?_
  refine rc_callS [mvR (a + 1), mvI 0] [] [some (mvR (a + 1)), some (mvI 0), none, none] mq90 (mvDec_of cd90 rfl) lk_3_69 mq65 (by decide) rfl rfl (Nat.le_of_ble_eq_true rfl) (Nat.le_of_ble_eq_true rfl) (by decide) rfl (rv_bind H (fun h1 H => ?_))
  refine rc_iconst mq90 (mvDec_of cd90 rfl) (by decide) ?_
  refine rc_istore_n [some (mvR a), some (mvI 0), none] mq90 (mvDec_of cd90 rfl) rfl ?_
  exact H
theorem LT_sortByLevel_10_wp {sw : Bool} {g : Nat → Nat → Nat} {h : Nat → Int → Int} {a : Nat} {l1 : Int} {u2 : Option Int} {K : (Nat → Int → Int) → Prop} (hG : Gok sw g) (ha : LtId a) (H :
  (((h a 2) ≤ l1 →
    LT_sortByLevel_53 g h a 1 u2 K) ∧
  (l1 < (h a 2) →
    (0 ≤ l1 ∧ l1 < 625) ∧
    (((h (a + 5) l1) ≤ 0 →
      LT_sortByLevel_10 g h a (mw (l1 + 1)) u2 K) ∧
    (0 < (h (a + 5) l1) →
      (0 ≤ l1 ∧ l1 < 625) ∧
      RC_levelOf g h (h (a + 3) l1) (fun r2 h1 =>
        (0 ≤ r2 ∧ r2 < 18) ∧
        (0 ≤ r2 ∧ r2 < 18) ∧
        (∀ h3, h3 = mvUpd h1 (a + 1) r2 (mw ((h1 (a + 1) r2) + 1)) →
        LT_sortByLevel_10 g h3 a (mw (l1 + 1)) u2 K))))))) : LT_sortByLevel_10 g h a l1 u2 K := by
  refine rc_iload_n mq90 (mvDec_of cd90 rfl) rfl ?_
  refine rc_aload_n mq90 (mvDec_of cd90 rfl) rfl ?_
  refine rc_getI 2 mq90 (mvDec_of cd90 rfl) fl_3_56 (miA0 ha) rfl (by decide) (by decide) ?_
  refine rc_icmp_ge (t := 51) mq90 (mvDec_of cd90 rfl) rfl (fun hc => ?_) (fun hc => ?_)
  · replace H := H.1 hc
    refine rc_iconst mq90 (mvDec_of cd90 rfl) (by decide) ?_
    refine rc_istore_n [some (mvR a), some (mvI 1), u2.map mvI] mq90 (mvDec_of cd90 rfl) rfl ?_
    exact H
  · replace H := H.2 hc
    refine rc_aload_n mq90 (mvDec_of cd90 rfl) rfl ?_
    refine rc_getR (a + 5) mq90 (mvDec_of cd90 rfl) fl_3_24 (miA0 ha) rfl (mgA8 ha hG) (Nat.succ_ne_zero _) ?_
    refine rc_iload_n mq90 (mvDec_of cd90 rfl) rfl ?_
    obtain ⟨⟨hb0, hb1⟩, H⟩ := H
    refine rc_iald mq90 (mvDec_of cd90 rfl) (miA5 ha) hb0 hb1 ?_
    refine rc_if_le (t := 45) mq90 (mvDec_of cd90 rfl) rfl (fun hc => ?_) (fun hc => ?_)
    · replace H := H.1 hc
      refine rc_iinc [some (mvR a), some (mvI (mw (l1 + 1))), u2.map mvI] mq90 (mvDec_of cd90 rfl) rfl rfl ?_
      refine rc_goto (t := 10) mq90 (mvDec_of cd90 rfl) rfl ?_
      exact H
    · replace H := H.2 hc
      refine rc_aload_n mq90 (mvDec_of cd90 rfl) rfl ?_
      refine rc_getR (a + 1) mq90 (mvDec_of cd90 rfl) fl_3_9 (miA0 ha) rfl (mgA4 ha hG) (Nat.succ_ne_zero _) ?_
      refine rc_aload_n mq90 (mvDec_of cd90 rfl) rfl ?_
      refine rc_getR (a + 3) mq90 (mvDec_of cd90 rfl) fl_3_18 (miA0 ha) rfl (mgA6 ha hG) (Nat.succ_ne_zero _) ?_
      refine rc_iload_n mq90 (mvDec_of cd90 rfl) rfl ?_
      obtain ⟨⟨hb0, hb1⟩, H⟩ := H
      refine rc_iald mq90 (mvDec_of cd90 rfl) (miA3 ha) hb0 hb1 ?_
      refine rc_callSN [mvI (h (a + 3) l1)] [mvR (a + 1)] [some (mvI (h (a + 3) l1))] mq90 (mvDec_of cd90 rfl) lk_3_79 mq4 (by decide) rfl rfl (Nat.le_of_ble_eq_true rfl) (Nat.le_of_ble_eq_true rfl) (by decide) rfl (ri_bind H (fun r2 h1 H => ?_))
      refine rc_dup2 mq90 (mvDec_of cd90 rfl) rfl rfl ?_
      obtain ⟨⟨hb0, hb1⟩, H⟩ := H
      refine rc_iald mq90 (mvDec_of cd90 rfl) (miA1 ha) hb0 hb1 ?_
      refine rc_iconst mq90 (mvDec_of cd90 rfl) (by decide) ?_
      refine rc_iadd mq90 (mvDec_of cd90 rfl) ?_
      obtain ⟨⟨hb0, hb1⟩, H⟩ := H
      refine rc_iast mq90 (mvDec_of cd90 rfl) (miA1 ha) hb0 hb1 ?_
      refine rc_heap (fun h3 hh => ?_)
      replace H := H h3 hh
      refine rc_iinc [some (mvR a), some (mvI (mw (l1 + 1))), u2.map mvI] mq90 (mvDec_of cd90 rfl) rfl rfl ?_
      refine rc_goto (t := 10) mq90 (mvDec_of cd90 rfl) rfl ?_
      exact H
theorem LT_sortByLevel_53_wp {sw : Bool} {g : Nat → Nat → Nat} {h : Nat → Int → Int} {a : Nat} {l1 : Int} {u2 : Option Int} {K : (Nat → Int → Int) → Prop} (hG : Gok sw g) (ha : LtId a) (H :
  ((18 ≤ l1 →
    (∀ h1, h1 = mvUpd h a 1 (h (a + 1) 16) →
    (∀ v2, v2 = (mw ((h1 a 2) - 1)) →
    LT_sortByLevel_103 g h1 a v2 u2 K))) ∧
  (l1 < 18 →
    (0 ≤ l1 ∧ l1 < 18) ∧
    (0 ≤ (mw (l1 - 1)) ∧ (mw (l1 - 1)) < 18) ∧
    (0 ≤ l1 ∧ l1 < 18) ∧
    (∀ h3, h3 = mvUpd h (a + 1) l1 (mw ((h (a + 1) l1) + (h (a + 1) (mw (l1 - 1))))) →
    LT_sortByLevel_53 g h3 a (mw (l1 + 1)) u2 K)))) : LT_sortByLevel_53 g h a l1 u2 K := by
  refine rc_iload_n mq90 (mvDec_of cd90 rfl) rfl ?_
  refine rc_aload_n mq90 (mvDec_of cd90 rfl) rfl ?_
  refine rc_getR (a + 1) mq90 (mvDec_of cd90 rfl) fl_3_9 (miA0 ha) rfl (mgA4 ha hG) (Nat.succ_ne_zero _) ?_
  refine rc_alen mq90 (mvDec_of cd90 rfl) (miA1 ha) ?_
  refine rc_icmp_ge (t := 85) mq90 (mvDec_of cd90 rfl) rfl (fun hc => ?_) (fun hc => ?_)
  · replace H := H.1 hc
    refine rc_aload_n mq90 (mvDec_of cd90 rfl) rfl ?_
    refine rc_aload_n mq90 (mvDec_of cd90 rfl) rfl ?_
    refine rc_getR (a + 1) mq90 (mvDec_of cd90 rfl) fl_3_9 (miA0 ha) rfl (mgA4 ha hG) (Nat.succ_ne_zero _) ?_
    refine rc_bipush mq90 (mvDec_of cd90 rfl) (by decide) ?_
    refine rc_iald mq90 (mvDec_of cd90 rfl) (miA1 ha) (by decide) (by decide) ?_
    refine rc_putI 1 mq90 (mvDec_of cd90 rfl) fl_3_83 (miA0 ha) rfl (fun z => absurd z (by decide)) (Or.inl rfl) ?_
    refine rc_heap (fun h1 hh => ?_)
    replace H := H h1 hh
    refine rc_aload_n mq90 (mvDec_of cd90 rfl) rfl ?_
    refine rc_getI 2 mq90 (mvDec_of cd90 rfl) fl_3_56 (miA0 ha) rfl (by decide) (by decide) ?_
    refine rc_iconst mq90 (mvDec_of cd90 rfl) (by decide) ?_
    refine rc_isub mq90 (mvDec_of cd90 rfl) ?_
    refine rc_top (fun v2 hv => ?_)
    replace H := H v2 hv
    refine rc_istore_n [some (mvR a), some (mvI v2), u2.map mvI] mq90 (mvDec_of cd90 rfl) rfl ?_
    exact H
  · replace H := H.2 hc
    refine rc_aload_n mq90 (mvDec_of cd90 rfl) rfl ?_
    refine rc_getR (a + 1) mq90 (mvDec_of cd90 rfl) fl_3_9 (miA0 ha) rfl (mgA4 ha hG) (Nat.succ_ne_zero _) ?_
    refine rc_iload_n mq90 (mvDec_of cd90 rfl) rfl ?_
    refine rc_dup2 mq90 (mvDec_of cd90 rfl) rfl rfl ?_
    obtain ⟨⟨hb0, hb1⟩, H⟩ := H
    refine rc_iald mq90 (mvDec_of cd90 rfl) (miA1 ha) hb0 hb1 ?_
    refine rc_aload_n mq90 (mvDec_of cd90 rfl) rfl ?_
    refine rc_getR (a + 1) mq90 (mvDec_of cd90 rfl) fl_3_9 (miA0 ha) rfl (mgA4 ha hG) (Nat.succ_ne_zero _) ?_
    refine rc_iload_n mq90 (mvDec_of cd90 rfl) rfl ?_
    refine rc_iconst mq90 (mvDec_of cd90 rfl) (by decide) ?_
    refine rc_isub mq90 (mvDec_of cd90 rfl) ?_
    obtain ⟨⟨hb0, hb1⟩, H⟩ := H
    refine rc_iald mq90 (mvDec_of cd90 rfl) (miA1 ha) hb0 hb1 ?_
    refine rc_iadd mq90 (mvDec_of cd90 rfl) ?_
    obtain ⟨⟨hb0, hb1⟩, H⟩ := H
    refine rc_iast mq90 (mvDec_of cd90 rfl) (miA1 ha) hb0 hb1 ?_
    refine rc_heap (fun h3 hh => ?_)
    replace H := H h3 hh
    refine rc_iinc [some (mvR a), some (mvI (mw (l1 + 1))), u2.map mvI] mq90 (mvDec_of cd90 rfl) rfl rfl ?_
    refine rc_goto (t := 53) mq90 (mvDec_of cd90 rfl) rfl ?_
    exact H
theorem LT_sortByLevel_103_wp {sw : Bool} {g : Nat → Nat → Nat} {h : Nat → Int → Int} {a : Nat} {l1 : Int} {u2 : Option Int} {K : (Nat → Int → Int) → Prop} (hG : Gok sw g) (ha : LtId a) (H :
  ((l1 < 0 →
    K h) ∧
  (0 ≤ l1 →
    (0 ≤ l1 ∧ l1 < 625) ∧
    (((h (a + 5) l1) ≤ 0 →
      LT_sortByLevel_103 g h a (mw (l1 + (-1))) u2 K) ∧
    (0 < (h (a + 5) l1) →
      (0 ≤ l1 ∧ l1 < 625) ∧
      RC_levelOf g h (h (a + 3) l1) (fun r2 h1 =>
        (0 ≤ r2 ∧ r2 < 18) ∧
        (0 ≤ r2 ∧ r2 < 18) ∧
        (∀ h3, h3 = mvUpd h1 (a + 1) r2 (mw ((h1 (a + 1) r2) - 1)) →
        (0 ≤ r2 ∧ r2 < 18) ∧
        (0 ≤ (h3 (a + 1) r2) ∧ (h3 (a + 1) r2) < 625) ∧
        (∀ h4, h4 = mvUpd h3 (a + 4) (h3 (a + 1) r2) l1 →
        LT_sortByLevel_103 g h4 a (mw (l1 + (-1))) (some r2) K)))))))) : LT_sortByLevel_103 g h a l1 u2 K := by
  refine rc_iload_n mq90 (mvDec_of cd90 rfl) rfl ?_
  refine rc_if_lt (t := 154) mq90 (mvDec_of cd90 rfl) rfl (fun hc => ?_) (fun hc => ?_)
  · replace H := H.1 hc
    exact rc_vret mq90 (mvDec_of cd90 rfl) ⟨_, rfl, rfl, H⟩
  · replace H := H.2 hc
    refine rc_aload_n mq90 (mvDec_of cd90 rfl) rfl ?_
    refine rc_getR (a + 5) mq90 (mvDec_of cd90 rfl) fl_3_24 (miA0 ha) rfl (mgA8 ha hG) (Nat.succ_ne_zero _) ?_
    refine rc_iload_n mq90 (mvDec_of cd90 rfl) rfl ?_
    obtain ⟨⟨hb0, hb1⟩, H⟩ := H
    refine rc_iald mq90 (mvDec_of cd90 rfl) (miA5 ha) hb0 hb1 ?_
    refine rc_if_le (t := 148) mq90 (mvDec_of cd90 rfl) rfl (fun hc => ?_) (fun hc => ?_)
    · replace H := H.1 hc
      refine rc_iinc [some (mvR a), some (mvI (mw (l1 + (-1)))), u2.map mvI] mq90 (mvDec_of cd90 rfl) rfl rfl ?_
      refine rc_goto (t := 103) mq90 (mvDec_of cd90 rfl) rfl ?_
      exact H
    · replace H := H.2 hc
      refine rc_aload_n mq90 (mvDec_of cd90 rfl) rfl ?_
      refine rc_getR (a + 3) mq90 (mvDec_of cd90 rfl) fl_3_18 (miA0 ha) rfl (mgA6 ha hG) (Nat.succ_ne_zero _) ?_
      refine rc_iload_n mq90 (mvDec_of cd90 rfl) rfl ?_
      obtain ⟨⟨hb0, hb1⟩, H⟩ := H
      refine rc_iald mq90 (mvDec_of cd90 rfl) (miA3 ha) hb0 hb1 ?_
      refine rc_callSN [mvI (h (a + 3) l1)] [] [some (mvI (h (a + 3) l1))] mq90 (mvDec_of cd90 rfl) lk_3_79 mq4 (by decide) rfl rfl (Nat.le_of_ble_eq_true rfl) (Nat.le_of_ble_eq_true rfl) (by decide) rfl (ri_bind H (fun r2 h1 H => ?_))
      refine rc_istore_n [some (mvR a), some (mvI l1), some (mvI r2)] mq90 (mvDec_of cd90 rfl) rfl ?_
      refine rc_aload_n mq90 (mvDec_of cd90 rfl) rfl ?_
      refine rc_getR (a + 1) mq90 (mvDec_of cd90 rfl) fl_3_9 (miA0 ha) rfl (mgA4 ha hG) (Nat.succ_ne_zero _) ?_
      refine rc_iload_n mq90 (mvDec_of cd90 rfl) rfl ?_
      refine rc_dup2 mq90 (mvDec_of cd90 rfl) rfl rfl ?_
      obtain ⟨⟨hb0, hb1⟩, H⟩ := H
      refine rc_iald mq90 (mvDec_of cd90 rfl) (miA1 ha) hb0 hb1 ?_
      refine rc_iconst mq90 (mvDec_of cd90 rfl) (by decide) ?_
      refine rc_isub mq90 (mvDec_of cd90 rfl) ?_
      obtain ⟨⟨hb0, hb1⟩, H⟩ := H
      refine rc_iast mq90 (mvDec_of cd90 rfl) (miA1 ha) hb0 hb1 ?_
      refine rc_heap (fun h3 hh => ?_)
      replace H := H h3 hh
      refine rc_aload_n mq90 (mvDec_of cd90 rfl) rfl ?_
      refine rc_getR (a + 4) mq90 (mvDec_of cd90 rfl) fl_3_21 (miA0 ha) rfl (mgA7 ha hG) (Nat.succ_ne_zero _) ?_
      refine rc_aload_n mq90 (mvDec_of cd90 rfl) rfl ?_
      refine rc_getR (a + 1) mq90 (mvDec_of cd90 rfl) fl_3_9 (miA0 ha) rfl (mgA4 ha hG) (Nat.succ_ne_zero _) ?_
      refine rc_iload_n mq90 (mvDec_of cd90 rfl) rfl ?_
      obtain ⟨⟨hb0, hb1⟩, H⟩ := H
      refine rc_iald mq90 (mvDec_of cd90 rfl) (miA1 ha) hb0 hb1 ?_
      refine rc_iload_n mq90 (mvDec_of cd90 rfl) rfl ?_
      obtain ⟨⟨hb0, hb1⟩, H⟩ := H
      refine rc_iast mq90 (mvDec_of cd90 rfl) (miA4 ha) hb0 hb1 ?_
      refine rc_heap (fun h4 hh => ?_)
      replace H := H h4 hh
      refine rc_iinc [some (mvR a), some (mvI (mw (l1 + (-1)))), some (mvI r2)] mq90 (mvDec_of cd90 rfl) rfl rfl ?_
      refine rc_goto (t := 103) mq90 (mvDec_of cd90 rfl) rfl ?_
      exact H
abbrev LT_widestLevel (g : Nat → Nat → Nat) (h : Nat → Int → Int) (a : Nat) (K : Int → (Nat → Int → Int) → Prop) : Prop := RI 91 0 [some (mvR a), none, none] [] g h K
abbrev LT_widestLevel_4 (g : Nat → Nat → Nat) (h : Nat → Int → Int) (a : Nat) (l1 : Int) (l2 : Int) (K : Int → (Nat → Int → Int) → Prop) : Prop := RI 91 4 [some (mvR a), some (mvI l1), some (mvI l2)] [] g h K
theorem LT_widestLevel_wp {sw : Bool} {g : Nat → Nat → Nat} {h : Nat → Int → Int} {a : Nat} {K : Int → (Nat → Int → Int) → Prop} (hG : Gok sw g) (ha : LtId a) (H :
  LT_widestLevel_4 g h a 0 1 K) : LT_widestLevel g h a K := by
  refine rc_iconst mq91 (mvDec_of cd91 rfl) (by decide) ?_
  refine rc_istore_n [some (mvR a), some (mvI 0), none] mq91 (mvDec_of cd91 rfl) rfl ?_
  refine rc_iconst mq91 (mvDec_of cd91 rfl) (by decide) ?_
  refine rc_istore_n [some (mvR a), some (mvI 0), some (mvI 1)] mq91 (mvDec_of cd91 rfl) rfl ?_
  exact H
theorem LT_widestLevel_4_wp {sw : Bool} {g : Nat → Nat → Nat} {h : Nat → Int → Int} {a : Nat} {l1 : Int} {l2 : Int} {K : Int → (Nat → Int → Int) → Prop} (hG : Gok sw g) (ha : LtId a) (H :
  (((h a 3) < l2 →
    K l1 h) ∧
  (l2 ≤ (h a 3) →
    (0 ≤ (mw (l2 + 1)) ∧ (mw (l2 + 1)) < 18) ∧
    (0 ≤ l2 ∧ l2 < 18) ∧
    (0 ≤ (mw (l1 + 1)) ∧ (mw (l1 + 1)) < 18) ∧
    (0 ≤ l1 ∧ l1 < 18) ∧
    (((mw ((h (a + 1) (mw (l2 + 1))) - (h (a + 1) l2))) ≤ (mw ((h (a + 1) (mw (l1 + 1))) - (h (a + 1) l1))) →
      LT_widestLevel_4 g h a l1 (mw (l2 + 1)) K) ∧
    ((mw ((h (a + 1) (mw (l1 + 1))) - (h (a + 1) l1))) < (mw ((h (a + 1) (mw (l2 + 1))) - (h (a + 1) l2))) →
      LT_widestLevel_4 g h a l2 (mw (l2 + 1)) K))))) : LT_widestLevel_4 g h a l1 l2 K := by
  refine rc_iload_n mq91 (mvDec_of cd91 rfl) rfl ?_
  refine rc_aload_n mq91 (mvDec_of cd91 rfl) rfl ?_
  refine rc_getI 3 mq91 (mvDec_of cd91 rfl) fl_3_40 (miA0 ha) rfl (by decide) (by decide) ?_
  refine rc_icmp_gt (t := 33) mq91 (mvDec_of cd91 rfl) rfl (fun hc => ?_) (fun hc => ?_)
  · replace H := H.1 hc
    refine rc_iload_n mq91 (mvDec_of cd91 rfl) rfl ?_
    exact rc_iret mq91 (mvDec_of cd91 rfl) ⟨_, _, rfl, rfl, H⟩
  · replace H := H.2 hc
    refine rc_aload_n mq91 (mvDec_of cd91 rfl) rfl ?_
    refine rc_iload_n mq91 (mvDec_of cd91 rfl) rfl ?_
    refine rc_callV [mvR a, mvI l2] [] [some (mvR a), some (mvI l2)] mq91 (mvDec_of cd91 rfl) lk_3_90 mq26 (by decide) rfl rfl (Nat.le_of_ble_eq_true rfl) (Nat.le_of_ble_eq_true rfl) (by decide) rfl (miA0 ha) rfl ?_
    refine rc_aload_n mq26 (mvDec_of cd26 rfl) rfl ?_
    refine rc_getR (a + 1) mq26 (mvDec_of cd26 rfl) fl_3_9 (miA0 ha) rfl (mgA4 ha hG) (Nat.succ_ne_zero _) ?_
    refine rc_iload_n mq26 (mvDec_of cd26 rfl) rfl ?_
    refine rc_iconst mq26 (mvDec_of cd26 rfl) (by decide) ?_
    refine rc_iadd mq26 (mvDec_of cd26 rfl) ?_
    obtain ⟨⟨hb0, hb1⟩, H⟩ := H
    refine rc_iald mq26 (mvDec_of cd26 rfl) (miA1 ha) hb0 hb1 ?_
    refine rc_aload_n mq26 (mvDec_of cd26 rfl) rfl ?_
    refine rc_getR (a + 1) mq26 (mvDec_of cd26 rfl) fl_3_9 (miA0 ha) rfl (mgA4 ha hG) (Nat.succ_ne_zero _) ?_
    refine rc_iload_n mq26 (mvDec_of cd26 rfl) rfl ?_
    obtain ⟨⟨hb0, hb1⟩, H⟩ := H
    refine rc_iald mq26 (mvDec_of cd26 rfl) (miA1 ha) hb0 hb1 ?_
    refine rc_isub mq26 (mvDec_of cd26 rfl) ?_
    refine rc_iret mq26 (mvDec_of cd26 rfl) ?_
    show Rch 91 17 [some (mvR a), some (mvI l1), some (mvI l2)] [mvI (mw ((h (a + 1) (mw (l2 + 1))) - (h (a + 1) l2)))] (97, g, h) _
    refine rc_aload_n mq91 (mvDec_of cd91 rfl) rfl ?_
    refine rc_iload_n mq91 (mvDec_of cd91 rfl) rfl ?_
    refine rc_callV [mvR a, mvI l1] [mvI (mw ((h (a + 1) (mw (l2 + 1))) - (h (a + 1) l2)))] [some (mvR a), some (mvI l1)] mq91 (mvDec_of cd91 rfl) lk_3_90 mq26 (by decide) rfl rfl (Nat.le_of_ble_eq_true rfl) (Nat.le_of_ble_eq_true rfl) (by decide) rfl (miA0 ha) rfl ?_
    refine rc_aload_n mq26 (mvDec_of cd26 rfl) rfl ?_
    refine rc_getR (a + 1) mq26 (mvDec_of cd26 rfl) fl_3_9 (miA0 ha) rfl (mgA4 ha hG) (Nat.succ_ne_zero _) ?_
    refine rc_iload_n mq26 (mvDec_of cd26 rfl) rfl ?_
    refine rc_iconst mq26 (mvDec_of cd26 rfl) (by decide) ?_
    refine rc_iadd mq26 (mvDec_of cd26 rfl) ?_
    obtain ⟨⟨hb0, hb1⟩, H⟩ := H
    refine rc_iald mq26 (mvDec_of cd26 rfl) (miA1 ha) hb0 hb1 ?_
    refine rc_aload_n mq26 (mvDec_of cd26 rfl) rfl ?_
    refine rc_getR (a + 1) mq26 (mvDec_of cd26 rfl) fl_3_9 (miA0 ha) rfl (mgA4 ha hG) (Nat.succ_ne_zero _) ?_
    refine rc_iload_n mq26 (mvDec_of cd26 rfl) rfl ?_
    obtain ⟨⟨hb0, hb1⟩, H⟩ := H
    refine rc_iald mq26 (mvDec_of cd26 rfl) (miA1 ha) hb0 hb1 ?_
    refine rc_isub mq26 (mvDec_of cd26 rfl) ?_
    refine rc_iret mq26 (mvDec_of cd26 rfl) ?_
    show Rch 91 22 [some (mvR a), some (mvI l1), some (mvI l2)] [mvI (mw ((h (a + 1) (mw (l1 + 1))) - (h (a + 1) l1))), mvI (mw ((h (a + 1) (mw (l2 + 1))) - (h (a + 1) l2)))] (97, g, h) _
    refine rc_icmp_le (t := 27) mq91 (mvDec_of cd91 rfl) rfl (fun hc => ?_) (fun hc => ?_)
    · replace H := H.1 hc
      refine rc_iinc [some (mvR a), some (mvI l1), some (mvI (mw (l2 + 1)))] mq91 (mvDec_of cd91 rfl) rfl rfl ?_
      refine rc_goto (t := 4) mq91 (mvDec_of cd91 rfl) rfl ?_
      exact H
    · replace H := H.2 hc
      refine rc_iload_n mq91 (mvDec_of cd91 rfl) rfl ?_
      refine rc_istore_n [some (mvR a), some (mvI l2), some (mvI l2)] mq91 (mvDec_of cd91 rfl) rfl ?_
      refine rc_iinc [some (mvR a), some (mvI l2), some (mvI (mw (l2 + 1)))] mq91 (mvDec_of cd91 rfl) rfl rfl ?_
      refine rc_goto (t := 4) mq91 (mvDec_of cd91 rfl) rfl ?_
      exact H
abbrev LT_pathsThrough (g : Nat → Nat → Nat) (h : Nat → Int → Int) (a : Nat) (e : Nat) (x2 : Int) (K : Int → (Nat → Int → Int) → Prop) : Prop := RI 92 0 [some (mvR a), some (mvR e), some (mvI x2), none, none] [] g h K
abbrev LT_pathsThrough_5 (g : Nat → Nat → Nat) (h : Nat → Int → Int) (a : Nat) (e : Nat) (l2 : Int) (l3 : Int) (l4 : Int) (K : Int → (Nat → Int → Int) → Prop) : Prop := RI 92 5 [some (mvR a), some (mvR e), some (mvI l2), some (mvI l3), some (mvI l4)] [] g h K
theorem LT_pathsThrough_wp {sw : Bool} {g : Nat → Nat → Nat} {h : Nat → Int → Int} {a : Nat} {e : Nat} {x2 : Int} {K : Int → (Nat → Int → Int) → Prop} (hG : Gok sw g) (ha : LtId a) (he : EvId e) (H :
  LT_pathsThrough_5 g h a e x2 0 0 K) : LT_pathsThrough g h a e x2 K := by
  refine rc_iconst mq92 (mvDec_of cd92 rfl) (by decide) ?_
  refine rc_istore_n [some (mvR a), some (mvR e), some (mvI x2), some (mvI 0), none] mq92 (mvDec_of cd92 rfl) rfl ?_
  refine rc_iconst mq92 (mvDec_of cd92 rfl) (by decide) ?_
  refine rc_istore [some (mvR a), some (mvR e), some (mvI x2), some (mvI 0), some (mvI 0)] mq92 (mvDec_of cd92 rfl) rfl ?_
  exact H
theorem LT_pathsThrough_5_wp {sw : Bool} {g : Nat → Nat → Nat} {h : Nat → Int → Int} {a : Nat} {e : Nat} {l2 : Int} {l3 : Int} {l4 : Int} {K : Int → (Nat → Int → Int) → Prop} (hG : Gok sw g) (ha : LtId a) (he : EvId e) (H :
  (((h e 0) ≤ l4 →
    (0 ≤ l3 ∧ l3 < 625) ∧
    (0 ≤ l3 ∧ l3 < 625) ∧
    K (mw ((h (a + 5) l3) * (h (a + 6) l3))) h) ∧
  (l4 < (h e 0) →
    (0 ≤ l4 ∧ l4 < 4) ∧
    EV_countIn g h e l2 l4 (fun r2 h1 =>
      (∀ v3, v3 = (mw (l3 + (mw ((h (a + 2) l4) * r2)))) →
      LT_pathsThrough_5 g h1 a e l2 v3 (mw (l4 + 1)) K))))) : LT_pathsThrough_5 g h a e l2 l3 l4 K := by
  refine rc_iload mq92 (mvDec_of cd92 rfl) rfl ?_
  refine rc_aload_n mq92 (mvDec_of cd92 rfl) rfl ?_
  refine rc_getI 0 mq92 (mvDec_of cd92 rfl) fl_3_59 (miE0 he) rfl (by decide) (by decide) ?_
  refine rc_icmp_ge (t := 38) mq92 (mvDec_of cd92 rfl) rfl (fun hc => ?_) (fun hc => ?_)
  · replace H := H.1 hc
    refine rc_aload_n mq92 (mvDec_of cd92 rfl) rfl ?_
    refine rc_getR (a + 5) mq92 (mvDec_of cd92 rfl) fl_3_24 (miA0 ha) rfl (mgA8 ha hG) (Nat.succ_ne_zero _) ?_
    refine rc_iload_n mq92 (mvDec_of cd92 rfl) rfl ?_
    obtain ⟨⟨hb0, hb1⟩, H⟩ := H
    refine rc_iald mq92 (mvDec_of cd92 rfl) (miA5 ha) hb0 hb1 ?_
    refine rc_aload_n mq92 (mvDec_of cd92 rfl) rfl ?_
    refine rc_getR (a + 6) mq92 (mvDec_of cd92 rfl) fl_3_27 (miA0 ha) rfl (mgA9 ha hG) (Nat.succ_ne_zero _) ?_
    refine rc_iload_n mq92 (mvDec_of cd92 rfl) rfl ?_
    obtain ⟨⟨hb0, hb1⟩, H⟩ := H
    refine rc_iald mq92 (mvDec_of cd92 rfl) (miA6 ha) hb0 hb1 ?_
    refine rc_imul mq92 (mvDec_of cd92 rfl) ?_
    exact rc_iret mq92 (mvDec_of cd92 rfl) ⟨_, _, rfl, rfl, H⟩
  · replace H := H.2 hc
    refine rc_iload_n mq92 (mvDec_of cd92 rfl) rfl ?_
    refine rc_aload_n mq92 (mvDec_of cd92 rfl) rfl ?_
    refine rc_getR (a + 2) mq92 (mvDec_of cd92 rfl) fl_3_15 (miA0 ha) rfl (mgA5 ha hG) (Nat.succ_ne_zero _) ?_
    refine rc_iload mq92 (mvDec_of cd92 rfl) rfl ?_
    obtain ⟨⟨hb0, hb1⟩, H⟩ := H
    refine rc_iald mq92 (mvDec_of cd92 rfl) (miA2 ha) hb0 hb1 ?_
    refine rc_aload_n mq92 (mvDec_of cd92 rfl) rfl ?_
    refine rc_iload_n mq92 (mvDec_of cd92 rfl) rfl ?_
    refine rc_iload mq92 (mvDec_of cd92 rfl) rfl ?_
    refine rc_callV [mvR e, mvI l2, mvI l4] [mvI (h (a + 2) l4), mvI l3] [some (mvR e), some (mvI l2), some (mvI l4)] mq92 (mvDec_of cd92 rfl) lk_3_93 mq23 (by decide) rfl rfl (Nat.le_of_ble_eq_true rfl) (Nat.le_of_ble_eq_true rfl) (by decide) rfl (miE0 he) rfl (ri_bind H (fun r2 h1 H => ?_))
    refine rc_imul mq92 (mvDec_of cd92 rfl) ?_
    refine rc_iadd mq92 (mvDec_of cd92 rfl) ?_
    refine rc_top (fun v3 hv => ?_)
    replace H := H v3 hv
    refine rc_istore_n [some (mvR a), some (mvR e), some (mvI l2), some (mvI v3), some (mvI l4)] mq92 (mvDec_of cd92 rfl) rfl ?_
    refine rc_iinc [some (mvR a), some (mvR e), some (mvI l2), some (mvI v3), some (mvI (mw (l4 + 1)))] mq92 (mvDec_of cd92 rfl) rfl rfl ?_
    refine rc_goto (t := 5) mq92 (mvDec_of cd92 rfl) rfl ?_
    exact H
abbrev LT_countPathsTo (g : Nat → Nat → Nat) (h : Nat → Int → Int) (a : Nat) (e : Nat) (K : (Nat → Int → Int) → Prop) : Prop := RV 151 0 [some (mvR a), some (mvR e), none, none] [] g h K
abbrev LT_countPathsTo_17 (g : Nat → Nat → Nat) (h : Nat → Int → Int) (a : Nat) (e : Nat) (l2 : Int) (u3 : Option Int) (K : (Nat → Int → Int) → Prop) : Prop := RV 151 17 [some (mvR a), some (mvR e), some (mvI l2), u3.map mvI] [] g h K
abbrev LT_countPathsTo_27 (g : Nat → Nat → Nat) (h : Nat → Int → Int) (a : Nat) (e : Nat) (l2 : Int) (l3 : Int) (K : (Nat → Int → Int) → Prop) : Prop := RV 151 27 [some (mvR a), some (mvR e), some (mvI l2), some (mvI l3)] [] g h K
theorem LT_countPathsTo_wp {sw : Bool} {g : Nat → Nat → Nat} {h : Nat → Int → Int} {a : Nat} {e : Nat} {K : (Nat → Int → Int) → Prop} (hG : Gok sw g) (ha : LtId a) (he : EvId e) (H :
  AR_fill g h (a + 5) 0 (fun h1 =>
    (∀ h2, h2 = mvUpd h1 (a + 5) 0 1 →
    LT_countPathsTo_17 g h2 a e 0 none K))) : LT_countPathsTo g h a e K := by
  refine rc_aload_n mq151 (mvDec_of cd151 rfl) rfl ?_
  refine rc_getR (a + 5) mq151 (mvDec_of cd151 rfl) fl_3_24 (miA0 ha) rfl (mgA8 ha hG) (Nat.succ_ne_zero _) ?_
  refine rc_iconst mq151 (mvDec_of cd151 rfl) (by decide) ?_
  refine rc_callS [mvR (a + 5), mvI 0] [] [some (mvR (a + 5)), some (mvI 0), none, none] mq151 (mvDec_of cd151 rfl) lk_3_69 mq65 (by decide) rfl rfl (Nat.le_of_ble_eq_true rfl) (Nat.le_of_ble_eq_true rfl) (by decide) rfl (rv_bind H (fun h1 H => ?_))
  refine rc_aload_n mq151 (mvDec_of cd151 rfl) rfl ?_
  refine rc_getR (a + 5) mq151 (mvDec_of cd151 rfl) fl_3_24 (miA0 ha) rfl (mgA8 ha hG) (Nat.succ_ne_zero _) ?_
  refine rc_iconst mq151 (mvDec_of cd151 rfl) (by decide) ?_
  refine rc_iconst mq151 (mvDec_of cd151 rfl) (by decide) ?_
  refine rc_iast mq151 (mvDec_of cd151 rfl) (miA5 ha) (by decide) (by decide) ?_
  refine rc_heap (fun h2 hh => ?_)
  replace H := H h2 hh
  refine rc_iconst mq151 (mvDec_of cd151 rfl) (by decide) ?_
  refine rc_istore_n [some (mvR a), some (mvR e), some (mvI 0), none] mq151 (mvDec_of cd151 rfl) rfl ?_
  exact H
theorem LT_countPathsTo_17_wp {sw : Bool} {g : Nat → Nat → Nat} {h : Nat → Int → Int} {a : Nat} {e : Nat} {l2 : Int} {u3 : Option Int} {K : (Nat → Int → Int) → Prop} (hG : Gok sw g) (ha : LtId a) (he : EvId e) (H :
  (((h a 2) ≤ l2 →
    K h) ∧
  (l2 < (h a 2) →
    LT_countPathsTo_27 g h a e l2 0 K))) : LT_countPathsTo_17 g h a e l2 u3 K := by
  refine rc_iload_n mq151 (mvDec_of cd151 rfl) rfl ?_
  refine rc_aload_n mq151 (mvDec_of cd151 rfl) rfl ?_
  refine rc_getI 2 mq151 (mvDec_of cd151 rfl) fl_3_56 (miA0 ha) rfl (by decide) (by decide) ?_
  refine rc_icmp_ge (t := 92) mq151 (mvDec_of cd151 rfl) rfl (fun hc => ?_) (fun hc => ?_)
  · replace H := H.1 hc
    exact rc_vret mq151 (mvDec_of cd151 rfl) ⟨_, rfl, rfl, H⟩
  · replace H := H.2 hc
    refine rc_iconst mq151 (mvDec_of cd151 rfl) (by decide) ?_
    refine rc_istore_n [some (mvR a), some (mvR e), some (mvI l2), some (mvI 0)] mq151 (mvDec_of cd151 rfl) rfl ?_
    exact H
theorem LT_countPathsTo_27_wp {sw : Bool} {g : Nat → Nat → Nat} {h : Nat → Int → Int} {a : Nat} {e : Nat} {l2 : Int} {l3 : Int} {K : (Nat → Int → Int) → Prop} (hG : Gok sw g) (ha : LtId a) (he : EvId e) (H :
  (((h e 0) ≤ l3 →
    LT_countPathsTo_17 g h a e (mw (l2 + 1)) (some l3) K) ∧
  (l3 < (h e 0) →
    (0 ≤ l2 ∧ l2 < 625) ∧
    (((h (a + 5) l2) ≤ 0 →
      LT_countPathsTo_17 g h a e (mw (l2 + 1)) (some l3) K) ∧
    (0 < (h (a + 5) l2) →
      (0 ≤ l2 ∧ l2 < 625) ∧
      EV_canFollow g h e (h (a + 3) l2) l3 (fun r2 h1 =>
        ((r2 = 0 →
          LT_countPathsTo_27 g h1 a e l2 (mw (l3 + 1)) K) ∧
        (¬ r2 = 0 →
          (0 ≤ l3 ∧ l3 < 4) ∧
          (0 ≤ (mw (l2 + (h1 (a + 2) l3))) ∧ (mw (l2 + (h1 (a + 2) l3))) < 625) ∧
          (0 ≤ l2 ∧ l2 < 625) ∧
          (0 ≤ (mw (l2 + (h1 (a + 2) l3))) ∧ (mw (l2 + (h1 (a + 2) l3))) < 625) ∧
          (∀ h3, h3 = mvUpd h1 (a + 5) (mw (l2 + (h1 (a + 2) l3))) (mw ((h1 (a + 5) (mw (l2 + (h1 (a + 2) l3)))) + (h1 (a + 5) l2))) →
          LT_countPathsTo_27 g h3 a e l2 (mw (l3 + 1)) K))))))))) : LT_countPathsTo_27 g h a e l2 l3 K := by
  refine rc_iload_n mq151 (mvDec_of cd151 rfl) rfl ?_
  refine rc_aload_n mq151 (mvDec_of cd151 rfl) rfl ?_
  refine rc_getI 0 mq151 (mvDec_of cd151 rfl) fl_3_59 (miE0 he) rfl (by decide) (by decide) ?_
  refine rc_icmp_ge (t := 86) mq151 (mvDec_of cd151 rfl) rfl (fun hc => ?_) (fun hc => ?_)
  · replace H := H.1 hc
    refine rc_iinc [some (mvR a), some (mvR e), some (mvI (mw (l2 + 1))), some (mvI l3)] mq151 (mvDec_of cd151 rfl) rfl rfl ?_
    refine rc_goto (t := 17) mq151 (mvDec_of cd151 rfl) rfl ?_
    exact H
  · replace H := H.2 hc
    refine rc_aload_n mq151 (mvDec_of cd151 rfl) rfl ?_
    refine rc_getR (a + 5) mq151 (mvDec_of cd151 rfl) fl_3_24 (miA0 ha) rfl (mgA8 ha hG) (Nat.succ_ne_zero _) ?_
    refine rc_iload_n mq151 (mvDec_of cd151 rfl) rfl ?_
    obtain ⟨⟨hb0, hb1⟩, H⟩ := H
    refine rc_iald mq151 (mvDec_of cd151 rfl) (miA5 ha) hb0 hb1 ?_
    refine rc_if_le (t := 86) mq151 (mvDec_of cd151 rfl) rfl (fun hc => ?_) (fun hc => ?_)
    · replace H := H.1 hc
      refine rc_iinc [some (mvR a), some (mvR e), some (mvI (mw (l2 + 1))), some (mvI l3)] mq151 (mvDec_of cd151 rfl) rfl rfl ?_
      refine rc_goto (t := 17) mq151 (mvDec_of cd151 rfl) rfl ?_
      exact H
    · replace H := H.2 hc
      refine rc_aload_n mq151 (mvDec_of cd151 rfl) rfl ?_
      refine rc_aload_n mq151 (mvDec_of cd151 rfl) rfl ?_
      refine rc_getR (a + 3) mq151 (mvDec_of cd151 rfl) fl_3_18 (miA0 ha) rfl (mgA6 ha hG) (Nat.succ_ne_zero _) ?_
      refine rc_iload_n mq151 (mvDec_of cd151 rfl) rfl ?_
      obtain ⟨⟨hb0, hb1⟩, H⟩ := H
      refine rc_iald mq151 (mvDec_of cd151 rfl) (miA3 ha) hb0 hb1 ?_
      refine rc_iload_n mq151 (mvDec_of cd151 rfl) rfl ?_
      refine rc_callV [mvR e, mvI (h (a + 3) l2), mvI l3] [] [some (mvR e), some (mvI (h (a + 3) l2)), some (mvI l3), none, none] mq151 (mvDec_of cd151 rfl) lk_3_75 mq84 (by decide) rfl rfl (Nat.le_of_ble_eq_true rfl) (Nat.le_of_ble_eq_true rfl) (by decide) rfl (miE0 he) rfl (ri_bind H (fun r2 h1 H => ?_))
      refine rc_if_eq (t := 80) mq151 (mvDec_of cd151 rfl) rfl (fun hc => ?_) (fun hc => ?_)
      · replace H := H.1 hc
        refine rc_iinc [some (mvR a), some (mvR e), some (mvI l2), some (mvI (mw (l3 + 1)))] mq151 (mvDec_of cd151 rfl) rfl rfl ?_
        refine rc_goto (t := 27) mq151 (mvDec_of cd151 rfl) rfl ?_
        exact H
      · replace H := H.2 hc
        refine rc_aload_n mq151 (mvDec_of cd151 rfl) rfl ?_
        refine rc_getR (a + 5) mq151 (mvDec_of cd151 rfl) fl_3_24 (miA0 ha) rfl (mgA8 ha hG) (Nat.succ_ne_zero _) ?_
        refine rc_iload_n mq151 (mvDec_of cd151 rfl) rfl ?_
        refine rc_aload_n mq151 (mvDec_of cd151 rfl) rfl ?_
        refine rc_getR (a + 2) mq151 (mvDec_of cd151 rfl) fl_3_15 (miA0 ha) rfl (mgA5 ha hG) (Nat.succ_ne_zero _) ?_
        refine rc_iload_n mq151 (mvDec_of cd151 rfl) rfl ?_
        obtain ⟨⟨hb0, hb1⟩, H⟩ := H
        refine rc_iald mq151 (mvDec_of cd151 rfl) (miA2 ha) hb0 hb1 ?_
        refine rc_iadd mq151 (mvDec_of cd151 rfl) ?_
        refine rc_dup2 mq151 (mvDec_of cd151 rfl) rfl rfl ?_
        obtain ⟨⟨hb0, hb1⟩, H⟩ := H
        refine rc_iald mq151 (mvDec_of cd151 rfl) (miA5 ha) hb0 hb1 ?_
        refine rc_aload_n mq151 (mvDec_of cd151 rfl) rfl ?_
        refine rc_getR (a + 5) mq151 (mvDec_of cd151 rfl) fl_3_24 (miA0 ha) rfl (mgA8 ha hG) (Nat.succ_ne_zero _) ?_
        refine rc_iload_n mq151 (mvDec_of cd151 rfl) rfl ?_
        obtain ⟨⟨hb0, hb1⟩, H⟩ := H
        refine rc_iald mq151 (mvDec_of cd151 rfl) (miA5 ha) hb0 hb1 ?_
        refine rc_iadd mq151 (mvDec_of cd151 rfl) ?_
        obtain ⟨⟨hb0, hb1⟩, H⟩ := H
        refine rc_iast mq151 (mvDec_of cd151 rfl) (miA5 ha) hb0 hb1 ?_
        refine rc_heap (fun h3 hh => ?_)
        replace H := H h3 hh
        refine rc_iinc [some (mvR a), some (mvR e), some (mvI l2), some (mvI (mw (l3 + 1)))] mq151 (mvDec_of cd151 rfl) rfl rfl ?_
        refine rc_goto (t := 27) mq151 (mvDec_of cd151 rfl) rfl ?_
        exact H
abbrev LT_countPathsFrom (g : Nat → Nat → Nat) (h : Nat → Int → Int) (a : Nat) (e : Nat) (K : (Nat → Int → Int) → Prop) : Prop := RV 152 0 [some (mvR a), some (mvR e), none, none] [] g h K
abbrev LT_countPathsFrom_27 (g : Nat → Nat → Nat) (h : Nat → Int → Int) (a : Nat) (e : Nat) (l2 : Int) (u3 : Option Int) (K : (Nat → Int → Int) → Prop) : Prop := RV 152 27 [some (mvR a), some (mvR e), some (mvI l2), u3.map mvI] [] g h K
abbrev LT_countPathsFrom_33 (g : Nat → Nat → Nat) (h : Nat → Int → Int) (a : Nat) (e : Nat) (l2 : Int) (l3 : Int) (K : (Nat → Int → Int) → Prop) : Prop := RV 152 33 [some (mvR a), some (mvR e), some (mvI l2), some (mvI l3)] [] g h K
theorem LT_countPathsFrom_wp {sw : Bool} {g : Nat → Nat → Nat} {h : Nat → Int → Int} {a : Nat} {e : Nat} {K : (Nat → Int → Int) → Prop} (hG : Gok sw g) (ha : LtId a) (he : EvId e) (H :
  AR_fill g h (a + 6) 0 (fun h1 =>
    (0 ≤ (mw ((h1 a 2) - 1)) ∧ (mw ((h1 a 2) - 1)) < 625) ∧
    (∀ h2, h2 = mvUpd h1 (a + 6) (mw ((h1 a 2) - 1)) 1 →
    (∀ v3, v3 = (mw ((h2 a 2) - 1)) →
    LT_countPathsFrom_27 g h2 a e v3 none K)))) : LT_countPathsFrom g h a e K := by
  refine rc_aload_n mq152 (mvDec_of cd152 rfl) rfl ?_
  refine rc_getR (a + 6) mq152 (mvDec_of cd152 rfl) fl_3_27 (miA0 ha) rfl (mgA9 ha hG) (Nat.succ_ne_zero _) ?_
  refine rc_iconst mq152 (mvDec_of cd152 rfl) (by decide) ?_
  refine rc_callS [mvR (a + 6), mvI 0] [] [some (mvR (a + 6)), some (mvI 0), none, none] mq152 (mvDec_of cd152 rfl) lk_3_69 mq65 (by decide) rfl rfl (Nat.le_of_ble_eq_true rfl) (Nat.le_of_ble_eq_true rfl) (by decide) rfl (rv_bind H (fun h1 H => ?_))
  refine rc_aload_n mq152 (mvDec_of cd152 rfl) rfl ?_
  refine rc_getR (a + 6) mq152 (mvDec_of cd152 rfl) fl_3_27 (miA0 ha) rfl (mgA9 ha hG) (Nat.succ_ne_zero _) ?_
  refine rc_aload_n mq152 (mvDec_of cd152 rfl) rfl ?_
  refine rc_getI 2 mq152 (mvDec_of cd152 rfl) fl_3_56 (miA0 ha) rfl (by decide) (by decide) ?_
  refine rc_iconst mq152 (mvDec_of cd152 rfl) (by decide) ?_
  refine rc_isub mq152 (mvDec_of cd152 rfl) ?_
  refine rc_iconst mq152 (mvDec_of cd152 rfl) (by decide) ?_
  obtain ⟨⟨hb0, hb1⟩, H⟩ := H
  refine rc_iast mq152 (mvDec_of cd152 rfl) (miA6 ha) hb0 hb1 ?_
  refine rc_heap (fun h2 hh => ?_)
  replace H := H h2 hh
  refine rc_aload_n mq152 (mvDec_of cd152 rfl) rfl ?_
  refine rc_getI 2 mq152 (mvDec_of cd152 rfl) fl_3_56 (miA0 ha) rfl (by decide) (by decide) ?_
  refine rc_iconst mq152 (mvDec_of cd152 rfl) (by decide) ?_
  refine rc_isub mq152 (mvDec_of cd152 rfl) ?_
  refine rc_top (fun v3 hv => ?_)
  replace H := H v3 hv
  refine rc_istore_n [some (mvR a), some (mvR e), some (mvI v3), none] mq152 (mvDec_of cd152 rfl) rfl ?_
  exact H
theorem LT_countPathsFrom_27_wp {sw : Bool} {g : Nat → Nat → Nat} {h : Nat → Int → Int} {a : Nat} {e : Nat} {l2 : Int} {u3 : Option Int} {K : (Nat → Int → Int) → Prop} (hG : Gok sw g) (ha : LtId a) (he : EvId e) (H :
  ((l2 < 0 →
    K h) ∧
  (0 ≤ l2 →
    LT_countPathsFrom_33 g h a e l2 0 K))) : LT_countPathsFrom_27 g h a e l2 u3 K := by
  refine rc_iload_n mq152 (mvDec_of cd152 rfl) rfl ?_
  refine rc_if_lt (t := 98) mq152 (mvDec_of cd152 rfl) rfl (fun hc => ?_) (fun hc => ?_)
  · replace H := H.1 hc
    exact rc_vret mq152 (mvDec_of cd152 rfl) ⟨_, rfl, rfl, H⟩
  · replace H := H.2 hc
    refine rc_iconst mq152 (mvDec_of cd152 rfl) (by decide) ?_
    refine rc_istore_n [some (mvR a), some (mvR e), some (mvI l2), some (mvI 0)] mq152 (mvDec_of cd152 rfl) rfl ?_
    exact H
theorem LT_countPathsFrom_33_wp {sw : Bool} {g : Nat → Nat → Nat} {h : Nat → Int → Int} {a : Nat} {e : Nat} {l2 : Int} {l3 : Int} {K : (Nat → Int → Int) → Prop} (hG : Gok sw g) (ha : LtId a) (he : EvId e) (H :
  (((h e 0) ≤ l3 →
    LT_countPathsFrom_27 g h a e (mw (l2 + (-1))) (some l3) K) ∧
  (l3 < (h e 0) →
    (0 ≤ l2 ∧ l2 < 625) ∧
    (((h (a + 5) l2) ≤ 0 →
      LT_countPathsFrom_27 g h a e (mw (l2 + (-1))) (some l3) K) ∧
    (0 < (h (a + 5) l2) →
      (0 ≤ l2 ∧ l2 < 625) ∧
      EV_canFollow g h e (h (a + 3) l2) l3 (fun r2 h1 =>
        ((r2 = 0 →
          LT_countPathsFrom_33 g h1 a e l2 (mw (l3 + 1)) K) ∧
        (¬ r2 = 0 →
          (0 ≤ l2 ∧ l2 < 625) ∧
          (0 ≤ l3 ∧ l3 < 4) ∧
          (0 ≤ (mw (l2 + (h1 (a + 2) l3))) ∧ (mw (l2 + (h1 (a + 2) l3))) < 625) ∧
          (0 ≤ l2 ∧ l2 < 625) ∧
          (∀ h3, h3 = mvUpd h1 (a + 6) l2 (mw ((h1 (a + 6) l2) + (h1 (a + 6) (mw (l2 + (h1 (a + 2) l3)))))) →
          LT_countPathsFrom_33 g h3 a e l2 (mw (l3 + 1)) K))))))))) : LT_countPathsFrom_33 g h a e l2 l3 K := by
  refine rc_iload_n mq152 (mvDec_of cd152 rfl) rfl ?_
  refine rc_aload_n mq152 (mvDec_of cd152 rfl) rfl ?_
  refine rc_getI 0 mq152 (mvDec_of cd152 rfl) fl_3_59 (miE0 he) rfl (by decide) (by decide) ?_
  refine rc_icmp_ge (t := 92) mq152 (mvDec_of cd152 rfl) rfl (fun hc => ?_) (fun hc => ?_)
  · replace H := H.1 hc
    refine rc_iinc [some (mvR a), some (mvR e), some (mvI (mw (l2 + (-1)))), some (mvI l3)] mq152 (mvDec_of cd152 rfl) rfl rfl ?_
    refine rc_goto (t := 27) mq152 (mvDec_of cd152 rfl) rfl ?_
    exact H
  · replace H := H.2 hc
    refine rc_aload_n mq152 (mvDec_of cd152 rfl) rfl ?_
    refine rc_getR (a + 5) mq152 (mvDec_of cd152 rfl) fl_3_24 (miA0 ha) rfl (mgA8 ha hG) (Nat.succ_ne_zero _) ?_
    refine rc_iload_n mq152 (mvDec_of cd152 rfl) rfl ?_
    obtain ⟨⟨hb0, hb1⟩, H⟩ := H
    refine rc_iald mq152 (mvDec_of cd152 rfl) (miA5 ha) hb0 hb1 ?_
    refine rc_if_le (t := 92) mq152 (mvDec_of cd152 rfl) rfl (fun hc => ?_) (fun hc => ?_)
    · replace H := H.1 hc
      refine rc_iinc [some (mvR a), some (mvR e), some (mvI (mw (l2 + (-1)))), some (mvI l3)] mq152 (mvDec_of cd152 rfl) rfl rfl ?_
      refine rc_goto (t := 27) mq152 (mvDec_of cd152 rfl) rfl ?_
      exact H
    · replace H := H.2 hc
      refine rc_aload_n mq152 (mvDec_of cd152 rfl) rfl ?_
      refine rc_aload_n mq152 (mvDec_of cd152 rfl) rfl ?_
      refine rc_getR (a + 3) mq152 (mvDec_of cd152 rfl) fl_3_18 (miA0 ha) rfl (mgA6 ha hG) (Nat.succ_ne_zero _) ?_
      refine rc_iload_n mq152 (mvDec_of cd152 rfl) rfl ?_
      obtain ⟨⟨hb0, hb1⟩, H⟩ := H
      refine rc_iald mq152 (mvDec_of cd152 rfl) (miA3 ha) hb0 hb1 ?_
      refine rc_iload_n mq152 (mvDec_of cd152 rfl) rfl ?_
      refine rc_callV [mvR e, mvI (h (a + 3) l2), mvI l3] [] [some (mvR e), some (mvI (h (a + 3) l2)), some (mvI l3), none, none] mq152 (mvDec_of cd152 rfl) lk_3_75 mq84 (by decide) rfl rfl (Nat.le_of_ble_eq_true rfl) (Nat.le_of_ble_eq_true rfl) (by decide) rfl (miE0 he) rfl (ri_bind H (fun r2 h1 H => ?_))
      refine rc_if_eq (t := 86) mq152 (mvDec_of cd152 rfl) rfl (fun hc => ?_) (fun hc => ?_)
      · replace H := H.1 hc
        refine rc_iinc [some (mvR a), some (mvR e), some (mvI l2), some (mvI (mw (l3 + 1)))] mq152 (mvDec_of cd152 rfl) rfl rfl ?_
        refine rc_goto (t := 33) mq152 (mvDec_of cd152 rfl) rfl ?_
        exact H
      · replace H := H.2 hc
        refine rc_aload_n mq152 (mvDec_of cd152 rfl) rfl ?_
        refine rc_getR (a + 6) mq152 (mvDec_of cd152 rfl) fl_3_27 (miA0 ha) rfl (mgA9 ha hG) (Nat.succ_ne_zero _) ?_
        refine rc_iload_n mq152 (mvDec_of cd152 rfl) rfl ?_
        refine rc_dup2 mq152 (mvDec_of cd152 rfl) rfl rfl ?_
        obtain ⟨⟨hb0, hb1⟩, H⟩ := H
        refine rc_iald mq152 (mvDec_of cd152 rfl) (miA6 ha) hb0 hb1 ?_
        refine rc_aload_n mq152 (mvDec_of cd152 rfl) rfl ?_
        refine rc_getR (a + 6) mq152 (mvDec_of cd152 rfl) fl_3_27 (miA0 ha) rfl (mgA9 ha hG) (Nat.succ_ne_zero _) ?_
        refine rc_iload_n mq152 (mvDec_of cd152 rfl) rfl ?_
        refine rc_aload_n mq152 (mvDec_of cd152 rfl) rfl ?_
        refine rc_getR (a + 2) mq152 (mvDec_of cd152 rfl) fl_3_15 (miA0 ha) rfl (mgA5 ha hG) (Nat.succ_ne_zero _) ?_
        refine rc_iload_n mq152 (mvDec_of cd152 rfl) rfl ?_
        obtain ⟨⟨hb0, hb1⟩, H⟩ := H
        refine rc_iald mq152 (mvDec_of cd152 rfl) (miA2 ha) hb0 hb1 ?_
        refine rc_iadd mq152 (mvDec_of cd152 rfl) ?_
        obtain ⟨⟨hb0, hb1⟩, H⟩ := H
        refine rc_iald mq152 (mvDec_of cd152 rfl) (miA6 ha) hb0 hb1 ?_
        refine rc_iadd mq152 (mvDec_of cd152 rfl) ?_
        obtain ⟨⟨hb0, hb1⟩, H⟩ := H
        refine rc_iast mq152 (mvDec_of cd152 rfl) (miA6 ha) hb0 hb1 ?_
        refine rc_heap (fun h3 hh => ?_)
        replace H := H h3 hh
        refine rc_iinc [some (mvR a), some (mvR e), some (mvI l2), some (mvI (mw (l3 + 1)))] mq152 (mvDec_of cd152 rfl) rfl rfl ?_
        refine rc_goto (t := 33) mq152 (mvDec_of cd152 rfl) rfl ?_
        exact H
abbrev LT_property (g : Nat → Nat → Nat) (h : Nat → Int → Int) (a : Nat) (x1 : Int) (K : Int → (Nat → Int → Int) → Prop) : Prop := RI 153 0 [some (mvR a), some (mvI x1)] [] g h K
theorem LT_property_wp {sw : Bool} {g : Nat → Nat → Nat} {h : Nat → Int → Int} {a : Nat} {x1 : Int} {K : Int → (Nat → Int → Int) → Prop} (hG : Gok sw g) (ha : LtId a) (H :
  (((x1 < 0 ∨ 3 < x1) →
    K (h a 3) h) ∧
  (x1 = 0 →
    K (h a 1) h) ∧
  (x1 = 1 →
    LT_widestLevel g h a (fun r2 h1 =>
      (0 ≤ (mw (r2 + 1)) ∧ (mw (r2 + 1)) < 18) ∧
      (0 ≤ r2 ∧ r2 < 18) ∧
      K (mw ((h1 (a + 1) (mw (r2 + 1))) - (h1 (a + 1) r2))) h1)) ∧
  (x1 = 2 →
    LT_widestLevel g h a (fun r4 h3 =>
      K r4 h3)) ∧
  (x1 = 3 →
    K (h (a + 6) 0) h))) : LT_property g h a x1 K := by
  refine rc_iload_n mq153 (mvDec_of cd153 rfl) rfl ?_
  have hsw : (x1 < 0 ∨ 3 < x1) ∨ x1 = 0 ∨ x1 = 1 ∨ x1 = 2 ∨ x1 = 3 := by omega
  rcases hsw with hsw | hsw | hsw | hsw | hsw
  · replace H := H.1 hsw
    refine rc_swD (t := 58) mq153 (mvDec_of cd153 rfl) hsw rfl ?_
    refine rc_aload_n mq153 (mvDec_of cd153 rfl) rfl ?_
    refine rc_getI 3 mq153 (mvDec_of cd153 rfl) fl_3_40 (miA0 ha) rfl (by decide) (by decide) ?_
    exact rc_iret mq153 (mvDec_of cd153 rfl) ⟨_, _, rfl, rfl, H⟩
  · replace H := H.2.1 hsw
    refine rc_swI (t := 32) mq153 (mvDec_of cd153 rfl) (by omega) (by rw [hsw]; rfl) rfl ?_
    refine rc_aload_n mq153 (mvDec_of cd153 rfl) rfl ?_
    refine rc_getI 1 mq153 (mvDec_of cd153 rfl) fl_3_83 (miA0 ha) rfl (by decide) (by decide) ?_
    exact rc_iret mq153 (mvDec_of cd153 rfl) ⟨_, _, rfl, rfl, H⟩
  · replace H := H.2.2.1 hsw
    refine rc_swI (t := 37) mq153 (mvDec_of cd153 rfl) (by omega) (by rw [hsw]; rfl) rfl ?_
    refine rc_aload_n mq153 (mvDec_of cd153 rfl) rfl ?_
    refine rc_aload_n mq153 (mvDec_of cd153 rfl) rfl ?_
    refine rc_callV [mvR a] [mvR a] [some (mvR a), none, none] mq153 (mvDec_of cd153 rfl) lk_3_86 mq91 (by decide) rfl rfl (Nat.le_of_ble_eq_true rfl) (Nat.le_of_ble_eq_true rfl) (by decide) rfl (miA0 ha) rfl (ri_bind H (fun r2 h1 H => ?_))
    refine rc_callV [mvR a, mvI r2] [] [some (mvR a), some (mvI r2)] mq153 (mvDec_of cd153 rfl) lk_3_90 mq26 (by decide) rfl rfl (Nat.le_of_ble_eq_true rfl) (Nat.le_of_ble_eq_true rfl) (by decide) rfl (miA0 ha) rfl ?_
    refine rc_aload_n mq26 (mvDec_of cd26 rfl) rfl ?_
    refine rc_getR (a + 1) mq26 (mvDec_of cd26 rfl) fl_3_9 (miA0 ha) rfl (mgA4 ha hG) (Nat.succ_ne_zero _) ?_
    refine rc_iload_n mq26 (mvDec_of cd26 rfl) rfl ?_
    refine rc_iconst mq26 (mvDec_of cd26 rfl) (by decide) ?_
    refine rc_iadd mq26 (mvDec_of cd26 rfl) ?_
    obtain ⟨⟨hb0, hb1⟩, H⟩ := H
    refine rc_iald mq26 (mvDec_of cd26 rfl) (miA1 ha) hb0 hb1 ?_
    refine rc_aload_n mq26 (mvDec_of cd26 rfl) rfl ?_
    refine rc_getR (a + 1) mq26 (mvDec_of cd26 rfl) fl_3_9 (miA0 ha) rfl (mgA4 ha hG) (Nat.succ_ne_zero _) ?_
    refine rc_iload_n mq26 (mvDec_of cd26 rfl) rfl ?_
    obtain ⟨⟨hb0, hb1⟩, H⟩ := H
    refine rc_iald mq26 (mvDec_of cd26 rfl) (miA1 ha) hb0 hb1 ?_
    refine rc_isub mq26 (mvDec_of cd26 rfl) ?_
    refine rc_iret mq26 (mvDec_of cd26 rfl) ?_
    show Rch 153 45 [some (mvR a), some (mvI x1)] [mvI (mw ((h1 (a + 1) (mw (r2 + 1))) - (h1 (a + 1) r2)))] (97, g, h1) _
    exact rc_iret mq153 (mvDec_of cd153 rfl) ⟨_, _, rfl, rfl, H⟩
  · replace H := H.2.2.2.1 hsw
    refine rc_swI (t := 46) mq153 (mvDec_of cd153 rfl) (by omega) (by rw [hsw]; rfl) rfl ?_
    refine rc_aload_n mq153 (mvDec_of cd153 rfl) rfl ?_
    refine rc_callV [mvR a] [] [some (mvR a), none, none] mq153 (mvDec_of cd153 rfl) lk_3_86 mq91 (by decide) rfl rfl (Nat.le_of_ble_eq_true rfl) (Nat.le_of_ble_eq_true rfl) (by decide) rfl (miA0 ha) rfl (ri_bind H (fun r4 h3 H => ?_))
    exact rc_iret mq153 (mvDec_of cd153 rfl) ⟨_, _, rfl, rfl, H⟩
  · replace H := H.2.2.2.2 hsw
    refine rc_swI (t := 51) mq153 (mvDec_of cd153 rfl) (by omega) (by rw [hsw]; rfl) rfl ?_
    refine rc_aload_n mq153 (mvDec_of cd153 rfl) rfl ?_
    refine rc_getR (a + 6) mq153 (mvDec_of cd153 rfl) fl_3_27 (miA0 ha) rfl (mgA9 ha hG) (Nat.succ_ne_zero _) ?_
    refine rc_iconst mq153 (mvDec_of cd153 rfl) (by decide) ?_
    refine rc_iald mq153 (mvDec_of cd153 rfl) (miA6 ha) (by decide) (by decide) ?_
    exact rc_iret mq153 (mvDec_of cd153 rfl) ⟨_, _, rfl, rfl, H⟩
abbrev LT_build (g : Nat → Nat → Nat) (h : Nat → Int → Int) (a : Nat) (e : Nat) (K : (Nat → Int → Int) → Prop) : Prop := RV 183 0 [some (mvR a), some (mvR e)] [] g h K
theorem LT_build_wp {sw : Bool} {g : Nat → Nat → Nat} {h : Nat → Int → Int} {a : Nat} {e : Nat} {K : (Nat → Int → Int) → Prop} (hG : Gok sw g) (ha : LtId a) (he : EvId e) (H :
  (((h a 0) = 0 →
    (∀ h1, h1 = mvUpd h a 0 1 →
    (∀ h2, h2 = mvUpd h1 a 3 (h1 e 1) →
    LT_numberPlaces g h2 a e (fun h3 =>
      LT_countPathsTo g h3 a e (fun h4 =>
        LT_countPathsFrom g h4 a e (fun h5 =>
          LT_sortByLevel g h5 a (fun h6 =>
            K h6))))))) ∧
  (¬ (h a 0) = 0 →
    K h))) : LT_build g h a e K := by
  refine rc_aload_n mq183 (mvDec_of cd183 rfl) rfl ?_
  refine rc_getI 0 mq183 (mvDec_of cd183 rfl) fl_3_30 (miA0 ha) rfl (by decide) (by decide) ?_
  refine rc_if_eq (t := 8) mq183 (mvDec_of cd183 rfl) rfl (fun hc => ?_) (fun hc => ?_)
  · replace H := H.1 hc
    refine rc_aload_n mq183 (mvDec_of cd183 rfl) rfl ?_
    refine rc_iconst mq183 (mvDec_of cd183 rfl) (by decide) ?_
    refine rc_putI 0 mq183 (mvDec_of cd183 rfl) fl_3_30 (miA0 ha) rfl (fun z => absurd z (by decide)) (Or.inr ⟨rfl, Or.inr rfl⟩) ?_
    refine rc_heap (fun h1 hh => ?_)
    replace H := H h1 hh
    refine rc_aload_n mq183 (mvDec_of cd183 rfl) rfl ?_
    refine rc_aload_n mq183 (mvDec_of cd183 rfl) rfl ?_
    refine rc_getI 1 mq183 (mvDec_of cd183 rfl) fl_3_34 (miE0 he) rfl (by decide) (by decide) ?_
    refine rc_putI 3 mq183 (mvDec_of cd183 rfl) fl_3_40 (miA0 ha) rfl (fun z => absurd z (by decide)) (Or.inl rfl) ?_
    refine rc_heap (fun h2 hh => ?_)
    replace H := H h2 hh
    refine rc_aload_n mq183 (mvDec_of cd183 rfl) rfl ?_
    refine rc_aload_n mq183 (mvDec_of cd183 rfl) rfl ?_
    refine rc_callV [mvR a, mvR e] [] [some (mvR a), some (mvR e), none, none] mq183 (mvDec_of cd183 rfl) lk_3_43 mq89 (by decide) rfl rfl (Nat.le_of_ble_eq_true rfl) (Nat.le_of_ble_eq_true rfl) (by decide) rfl (miA0 ha) rfl (rv_bind H (fun h3 H => ?_))
    refine rc_aload_n mq183 (mvDec_of cd183 rfl) rfl ?_
    refine rc_aload_n mq183 (mvDec_of cd183 rfl) rfl ?_
    refine rc_callV [mvR a, mvR e] [] [some (mvR a), some (mvR e), none, none] mq183 (mvDec_of cd183 rfl) lk_3_47 mq151 (by decide) rfl rfl (Nat.le_of_ble_eq_true rfl) (Nat.le_of_ble_eq_true rfl) (by decide) rfl (miA0 ha) rfl (rv_bind H (fun h4 H => ?_))
    refine rc_aload_n mq183 (mvDec_of cd183 rfl) rfl ?_
    refine rc_aload_n mq183 (mvDec_of cd183 rfl) rfl ?_
    refine rc_callV [mvR a, mvR e] [] [some (mvR a), some (mvR e), none, none] mq183 (mvDec_of cd183 rfl) lk_3_50 mq152 (by decide) rfl rfl (Nat.le_of_ble_eq_true rfl) (Nat.le_of_ble_eq_true rfl) (by decide) rfl (miA0 ha) rfl (rv_bind H (fun h5 H => ?_))
    refine rc_aload_n mq183 (mvDec_of cd183 rfl) rfl ?_
    refine rc_callV [mvR a] [] [some (mvR a), none, none] mq183 (mvDec_of cd183 rfl) lk_3_53 mq90 (by decide) rfl rfl (Nat.le_of_ble_eq_true rfl) (Nat.le_of_ble_eq_true rfl) (by decide) rfl (miA0 ha) rfl (rv_bind H (fun h6 H => ?_))
    exact rc_vret mq183 (mvDec_of cd183 rfl) ⟨_, rfl, rfl, H⟩
  · replace H := H.2 hc
    exact rc_vret mq183 (mvDec_of cd183 rfl) ⟨_, rfl, rfl, H⟩
