/-! out of the bytecode, by program: what suffices for a method (_wp), for a loop at its head (_place_wp) -/
abbrev EV_canDropLast (g : Nat → Nat → Nat) (h : Nat → Int → Int) (e : Nat) (x1 : Int) (K : Int → (Nat → Int → Int) → Prop) : Prop := RI 11 0 [some (mvR e), some (mvI x1), none] [] g h K
theorem EV_canDropLast_wp {sw : Bool} {g : Nat → Nat → Nat} {h : Nat → Int → Int} {e : Nat} {x1 : Int} {K : Int → (Nat → Int → Int) → Prop} (hG : Gok sw g) (he : EvId e) (H :
  (0 ≤ x1 ∧ x1 < 4) ∧
  ((¬ (h (e + 1) x1) = 0 →
    (0 ≤ x1 ∧ x1 < 4) ∧
    (∀ v1, v1 = (mw ((mw ((mw (x1 * 9)) + (h (e + 1) x1))) - 1)) →
    (0 ≤ v1 ∧ v1 < 36) ∧
    ((¬ (h (e + 2) v1) = 1 →
      K 1 h) ∧
    ((h (e + 2) v1) = 1 →
      (0 ≤ v1 ∧ v1 < 36) ∧
      ((¬ (h (e + 4) v1) = (-1) →
        K 0 h) ∧
      ((h (e + 4) v1) = (-1) →
        K 1 h)))))) ∧
  ((h (e + 1) x1) = 0 →
    K 0 h))) : EV_canDropLast g h e x1 K := by
  refine rc_aload_n mq11 (mvDec_of cd11 rfl) rfl ?_
  refine rc_getR (e + 1) mq11 (mvDec_of cd11 rfl) fl_2_9 (miE0 he) rfl (mgE2 he hG) (Nat.succ_ne_zero _) ?_
  refine rc_iload_n mq11 (mvDec_of cd11 rfl) rfl ?_
  obtain ⟨⟨hb0, hb1⟩, H⟩ := H
  refine rc_iald mq11 (mvDec_of cd11 rfl) (miE1 he) hb0 hb1 ?_
  refine rc_if_ne (t := 11) mq11 (mvDec_of cd11 rfl) rfl (fun hc => ?_) (fun hc => ?_)
  · replace H := H.1 hc
    refine rc_iload_n mq11 (mvDec_of cd11 rfl) rfl ?_
    refine rc_bipush mq11 (mvDec_of cd11 rfl) (by decide) ?_
    refine rc_imul mq11 (mvDec_of cd11 rfl) ?_
    refine rc_aload_n mq11 (mvDec_of cd11 rfl) rfl ?_
    refine rc_getR (e + 1) mq11 (mvDec_of cd11 rfl) fl_2_9 (miE0 he) rfl (mgE2 he hG) (Nat.succ_ne_zero _) ?_
    refine rc_iload_n mq11 (mvDec_of cd11 rfl) rfl ?_
    obtain ⟨⟨hb0, hb1⟩, H⟩ := H
    refine rc_iald mq11 (mvDec_of cd11 rfl) (miE1 he) hb0 hb1 ?_
    refine rc_iadd mq11 (mvDec_of cd11 rfl) ?_
    refine rc_iconst mq11 (mvDec_of cd11 rfl) (by decide) ?_
    refine rc_isub mq11 (mvDec_of cd11 rfl) ?_
    refine rc_top (fun v1 hv => ?_)
    replace H := H v1 hv
    refine rc_istore_n [some (mvR e), some (mvI x1), some (mvI v1)] mq11 (mvDec_of cd11 rfl) rfl ?_
    refine rc_aload_n mq11 (mvDec_of cd11 rfl) rfl ?_
    refine rc_getR (e + 2) mq11 (mvDec_of cd11 rfl) fl_2_15 (miE0 he) rfl (mgE3 he hG) (Nat.succ_ne_zero _) ?_
    refine rc_iload_n mq11 (mvDec_of cd11 rfl) rfl ?_
    obtain ⟨⟨hb0, hb1⟩, H⟩ := H
    refine rc_iald mq11 (mvDec_of cd11 rfl) (miE2 he) hb0 hb1 ?_
    refine rc_iconst mq11 (mvDec_of cd11 rfl) (by decide) ?_
    refine rc_icmp_ne (t := 45) mq11 (mvDec_of cd11 rfl) rfl (fun hc => ?_) (fun hc => ?_)
    · replace H := H.1 hc
      refine rc_iconst mq11 (mvDec_of cd11 rfl) (by decide) ?_
      refine rc_goto (t := 50) mq11 (mvDec_of cd11 rfl) rfl ?_
      exact rc_zret mq11 (mvDec_of cd11 rfl) (Or.inr rfl) ⟨_, _, rfl, rfl, H⟩
    · replace H := H.2 hc
      refine rc_aload_n mq11 (mvDec_of cd11 rfl) rfl ?_
      refine rc_getR (e + 4) mq11 (mvDec_of cd11 rfl) fl_2_21 (miE0 he) rfl (mgE5 he hG) (Nat.succ_ne_zero _) ?_
      refine rc_iload_n mq11 (mvDec_of cd11 rfl) rfl ?_
      obtain ⟨⟨hb0, hb1⟩, H⟩ := H
      refine rc_iald mq11 (mvDec_of cd11 rfl) (miE4 he) hb0 hb1 ?_
      refine rc_iconst mq11 (mvDec_of cd11 rfl) (by decide) ?_
      refine rc_icmp_ne (t := 49) mq11 (mvDec_of cd11 rfl) rfl (fun hc => ?_) (fun hc => ?_)
      · replace H := H.1 hc
        refine rc_iconst mq11 (mvDec_of cd11 rfl) (by decide) ?_
        exact rc_zret mq11 (mvDec_of cd11 rfl) (Or.inl rfl) ⟨_, _, rfl, rfl, H⟩
      · replace H := H.2 hc
        refine rc_iconst mq11 (mvDec_of cd11 rfl) (by decide) ?_
        refine rc_goto (t := 50) mq11 (mvDec_of cd11 rfl) rfl ?_
        exact rc_zret mq11 (mvDec_of cd11 rfl) (Or.inr rfl) ⟨_, _, rfl, rfl, H⟩
  · replace H := H.2 hc
    refine rc_iconst mq11 (mvDec_of cd11 rfl) (by decide) ?_
    exact rc_zret mq11 (mvDec_of cd11 rfl) (Or.inl rfl) ⟨_, _, rfl, rfl, H⟩
abbrev EV_pairReceive (g : Nat → Nat → Nat) (h : Nat → Int → Int) (e : Nat) (x1 : Int) (x2 : Int) (K : Int → (Nat → Int → Int) → Prop) : Prop := RI 13 0 [some (mvR e), some (mvI x1), some (mvI x2), none, none, none] [] g h K
abbrev EV_pairReceive_20 (g : Nat → Nat → Nat) (h : Nat → Int → Int) (e : Nat) (l1 : Int) (l2 : Int) (l3 : Int) (l4 : Int) (u5 : Option Int) (K : Int → (Nat → Int → Int) → Prop) : Prop := RI 13 20 [some (mvR e), some (mvI l1), some (mvI l2), some (mvI l3), some (mvI l4), u5.map mvI] [] g h K
theorem EV_pairReceive_wp {sw : Bool} {g : Nat → Nat → Nat} {h : Nat → Int → Int} {e : Nat} {x1 : Int} {x2 : Int} {K : Int → (Nat → Int → Int) → Prop} (hG : Gok sw g) (he : EvId e) (H :
  (0 ≤ (mw ((mw (x1 * 9)) + x2)) ∧ (mw ((mw (x1 * 9)) + x2)) < 36) ∧
  (∀ v1, v1 = (h (e + 3) (mw ((mw (x1 * 9)) + x2))) →
  (0 ≤ v1 ∧ v1 < 4) ∧
  (∀ v2, v2 = (h (e + 8) v1) →
  EV_pairReceive_20 g h e x1 x2 v1 v2 none K))) : EV_pairReceive g h e x1 x2 K := by
  refine rc_aload_n mq13 (mvDec_of cd13 rfl) rfl ?_
  refine rc_getR (e + 3) mq13 (mvDec_of cd13 rfl) fl_2_18 (miE0 he) rfl (mgE4 he hG) (Nat.succ_ne_zero _) ?_
  refine rc_iload_n mq13 (mvDec_of cd13 rfl) rfl ?_
  refine rc_bipush mq13 (mvDec_of cd13 rfl) (by decide) ?_
  refine rc_imul mq13 (mvDec_of cd13 rfl) ?_
  refine rc_iload_n mq13 (mvDec_of cd13 rfl) rfl ?_
  refine rc_iadd mq13 (mvDec_of cd13 rfl) ?_
  obtain ⟨⟨hb0, hb1⟩, H⟩ := H
  refine rc_iald mq13 (mvDec_of cd13 rfl) (miE3 he) hb0 hb1 ?_
  refine rc_top (fun v1 hv => ?_)
  replace H := H v1 hv
  refine rc_istore_n [some (mvR e), some (mvI x1), some (mvI x2), some (mvI v1), none, none] mq13 (mvDec_of cd13 rfl) rfl ?_
  refine rc_aload_n mq13 (mvDec_of cd13 rfl) rfl ?_
  refine rc_getR (e + 8) mq13 (mvDec_of cd13 rfl) fl_2_33 (miE0 he) rfl (mgE9 he hG) (Nat.succ_ne_zero _) ?_
  refine rc_iload_n mq13 (mvDec_of cd13 rfl) rfl ?_
  obtain ⟨⟨hb0, hb1⟩, H⟩ := H
  refine rc_iald mq13 (mvDec_of cd13 rfl) (miE8 he) hb0 hb1 ?_
  refine rc_top (fun v2 hv => ?_)
  replace H := H v2 hv
  refine rc_istore [some (mvR e), some (mvI x1), some (mvI x2), some (mvI v1), some (mvI v2), none] mq13 (mvDec_of cd13 rfl) rfl ?_
  exact H
theorem EV_pairReceive_20_wp {sw : Bool} {g : Nat → Nat → Nat} {h : Nat → Int → Int} {e : Nat} {l1 : Int} {l2 : Int} {l3 : Int} {l4 : Int} {u5 : Option Int} {K : Int → (Nat → Int → Int) → Prop} (hG : Gok sw g) (he : EvId e) (H :
  (0 ≤ l3 ∧ l3 < 4) ∧
  (((h (e + 1) l3) ≤ l4 →
    K 0 h) ∧
  (l4 < (h (e + 1) l3) →
    (∀ v1, v1 = (mw ((mw (l3 * 9)) + l4)) →
    (0 ≤ v1 ∧ v1 < 36) ∧
    ((¬ (h (e + 2) v1) = 1 →
      EV_pairReceive_20 g h e l1 l2 l3 (mw (l4 + 1)) (some v1) K) ∧
    ((h (e + 2) v1) = 1 →
      (0 ≤ v1 ∧ v1 < 36) ∧
      ((¬ (h (e + 3) v1) = l1 →
        EV_pairReceive_20 g h e l1 l2 l3 (mw (l4 + 1)) (some v1) K) ∧
      ((h (e + 3) v1) = l1 →
        (0 ≤ v1 ∧ v1 < 36) ∧
        (∀ h2, h2 = mvUpd h (e + 4) v1 l2 →
        (0 ≤ (mw ((mw (l1 * 9)) + l2)) ∧ (mw ((mw (l1 * 9)) + l2)) < 36) ∧
        (∀ h3, h3 = mvUpd h2 (e + 4) (mw ((mw (l1 * 9)) + l2)) l4 →
        (0 ≤ l3 ∧ l3 < 4) ∧
        (∀ h4, h4 = mvUpd h3 (e + 8) l3 (mw (l4 + 1)) →
        K 1 h4))))))))))) : EV_pairReceive_20 g h e l1 l2 l3 l4 u5 K := by
  refine rc_iload mq13 (mvDec_of cd13 rfl) rfl ?_
  refine rc_aload_n mq13 (mvDec_of cd13 rfl) rfl ?_
  refine rc_getR (e + 1) mq13 (mvDec_of cd13 rfl) fl_2_9 (miE0 he) rfl (mgE2 he hG) (Nat.succ_ne_zero _) ?_
  refine rc_iload_n mq13 (mvDec_of cd13 rfl) rfl ?_
  obtain ⟨⟨hb0, hb1⟩, H⟩ := H
  refine rc_iald mq13 (mvDec_of cd13 rfl) (miE1 he) hb0 hb1 ?_
  refine rc_icmp_ge (t := 101) mq13 (mvDec_of cd13 rfl) rfl (fun hc => ?_) (fun hc => ?_)
  · replace H := H.1 hc
    refine rc_iconst mq13 (mvDec_of cd13 rfl) (by decide) ?_
    exact rc_zret mq13 (mvDec_of cd13 rfl) (Or.inl rfl) ⟨_, _, rfl, rfl, H⟩
  · replace H := H.2 hc
    refine rc_iload_n mq13 (mvDec_of cd13 rfl) rfl ?_
    refine rc_bipush mq13 (mvDec_of cd13 rfl) (by decide) ?_
    refine rc_imul mq13 (mvDec_of cd13 rfl) ?_
    refine rc_iload mq13 (mvDec_of cd13 rfl) rfl ?_
    refine rc_iadd mq13 (mvDec_of cd13 rfl) ?_
    refine rc_top (fun v1 hv => ?_)
    replace H := H v1 hv
    refine rc_istore [some (mvR e), some (mvI l1), some (mvI l2), some (mvI l3), some (mvI l4), some (mvI v1)] mq13 (mvDec_of cd13 rfl) rfl ?_
    refine rc_aload_n mq13 (mvDec_of cd13 rfl) rfl ?_
    refine rc_getR (e + 2) mq13 (mvDec_of cd13 rfl) fl_2_15 (miE0 he) rfl (mgE3 he hG) (Nat.succ_ne_zero _) ?_
    refine rc_iload mq13 (mvDec_of cd13 rfl) rfl ?_
    obtain ⟨⟨hb0, hb1⟩, H⟩ := H
    refine rc_iald mq13 (mvDec_of cd13 rfl) (miE2 he) hb0 hb1 ?_
    refine rc_iconst mq13 (mvDec_of cd13 rfl) (by decide) ?_
    refine rc_icmp_ne (t := 95) mq13 (mvDec_of cd13 rfl) rfl (fun hc => ?_) (fun hc => ?_)
    · replace H := H.1 hc
      refine rc_iinc [some (mvR e), some (mvI l1), some (mvI l2), some (mvI l3), some (mvI (mw (l4 + 1))), some (mvI v1)] mq13 (mvDec_of cd13 rfl) rfl rfl ?_
      refine rc_goto (t := 20) mq13 (mvDec_of cd13 rfl) rfl ?_
      exact H
    · replace H := H.2 hc
      refine rc_aload_n mq13 (mvDec_of cd13 rfl) rfl ?_
      refine rc_getR (e + 3) mq13 (mvDec_of cd13 rfl) fl_2_18 (miE0 he) rfl (mgE4 he hG) (Nat.succ_ne_zero _) ?_
      refine rc_iload mq13 (mvDec_of cd13 rfl) rfl ?_
      obtain ⟨⟨hb0, hb1⟩, H⟩ := H
      refine rc_iald mq13 (mvDec_of cd13 rfl) (miE3 he) hb0 hb1 ?_
      refine rc_iload_n mq13 (mvDec_of cd13 rfl) rfl ?_
      refine rc_icmp_ne (t := 95) mq13 (mvDec_of cd13 rfl) rfl (fun hc => ?_) (fun hc => ?_)
      · replace H := H.1 hc
        refine rc_iinc [some (mvR e), some (mvI l1), some (mvI l2), some (mvI l3), some (mvI (mw (l4 + 1))), some (mvI v1)] mq13 (mvDec_of cd13 rfl) rfl rfl ?_
        refine rc_goto (t := 20) mq13 (mvDec_of cd13 rfl) rfl ?_
        exact H
      · replace H := H.2 hc
        refine rc_aload_n mq13 (mvDec_of cd13 rfl) rfl ?_
        refine rc_getR (e + 4) mq13 (mvDec_of cd13 rfl) fl_2_21 (miE0 he) rfl (mgE5 he hG) (Nat.succ_ne_zero _) ?_
        refine rc_iload mq13 (mvDec_of cd13 rfl) rfl ?_
        refine rc_iload_n mq13 (mvDec_of cd13 rfl) rfl ?_
        obtain ⟨⟨hb0, hb1⟩, H⟩ := H
        refine rc_iast mq13 (mvDec_of cd13 rfl) (miE4 he) hb0 hb1 ?_
        refine rc_heap (fun h2 hh => ?_)
        replace H := H h2 hh
        refine rc_aload_n mq13 (mvDec_of cd13 rfl) rfl ?_
        refine rc_getR (e + 4) mq13 (mvDec_of cd13 rfl) fl_2_21 (miE0 he) rfl (mgE5 he hG) (Nat.succ_ne_zero _) ?_
        refine rc_iload_n mq13 (mvDec_of cd13 rfl) rfl ?_
        refine rc_bipush mq13 (mvDec_of cd13 rfl) (by decide) ?_
        refine rc_imul mq13 (mvDec_of cd13 rfl) ?_
        refine rc_iload_n mq13 (mvDec_of cd13 rfl) rfl ?_
        refine rc_iadd mq13 (mvDec_of cd13 rfl) ?_
        refine rc_iload mq13 (mvDec_of cd13 rfl) rfl ?_
        obtain ⟨⟨hb0, hb1⟩, H⟩ := H
        refine rc_iast mq13 (mvDec_of cd13 rfl) (miE4 he) hb0 hb1 ?_
        refine rc_heap (fun h3 hh => ?_)
        replace H := H h3 hh
        refine rc_aload_n mq13 (mvDec_of cd13 rfl) rfl ?_
        refine rc_getR (e + 8) mq13 (mvDec_of cd13 rfl) fl_2_33 (miE0 he) rfl (mgE9 he hG) (Nat.succ_ne_zero _) ?_
        refine rc_iload_n mq13 (mvDec_of cd13 rfl) rfl ?_
        refine rc_iload mq13 (mvDec_of cd13 rfl) rfl ?_
        refine rc_iconst mq13 (mvDec_of cd13 rfl) (by decide) ?_
        refine rc_iadd mq13 (mvDec_of cd13 rfl) ?_
        obtain ⟨⟨hb0, hb1⟩, H⟩ := H
        refine rc_iast mq13 (mvDec_of cd13 rfl) (miE8 he) hb0 hb1 ?_
        refine rc_heap (fun h4 hh => ?_)
        replace H := H h4 hh
        refine rc_iconst mq13 (mvDec_of cd13 rfl) (by decide) ?_
        exact rc_zret mq13 (mvDec_of cd13 rfl) (Or.inr rfl) ⟨_, _, rfl, rfl, H⟩
abbrev EV_firstOf (g : Nat → Nat → Nat) (h : Nat → Int → Int) (x0 : Int) (K : Int → (Nat → Int → Int) → Prop) : Prop := RI 14 0 [some (mvI x0), none] [] g h K
abbrev EV_firstOf_2 (g : Nat → Nat → Nat) (h : Nat → Int → Int) (l0 : Int) (l1 : Int) (K : Int → (Nat → Int → Int) → Prop) : Prop := RI 14 2 [some (mvI l0), some (mvI l1)] [] g h K
theorem EV_firstOf_wp {sw : Bool} {g : Nat → Nat → Nat} {h : Nat → Int → Int} {x0 : Int} {K : Int → (Nat → Int → Int) → Prop} (hG : Gok sw g)  (H :
  EV_firstOf_2 g h x0 0 K) : EV_firstOf g h x0 K := by
  refine rc_iconst mq14 (mvDec_of cd14 rfl) (by decide) ?_
  refine rc_istore_n [some (mvI x0), some (mvI 0)] mq14 (mvDec_of cd14 rfl) rfl ?_
  exact H
theorem EV_firstOf_2_wp {sw : Bool} {g : Nat → Nat → Nat} {h : Nat → Int → Int} {l0 : Int} {l1 : Int} {K : Int → (Nat → Int → Int) → Prop} (hG : Gok sw g)  (H :
  ((4 ≤ l1 →
    K (-1) h) ∧
  (l1 < 4 →
    (((mvAnd (mvShr l0 l1) 1) = 0 →
      EV_firstOf_2 g h l0 (mw (l1 + 1)) K) ∧
    (¬ (mvAnd (mvShr l0 l1) 1) = 0 →
      K l1 h))))) : EV_firstOf_2 g h l0 l1 K := by
  refine rc_iload_n mq14 (mvDec_of cd14 rfl) rfl ?_
  refine rc_iconst mq14 (mvDec_of cd14 rfl) (by decide) ?_
  refine rc_icmp_ge (t := 23) mq14 (mvDec_of cd14 rfl) rfl (fun hc => ?_) (fun hc => ?_)
  · replace H := H.1 hc
    refine rc_iconst mq14 (mvDec_of cd14 rfl) (by decide) ?_
    exact rc_iret mq14 (mvDec_of cd14 rfl) ⟨_, _, rfl, rfl, H⟩
  · replace H := H.2 hc
    refine rc_iload_n mq14 (mvDec_of cd14 rfl) rfl ?_
    refine rc_iload_n mq14 (mvDec_of cd14 rfl) rfl ?_
    refine rc_ishr mq14 (mvDec_of cd14 rfl) ?_
    refine rc_iconst mq14 (mvDec_of cd14 rfl) (by decide) ?_
    refine rc_iand mq14 (mvDec_of cd14 rfl) ?_
    refine rc_if_eq (t := 17) mq14 (mvDec_of cd14 rfl) rfl (fun hc => ?_) (fun hc => ?_)
    · replace H := H.1 hc
      refine rc_iinc [some (mvI l0), some (mvI (mw (l1 + 1)))] mq14 (mvDec_of cd14 rfl) rfl rfl ?_
      refine rc_goto (t := 2) mq14 (mvDec_of cd14 rfl) rfl ?_
      exact H
    · replace H := H.2 hc
      refine rc_iload_n mq14 (mvDec_of cd14 rfl) rfl ?_
      exact rc_iret mq14 (mvDec_of cd14 rfl) ⟨_, _, rfl, rfl, H⟩
abbrev EV_followProcess (g : Nat → Nat → Nat) (h : Nat → Int → Int) (e : Nat) (x1 : Int) (K : (Nat → Int → Int) → Prop) : Prop := RV 15 0 [some (mvR e), some (mvI x1), none, none, none, none] [] g h K
abbrev EV_followProcess_7 (g : Nat → Nat → Nat) (h : Nat → Int → Int) (e : Nat) (l1 : Int) (l2 : Int) (l3 : Int) (l4 : Int) (u5 : Option Int) (K : (Nat → Int → Int) → Prop) : Prop := RV 15 7 [some (mvR e), some (mvI l1), some (mvI l2), some (mvI l3), some (mvI l4), u5.map mvI] [] g h K
theorem EV_followProcess_wp {sw : Bool} {g : Nat → Nat → Nat} {h : Nat → Int → Int} {e : Nat} {x1 : Int} {K : (Nat → Int → Int) → Prop} (hG : Gok sw g) (he : EvId e) (H :
  EV_followProcess_7 g h e x1 0 0 0 none K) : EV_followProcess g h e x1 K := by
  refine rc_iconst mq15 (mvDec_of cd15 rfl) (by decide) ?_
  refine rc_istore_n [some (mvR e), some (mvI x1), some (mvI 0), none, none, none] mq15 (mvDec_of cd15 rfl) rfl ?_
  refine rc_iconst mq15 (mvDec_of cd15 rfl) (by decide) ?_
  refine rc_istore_n [some (mvR e), some (mvI x1), some (mvI 0), some (mvI 0), none, none] mq15 (mvDec_of cd15 rfl) rfl ?_
  refine rc_iconst mq15 (mvDec_of cd15 rfl) (by decide) ?_
  refine rc_istore [some (mvR e), some (mvI x1), some (mvI 0), some (mvI 0), some (mvI 0), none] mq15 (mvDec_of cd15 rfl) rfl ?_
  exact H
theorem EV_followProcess_7_wp {sw : Bool} {g : Nat → Nat → Nat} {h : Nat → Int → Int} {e : Nat} {l1 : Int} {l2 : Int} {l3 : Int} {l4 : Int} {u5 : Option Int} {K : (Nat → Int → Int) → Prop} (hG : Gok sw g) (he : EvId e) (H :
  (0 ≤ l1 ∧ l1 < 4) ∧
  (((h (e + 1) l1) ≤ l4 →
    (0 ≤ l1 ∧ l1 < 4) ∧
    (0 ≤ (mw ((mw (l1 * 10)) + (h (e + 1) l1))) ∧ (mw ((mw (l1 * 10)) + (h (e + 1) l1))) < 40) ∧
    (∀ h1, h1 = mvUpd h (e + 6) (mw ((mw (l1 * 10)) + (h (e + 1) l1))) l2 →
    (0 ≤ l1 ∧ l1 < 4) ∧
    (0 ≤ (mw ((mw (l1 * 10)) + (h1 (e + 1) l1))) ∧ (mw ((mw (l1 * 10)) + (h1 (e + 1) l1))) < 40) ∧
    (∀ h2, h2 = mvUpd h1 (e + 7) (mw ((mw (l1 * 10)) + (h1 (e + 1) l1))) l3 →
    K h2))) ∧
  (l4 < (h (e + 1) l1) →
    (0 ≤ (mw ((mw (l1 * 10)) + l4)) ∧ (mw ((mw (l1 * 10)) + l4)) < 40) ∧
    (∀ h3, h3 = mvUpd h (e + 6) (mw ((mw (l1 * 10)) + l4)) l2 →
    (0 ≤ (mw ((mw (l1 * 10)) + l4)) ∧ (mw ((mw (l1 * 10)) + l4)) < 40) ∧
    (∀ h4, h4 = mvUpd h3 (e + 7) (mw ((mw (l1 * 10)) + l4)) l3 →
    (∀ v5, v5 = (mw ((mw (l1 * 9)) + l4)) →
    (0 ≤ v5 ∧ v5 < 36) ∧
    ((¬ (h4 (e + 2) v5) = 0 →
      (0 ≤ v5 ∧ v5 < 36) ∧
      ((¬ (h4 (e + 2) v5) = 1 →
        (0 ≤ v5 ∧ v5 < 36) ∧
        ((¬ (h4 (e + 2) v5) = 2 →
          EV_followProcess_7 g h4 e l1 l2 l3 (mw (l4 + 1)) (some v5) K) ∧
        ((h4 (e + 2) v5) = 2 →
          EV_followProcess_7 g h4 e l1 l2 (mw (l3 + (-1))) (mw (l4 + 1)) (some v5) K))) ∧
      ((h4 (e + 2) v5) = 1 →
        (0 ≤ v5 ∧ v5 < 36) ∧
        ((¬ (h4 (e + 2) v5) = 2 →
          EV_followProcess_7 g h4 e l1 l2 (mw (l3 + 1)) (mw (l4 + 1)) (some v5) K) ∧
        ((h4 (e + 2) v5) = 2 →
          EV_followProcess_7 g h4 e l1 l2 (mw ((mw (l3 + 1)) + (-1))) (mw (l4 + 1)) (some v5) K))))) ∧
    ((h4 (e + 2) v5) = 0 →
      (0 ≤ v5 ∧ v5 < 36) ∧
      (∀ v6, v6 = (h4 (e + 3) v5) →
      (0 ≤ v5 ∧ v5 < 36) ∧
      ((¬ (h4 (e + 2) v5) = 1 →
        (0 ≤ v5 ∧ v5 < 36) ∧
        ((¬ (h4 (e + 2) v5) = 2 →
          EV_followProcess_7 g h4 e l1 v6 l3 (mw (l4 + 1)) (some v5) K) ∧
        ((h4 (e + 2) v5) = 2 →
          EV_followProcess_7 g h4 e l1 v6 (mw (l3 + (-1))) (mw (l4 + 1)) (some v5) K))) ∧
      ((h4 (e + 2) v5) = 1 →
        (0 ≤ v5 ∧ v5 < 36) ∧
        ((¬ (h4 (e + 2) v5) = 2 →
          EV_followProcess_7 g h4 e l1 v6 (mw (l3 + 1)) (mw (l4 + 1)) (some v5) K) ∧
        ((h4 (e + 2) v5) = 2 →
          EV_followProcess_7 g h4 e l1 v6 (mw ((mw (l3 + 1)) + (-1))) (mw (l4 + 1)) (some v5) K))))))))))))) : EV_followProcess_7 g h e l1 l2 l3 l4 u5 K := by
  refine rc_iload mq15 (mvDec_of cd15 rfl) rfl ?_
  refine rc_aload_n mq15 (mvDec_of cd15 rfl) rfl ?_
  refine rc_getR (e + 1) mq15 (mvDec_of cd15 rfl) fl_2_9 (miE0 he) rfl (mgE2 he hG) (Nat.succ_ne_zero _) ?_
  refine rc_iload_n mq15 (mvDec_of cd15 rfl) rfl ?_
  obtain ⟨⟨hb0, hb1⟩, H⟩ := H
  refine rc_iald mq15 (mvDec_of cd15 rfl) (miE1 he) hb0 hb1 ?_
  refine rc_icmp_ge (t := 105) mq15 (mvDec_of cd15 rfl) rfl (fun hc => ?_) (fun hc => ?_)
  · replace H := H.1 hc
    refine rc_aload_n mq15 (mvDec_of cd15 rfl) rfl ?_
    refine rc_getR (e + 6) mq15 (mvDec_of cd15 rfl) fl_2_27 (miE0 he) rfl (mgE7 he hG) (Nat.succ_ne_zero _) ?_
    refine rc_iload_n mq15 (mvDec_of cd15 rfl) rfl ?_
    refine rc_bipush mq15 (mvDec_of cd15 rfl) (by decide) ?_
    refine rc_imul mq15 (mvDec_of cd15 rfl) ?_
    refine rc_aload_n mq15 (mvDec_of cd15 rfl) rfl ?_
    refine rc_getR (e + 1) mq15 (mvDec_of cd15 rfl) fl_2_9 (miE0 he) rfl (mgE2 he hG) (Nat.succ_ne_zero _) ?_
    refine rc_iload_n mq15 (mvDec_of cd15 rfl) rfl ?_
    obtain ⟨⟨hb0, hb1⟩, H⟩ := H
    refine rc_iald mq15 (mvDec_of cd15 rfl) (miE1 he) hb0 hb1 ?_
    refine rc_iadd mq15 (mvDec_of cd15 rfl) ?_
    refine rc_iload_n mq15 (mvDec_of cd15 rfl) rfl ?_
    obtain ⟨⟨hb0, hb1⟩, H⟩ := H
    refine rc_iast mq15 (mvDec_of cd15 rfl) (miE6 he) hb0 hb1 ?_
    refine rc_heap (fun h1 hh => ?_)
    replace H := H h1 hh
    refine rc_aload_n mq15 (mvDec_of cd15 rfl) rfl ?_
    refine rc_getR (e + 7) mq15 (mvDec_of cd15 rfl) fl_2_30 (miE0 he) rfl (mgE8 he hG) (Nat.succ_ne_zero _) ?_
    refine rc_iload_n mq15 (mvDec_of cd15 rfl) rfl ?_
    refine rc_bipush mq15 (mvDec_of cd15 rfl) (by decide) ?_
    refine rc_imul mq15 (mvDec_of cd15 rfl) ?_
    refine rc_aload_n mq15 (mvDec_of cd15 rfl) rfl ?_
    refine rc_getR (e + 1) mq15 (mvDec_of cd15 rfl) fl_2_9 (miE0 he) rfl (mgE2 he hG) (Nat.succ_ne_zero _) ?_
    refine rc_iload_n mq15 (mvDec_of cd15 rfl) rfl ?_
    obtain ⟨⟨hb0, hb1⟩, H⟩ := H
    refine rc_iald mq15 (mvDec_of cd15 rfl) (miE1 he) hb0 hb1 ?_
    refine rc_iadd mq15 (mvDec_of cd15 rfl) ?_
    refine rc_iload_n mq15 (mvDec_of cd15 rfl) rfl ?_
    obtain ⟨⟨hb0, hb1⟩, H⟩ := H
    refine rc_iast mq15 (mvDec_of cd15 rfl) (miE7 he) hb0 hb1 ?_
    refine rc_heap (fun h2 hh => ?_)
    replace H := H h2 hh
    exact rc_vret mq15 (mvDec_of cd15 rfl) ⟨_, rfl, rfl, H⟩
  · replace H := H.2 hc
    refine rc_aload_n mq15 (mvDec_of cd15 rfl) rfl ?_
    refine rc_getR (e + 6) mq15 (mvDec_of cd15 rfl) fl_2_27 (miE0 he) rfl (mgE7 he hG) (Nat.succ_ne_zero _) ?_
    refine rc_iload_n mq15 (mvDec_of cd15 rfl) rfl ?_
    refine rc_bipush mq15 (mvDec_of cd15 rfl) (by decide) ?_
    refine rc_imul mq15 (mvDec_of cd15 rfl) ?_
    refine rc_iload mq15 (mvDec_of cd15 rfl) rfl ?_
    refine rc_iadd mq15 (mvDec_of cd15 rfl) ?_
    refine rc_iload_n mq15 (mvDec_of cd15 rfl) rfl ?_
    obtain ⟨⟨hb0, hb1⟩, H⟩ := H
    refine rc_iast mq15 (mvDec_of cd15 rfl) (miE6 he) hb0 hb1 ?_
    refine rc_heap (fun h3 hh => ?_)
    replace H := H h3 hh
    refine rc_aload_n mq15 (mvDec_of cd15 rfl) rfl ?_
    refine rc_getR (e + 7) mq15 (mvDec_of cd15 rfl) fl_2_30 (miE0 he) rfl (mgE8 he hG) (Nat.succ_ne_zero _) ?_
    refine rc_iload_n mq15 (mvDec_of cd15 rfl) rfl ?_
    refine rc_bipush mq15 (mvDec_of cd15 rfl) (by decide) ?_
    refine rc_imul mq15 (mvDec_of cd15 rfl) ?_
    refine rc_iload mq15 (mvDec_of cd15 rfl) rfl ?_
    refine rc_iadd mq15 (mvDec_of cd15 rfl) ?_
    refine rc_iload_n mq15 (mvDec_of cd15 rfl) rfl ?_
    obtain ⟨⟨hb0, hb1⟩, H⟩ := H
    refine rc_iast mq15 (mvDec_of cd15 rfl) (miE7 he) hb0 hb1 ?_
    refine rc_heap (fun h4 hh => ?_)
    replace H := H h4 hh
    refine rc_iload_n mq15 (mvDec_of cd15 rfl) rfl ?_
    refine rc_bipush mq15 (mvDec_of cd15 rfl) (by decide) ?_
    refine rc_imul mq15 (mvDec_of cd15 rfl) ?_
    refine rc_iload mq15 (mvDec_of cd15 rfl) rfl ?_
    refine rc_iadd mq15 (mvDec_of cd15 rfl) ?_
    refine rc_top (fun v5 hv => ?_)
    replace H := H v5 hv
    refine rc_istore [some (mvR e), some (mvI l1), some (mvI l2), some (mvI l3), some (mvI l4), some (mvI v5)] mq15 (mvDec_of cd15 rfl) rfl ?_
    refine rc_aload_n mq15 (mvDec_of cd15 rfl) rfl ?_
    refine rc_getR (e + 2) mq15 (mvDec_of cd15 rfl) fl_2_15 (miE0 he) rfl (mgE3 he hG) (Nat.succ_ne_zero _) ?_
    refine rc_iload mq15 (mvDec_of cd15 rfl) rfl ?_
    obtain ⟨⟨hb0, hb1⟩, H⟩ := H
    refine rc_iald mq15 (mvDec_of cd15 rfl) (miE2 he) hb0 hb1 ?_
    refine rc_if_ne (t := 71) mq15 (mvDec_of cd15 rfl) rfl (fun hc => ?_) (fun hc => ?_)
    · replace H := H.1 hc
      refine rc_aload_n mq15 (mvDec_of cd15 rfl) rfl ?_
      refine rc_getR (e + 2) mq15 (mvDec_of cd15 rfl) fl_2_15 (miE0 he) rfl (mgE3 he hG) (Nat.succ_ne_zero _) ?_
      refine rc_iload mq15 (mvDec_of cd15 rfl) rfl ?_
      obtain ⟨⟨hb0, hb1⟩, H⟩ := H
      refine rc_iald mq15 (mvDec_of cd15 rfl) (miE2 he) hb0 hb1 ?_
      refine rc_iconst mq15 (mvDec_of cd15 rfl) (by decide) ?_
      refine rc_icmp_ne (t := 85) mq15 (mvDec_of cd15 rfl) rfl (fun hc => ?_) (fun hc => ?_)
      · replace H := H.1 hc
        refine rc_aload_n mq15 (mvDec_of cd15 rfl) rfl ?_
        refine rc_getR (e + 2) mq15 (mvDec_of cd15 rfl) fl_2_15 (miE0 he) rfl (mgE3 he hG) (Nat.succ_ne_zero _) ?_
        refine rc_iload mq15 (mvDec_of cd15 rfl) rfl ?_
        obtain ⟨⟨hb0, hb1⟩, H⟩ := H
        refine rc_iald mq15 (mvDec_of cd15 rfl) (miE2 he) hb0 hb1 ?_
        refine rc_iconst mq15 (mvDec_of cd15 rfl) (by decide) ?_
        refine rc_icmp_ne (t := 99) mq15 (mvDec_of cd15 rfl) rfl (fun hc => ?_) (fun hc => ?_)
        · replace H := H.1 hc
          refine rc_iinc [some (mvR e), some (mvI l1), some (mvI l2), some (mvI l3), some (mvI (mw (l4 + 1))), some (mvI v5)] mq15 (mvDec_of cd15 rfl) rfl rfl ?_
          refine rc_goto (t := 7) mq15 (mvDec_of cd15 rfl) rfl ?_
          exact H
        · replace H := H.2 hc
          refine rc_iinc [some (mvR e), some (mvI l1), some (mvI l2), some (mvI (mw (l3 + (-1)))), some (mvI l4), some (mvI v5)] mq15 (mvDec_of cd15 rfl) rfl rfl ?_
          refine rc_iinc [some (mvR e), some (mvI l1), some (mvI l2), some (mvI (mw (l3 + (-1)))), some (mvI (mw (l4 + 1))), some (mvI v5)] mq15 (mvDec_of cd15 rfl) rfl rfl ?_
          refine rc_goto (t := 7) mq15 (mvDec_of cd15 rfl) rfl ?_
          exact H
      · replace H := H.2 hc
        refine rc_iinc [some (mvR e), some (mvI l1), some (mvI l2), some (mvI (mw (l3 + 1))), some (mvI l4), some (mvI v5)] mq15 (mvDec_of cd15 rfl) rfl rfl ?_
        refine rc_aload_n mq15 (mvDec_of cd15 rfl) rfl ?_
        refine rc_getR (e + 2) mq15 (mvDec_of cd15 rfl) fl_2_15 (miE0 he) rfl (mgE3 he hG) (Nat.succ_ne_zero _) ?_
        refine rc_iload mq15 (mvDec_of cd15 rfl) rfl ?_
        obtain ⟨⟨hb0, hb1⟩, H⟩ := H
        refine rc_iald mq15 (mvDec_of cd15 rfl) (miE2 he) hb0 hb1 ?_
        refine rc_iconst mq15 (mvDec_of cd15 rfl) (by decide) ?_
        refine rc_icmp_ne (t := 99) mq15 (mvDec_of cd15 rfl) rfl (fun hc => ?_) (fun hc => ?_)
        · replace H := H.1 hc
          refine rc_iinc [some (mvR e), some (mvI l1), some (mvI l2), some (mvI (mw (l3 + 1))), some (mvI (mw (l4 + 1))), some (mvI v5)] mq15 (mvDec_of cd15 rfl) rfl rfl ?_
          refine rc_goto (t := 7) mq15 (mvDec_of cd15 rfl) rfl ?_
          exact H
        · replace H := H.2 hc
          refine rc_iinc [some (mvR e), some (mvI l1), some (mvI l2), some (mvI (mw ((mw (l3 + 1)) + (-1)))), some (mvI l4), some (mvI v5)] mq15 (mvDec_of cd15 rfl) rfl rfl ?_
          refine rc_iinc [some (mvR e), some (mvI l1), some (mvI l2), some (mvI (mw ((mw (l3 + 1)) + (-1)))), some (mvI (mw (l4 + 1))), some (mvI v5)] mq15 (mvDec_of cd15 rfl) rfl rfl ?_
          refine rc_goto (t := 7) mq15 (mvDec_of cd15 rfl) rfl ?_
          exact H
    · replace H := H.2 hc
      refine rc_aload_n mq15 (mvDec_of cd15 rfl) rfl ?_
      refine rc_getR (e + 3) mq15 (mvDec_of cd15 rfl) fl_2_18 (miE0 he) rfl (mgE4 he hG) (Nat.succ_ne_zero _) ?_
      refine rc_iload mq15 (mvDec_of cd15 rfl) rfl ?_
      obtain ⟨⟨hb0, hb1⟩, H⟩ := H
      refine rc_iald mq15 (mvDec_of cd15 rfl) (miE3 he) hb0 hb1 ?_
      refine rc_top (fun v6 hv => ?_)
      replace H := H v6 hv
      refine rc_istore_n [some (mvR e), some (mvI l1), some (mvI v6), some (mvI l3), some (mvI l4), some (mvI v5)] mq15 (mvDec_of cd15 rfl) rfl ?_
      refine rc_aload_n mq15 (mvDec_of cd15 rfl) rfl ?_
      refine rc_getR (e + 2) mq15 (mvDec_of cd15 rfl) fl_2_15 (miE0 he) rfl (mgE3 he hG) (Nat.succ_ne_zero _) ?_
      refine rc_iload mq15 (mvDec_of cd15 rfl) rfl ?_
      obtain ⟨⟨hb0, hb1⟩, H⟩ := H
      refine rc_iald mq15 (mvDec_of cd15 rfl) (miE2 he) hb0 hb1 ?_
      refine rc_iconst mq15 (mvDec_of cd15 rfl) (by decide) ?_
      refine rc_icmp_ne (t := 85) mq15 (mvDec_of cd15 rfl) rfl (fun hc => ?_) (fun hc => ?_)
      · replace H := H.1 hc
        refine rc_aload_n mq15 (mvDec_of cd15 rfl) rfl ?_
        refine rc_getR (e + 2) mq15 (mvDec_of cd15 rfl) fl_2_15 (miE0 he) rfl (mgE3 he hG) (Nat.succ_ne_zero _) ?_
        refine rc_iload mq15 (mvDec_of cd15 rfl) rfl ?_
        obtain ⟨⟨hb0, hb1⟩, H⟩ := H
        refine rc_iald mq15 (mvDec_of cd15 rfl) (miE2 he) hb0 hb1 ?_
        refine rc_iconst mq15 (mvDec_of cd15 rfl) (by decide) ?_
        refine rc_icmp_ne (t := 99) mq15 (mvDec_of cd15 rfl) rfl (fun hc => ?_) (fun hc => ?_)
        · replace H := H.1 hc
          refine rc_iinc [some (mvR e), some (mvI l1), some (mvI v6), some (mvI l3), some (mvI (mw (l4 + 1))), some (mvI v5)] mq15 (mvDec_of cd15 rfl) rfl rfl ?_
          refine rc_goto (t := 7) mq15 (mvDec_of cd15 rfl) rfl ?_
          exact H
        · replace H := H.2 hc
          refine rc_iinc [some (mvR e), some (mvI l1), some (mvI v6), some (mvI (mw (l3 + (-1)))), some (mvI l4), some (mvI v5)] mq15 (mvDec_of cd15 rfl) rfl rfl ?_
          refine rc_iinc [some (mvR e), some (mvI l1), some (mvI v6), some (mvI (mw (l3 + (-1)))), some (mvI (mw (l4 + 1))), some (mvI v5)] mq15 (mvDec_of cd15 rfl) rfl rfl ?_
          refine rc_goto (t := 7) mq15 (mvDec_of cd15 rfl) rfl ?_
          exact H
      · replace H := H.2 hc
        refine rc_iinc [some (mvR e), some (mvI l1), some (mvI v6), some (mvI (mw (l3 + 1))), some (mvI l4), some (mvI v5)] mq15 (mvDec_of cd15 rfl) rfl rfl ?_
        refine rc_aload_n mq15 (mvDec_of cd15 rfl) rfl ?_
        refine rc_getR (e + 2) mq15 (mvDec_of cd15 rfl) fl_2_15 (miE0 he) rfl (mgE3 he hG) (Nat.succ_ne_zero _) ?_
        refine rc_iload mq15 (mvDec_of cd15 rfl) rfl ?_
        obtain ⟨⟨hb0, hb1⟩, H⟩ := H
        refine rc_iald mq15 (mvDec_of cd15 rfl) (miE2 he) hb0 hb1 ?_
        refine rc_iconst mq15 (mvDec_of cd15 rfl) (by decide) ?_
        refine rc_icmp_ne (t := 99) mq15 (mvDec_of cd15 rfl) rfl (fun hc => ?_) (fun hc => ?_)
        · replace H := H.1 hc
          refine rc_iinc [some (mvR e), some (mvI l1), some (mvI v6), some (mvI (mw (l3 + 1))), some (mvI (mw (l4 + 1))), some (mvI v5)] mq15 (mvDec_of cd15 rfl) rfl rfl ?_
          refine rc_goto (t := 7) mq15 (mvDec_of cd15 rfl) rfl ?_
          exact H
        · replace H := H.2 hc
          refine rc_iinc [some (mvR e), some (mvI l1), some (mvI v6), some (mvI (mw ((mw (l3 + 1)) + (-1)))), some (mvI l4), some (mvI v5)] mq15 (mvDec_of cd15 rfl) rfl rfl ?_
          refine rc_iinc [some (mvR e), some (mvI l1), some (mvI v6), some (mvI (mw ((mw (l3 + 1)) + (-1)))), some (mvI (mw (l4 + 1))), some (mvI v5)] mq15 (mvDec_of cd15 rfl) rfl rfl ?_
          refine rc_goto (t := 7) mq15 (mvDec_of cd15 rfl) rfl ?_
          exact H
abbrev EV_hasFreeSend (g : Nat → Nat → Nat) (h : Nat → Int → Int) (e : Nat) (x1 : Int) (x2 : Int) (K : Int → (Nat → Int → Int) → Prop) : Prop := RI 20 0 [some (mvR e), some (mvI x1), some (mvI x2), none, none] [] g h K
abbrev EV_hasFreeSend_2 (g : Nat → Nat → Nat) (h : Nat → Int → Int) (e : Nat) (l1 : Int) (l2 : Int) (l3 : Int) (u4 : Option Int) (K : Int → (Nat → Int → Int) → Prop) : Prop := RI 20 2 [some (mvR e), some (mvI l1), some (mvI l2), some (mvI l3), u4.map mvI] [] g h K
theorem EV_hasFreeSend_wp {sw : Bool} {g : Nat → Nat → Nat} {h : Nat → Int → Int} {e : Nat} {x1 : Int} {x2 : Int} {K : Int → (Nat → Int → Int) → Prop} (hG : Gok sw g) (he : EvId e) (H :
  EV_hasFreeSend_2 g h e x1 x2 0 none K) : EV_hasFreeSend g h e x1 x2 K := by
  refine rc_iconst mq20 (mvDec_of cd20 rfl) (by decide) ?_
  refine rc_istore_n [some (mvR e), some (mvI x1), some (mvI x2), some (mvI 0), none] mq20 (mvDec_of cd20 rfl) rfl ?_
  exact H
theorem EV_hasFreeSend_2_wp {sw : Bool} {g : Nat → Nat → Nat} {h : Nat → Int → Int} {e : Nat} {l1 : Int} {l2 : Int} {l3 : Int} {u4 : Option Int} {K : Int → (Nat → Int → Int) → Prop} (hG : Gok sw g) (he : EvId e) (H :
  (0 ≤ l1 ∧ l1 < 4) ∧
  (((h (e + 1) l1) ≤ l3 →
    K 0 h) ∧
  (l3 < (h (e + 1) l1) →
    (∀ v1, v1 = (mw ((mw (l1 * 9)) + l3)) →
    (0 ≤ v1 ∧ v1 < 36) ∧
    ((¬ (h (e + 2) v1) = 1 →
      EV_hasFreeSend_2 g h e l1 l2 (mw (l3 + 1)) (some v1) K) ∧
    ((h (e + 2) v1) = 1 →
      (0 ≤ v1 ∧ v1 < 36) ∧
      ((¬ (h (e + 3) v1) = l2 →
        EV_hasFreeSend_2 g h e l1 l2 (mw (l3 + 1)) (some v1) K) ∧
      ((h (e + 3) v1) = l2 →
        (0 ≤ v1 ∧ v1 < 36) ∧
        ((¬ (h (e + 4) v1) = (-1) →
          EV_hasFreeSend_2 g h e l1 l2 (mw (l3 + 1)) (some v1) K) ∧
        ((h (e + 4) v1) = (-1) →
          K 1 h)))))))))) : EV_hasFreeSend_2 g h e l1 l2 l3 u4 K := by
  refine rc_iload_n mq20 (mvDec_of cd20 rfl) rfl ?_
  refine rc_aload_n mq20 (mvDec_of cd20 rfl) rfl ?_
  refine rc_getR (e + 1) mq20 (mvDec_of cd20 rfl) fl_2_9 (miE0 he) rfl (mgE2 he hG) (Nat.succ_ne_zero _) ?_
  refine rc_iload_n mq20 (mvDec_of cd20 rfl) rfl ?_
  obtain ⟨⟨hb0, hb1⟩, H⟩ := H
  refine rc_iald mq20 (mvDec_of cd20 rfl) (miE1 he) hb0 hb1 ?_
  refine rc_icmp_ge (t := 61) mq20 (mvDec_of cd20 rfl) rfl (fun hc => ?_) (fun hc => ?_)
  · replace H := H.1 hc
    refine rc_iconst mq20 (mvDec_of cd20 rfl) (by decide) ?_
    exact rc_zret mq20 (mvDec_of cd20 rfl) (Or.inl rfl) ⟨_, _, rfl, rfl, H⟩
  · replace H := H.2 hc
    refine rc_iload_n mq20 (mvDec_of cd20 rfl) rfl ?_
    refine rc_bipush mq20 (mvDec_of cd20 rfl) (by decide) ?_
    refine rc_imul mq20 (mvDec_of cd20 rfl) ?_
    refine rc_iload_n mq20 (mvDec_of cd20 rfl) rfl ?_
    refine rc_iadd mq20 (mvDec_of cd20 rfl) ?_
    refine rc_top (fun v1 hv => ?_)
    replace H := H v1 hv
    refine rc_istore [some (mvR e), some (mvI l1), some (mvI l2), some (mvI l3), some (mvI v1)] mq20 (mvDec_of cd20 rfl) rfl ?_
    refine rc_aload_n mq20 (mvDec_of cd20 rfl) rfl ?_
    refine rc_getR (e + 2) mq20 (mvDec_of cd20 rfl) fl_2_15 (miE0 he) rfl (mgE3 he hG) (Nat.succ_ne_zero _) ?_
    refine rc_iload mq20 (mvDec_of cd20 rfl) rfl ?_
    obtain ⟨⟨hb0, hb1⟩, H⟩ := H
    refine rc_iald mq20 (mvDec_of cd20 rfl) (miE2 he) hb0 hb1 ?_
    refine rc_iconst mq20 (mvDec_of cd20 rfl) (by decide) ?_
    refine rc_icmp_ne (t := 55) mq20 (mvDec_of cd20 rfl) rfl (fun hc => ?_) (fun hc => ?_)
    · replace H := H.1 hc
      refine rc_iinc [some (mvR e), some (mvI l1), some (mvI l2), some (mvI (mw (l3 + 1))), some (mvI v1)] mq20 (mvDec_of cd20 rfl) rfl rfl ?_
      refine rc_goto (t := 2) mq20 (mvDec_of cd20 rfl) rfl ?_
      exact H
    · replace H := H.2 hc
      refine rc_aload_n mq20 (mvDec_of cd20 rfl) rfl ?_
      refine rc_getR (e + 3) mq20 (mvDec_of cd20 rfl) fl_2_18 (miE0 he) rfl (mgE4 he hG) (Nat.succ_ne_zero _) ?_
      refine rc_iload mq20 (mvDec_of cd20 rfl) rfl ?_
      obtain ⟨⟨hb0, hb1⟩, H⟩ := H
      refine rc_iald mq20 (mvDec_of cd20 rfl) (miE3 he) hb0 hb1 ?_
      refine rc_iload_n mq20 (mvDec_of cd20 rfl) rfl ?_
      refine rc_icmp_ne (t := 55) mq20 (mvDec_of cd20 rfl) rfl (fun hc => ?_) (fun hc => ?_)
      · replace H := H.1 hc
        refine rc_iinc [some (mvR e), some (mvI l1), some (mvI l2), some (mvI (mw (l3 + 1))), some (mvI v1)] mq20 (mvDec_of cd20 rfl) rfl rfl ?_
        refine rc_goto (t := 2) mq20 (mvDec_of cd20 rfl) rfl ?_
        exact H
      · replace H := H.2 hc
        refine rc_aload_n mq20 (mvDec_of cd20 rfl) rfl ?_
        refine rc_getR (e + 4) mq20 (mvDec_of cd20 rfl) fl_2_21 (miE0 he) rfl (mgE5 he hG) (Nat.succ_ne_zero _) ?_
        refine rc_iload mq20 (mvDec_of cd20 rfl) rfl ?_
        obtain ⟨⟨hb0, hb1⟩, H⟩ := H
        refine rc_iald mq20 (mvDec_of cd20 rfl) (miE4 he) hb0 hb1 ?_
        refine rc_iconst mq20 (mvDec_of cd20 rfl) (by decide) ?_
        refine rc_icmp_ne (t := 55) mq20 (mvDec_of cd20 rfl) rfl (fun hc => ?_) (fun hc => ?_)
        · replace H := H.1 hc
          refine rc_iinc [some (mvR e), some (mvI l1), some (mvI l2), some (mvI (mw (l3 + 1))), some (mvI v1)] mq20 (mvDec_of cd20 rfl) rfl rfl ?_
          refine rc_goto (t := 2) mq20 (mvDec_of cd20 rfl) rfl ?_
          exact H
        · replace H := H.2 hc
          refine rc_iconst mq20 (mvDec_of cd20 rfl) (by decide) ?_
          exact rc_zret mq20 (mvDec_of cd20 rfl) (Or.inr rfl) ⟨_, _, rfl, rfl, H⟩
abbrev EV_countKind (g : Nat → Nat → Nat) (h : Nat → Int → Int) (e : Nat) (x1 : Int) (K : Int → (Nat → Int → Int) → Prop) : Prop := RI 21 0 [some (mvR e), some (mvI x1), none, none, none] [] g h K
abbrev EV_countKind_4 (g : Nat → Nat → Nat) (h : Nat → Int → Int) (e : Nat) (l1 : Int) (l2 : Int) (l3 : Int) (u4 : Option Int) (K : Int → (Nat → Int → Int) → Prop) : Prop := RI 21 4 [some (mvR e), some (mvI l1), some (mvI l2), some (mvI l3), u4.map mvI] [] g h K
abbrev EV_countKind_15 (g : Nat → Nat → Nat) (h : Nat → Int → Int) (e : Nat) (l1 : Int) (l2 : Int) (l3 : Int) (l4 : Int) (K : Int → (Nat → Int → Int) → Prop) : Prop := RI 21 15 [some (mvR e), some (mvI l1), some (mvI l2), some (mvI l3), some (mvI l4)] [] g h K
theorem EV_countKind_wp {sw : Bool} {g : Nat → Nat → Nat} {h : Nat → Int → Int} {e : Nat} {x1 : Int} {K : Int → (Nat → Int → Int) → Prop} (hG : Gok sw g) (he : EvId e) (H :
  EV_countKind_4 g h e x1 0 0 none K) : EV_countKind g h e x1 K := by
  refine rc_iconst mq21 (mvDec_of cd21 rfl) (by decide) ?_
  refine rc_istore_n [some (mvR e), some (mvI x1), some (mvI 0), none, none] mq21 (mvDec_of cd21 rfl) rfl ?_
  refine rc_iconst mq21 (mvDec_of cd21 rfl) (by decide) ?_
  refine rc_istore_n [some (mvR e), some (mvI x1), some (mvI 0), some (mvI 0), none] mq21 (mvDec_of cd21 rfl) rfl ?_
  exact H
theorem EV_countKind_4_wp {sw : Bool} {g : Nat → Nat → Nat} {h : Nat → Int → Int} {e : Nat} {l1 : Int} {l2 : Int} {l3 : Int} {u4 : Option Int} {K : Int → (Nat → Int → Int) → Prop} (hG : Gok sw g) (he : EvId e) (H :
  (((h e 0) ≤ l3 →
    K l2 h) ∧
  (l3 < (h e 0) →
    EV_countKind_15 g h e l1 l2 l3 0 K))) : EV_countKind_4 g h e l1 l2 l3 u4 K := by
  refine rc_iload_n mq21 (mvDec_of cd21 rfl) rfl ?_
  refine rc_aload_n mq21 (mvDec_of cd21 rfl) rfl ?_
  refine rc_getI 0 mq21 (mvDec_of cd21 rfl) fl_2_36 (miE0 he) rfl (by decide) (by decide) ?_
  refine rc_icmp_ge (t := 57) mq21 (mvDec_of cd21 rfl) rfl (fun hc => ?_) (fun hc => ?_)
  · replace H := H.1 hc
    refine rc_iload_n mq21 (mvDec_of cd21 rfl) rfl ?_
    exact rc_iret mq21 (mvDec_of cd21 rfl) ⟨_, _, rfl, rfl, H⟩
  · replace H := H.2 hc
    refine rc_iconst mq21 (mvDec_of cd21 rfl) (by decide) ?_
    refine rc_istore [some (mvR e), some (mvI l1), some (mvI l2), some (mvI l3), some (mvI 0)] mq21 (mvDec_of cd21 rfl) rfl ?_
    exact H
theorem EV_countKind_15_wp {sw : Bool} {g : Nat → Nat → Nat} {h : Nat → Int → Int} {e : Nat} {l1 : Int} {l2 : Int} {l3 : Int} {l4 : Int} {K : Int → (Nat → Int → Int) → Prop} (hG : Gok sw g) (he : EvId e) (H :
  (0 ≤ l3 ∧ l3 < 4) ∧
  (((h (e + 1) l3) ≤ l4 →
    EV_countKind_4 g h e l1 l2 (mw (l3 + 1)) (some l4) K) ∧
  (l4 < (h (e + 1) l3) →
    (0 ≤ (mw ((mw (l3 * 9)) + l4)) ∧ (mw ((mw (l3 * 9)) + l4)) < 36) ∧
    ((¬ (h (e + 2) (mw ((mw (l3 * 9)) + l4))) = l1 →
      EV_countKind_15 g h e l1 l2 l3 (mw (l4 + 1)) K) ∧
    ((h (e + 2) (mw ((mw (l3 * 9)) + l4))) = l1 →
      EV_countKind_15 g h e l1 (mw (l2 + 1)) l3 (mw (l4 + 1)) K))))) : EV_countKind_15 g h e l1 l2 l3 l4 K := by
  refine rc_iload mq21 (mvDec_of cd21 rfl) rfl ?_
  refine rc_aload_n mq21 (mvDec_of cd21 rfl) rfl ?_
  refine rc_getR (e + 1) mq21 (mvDec_of cd21 rfl) fl_2_9 (miE0 he) rfl (mgE2 he hG) (Nat.succ_ne_zero _) ?_
  refine rc_iload_n mq21 (mvDec_of cd21 rfl) rfl ?_
  obtain ⟨⟨hb0, hb1⟩, H⟩ := H
  refine rc_iald mq21 (mvDec_of cd21 rfl) (miE1 he) hb0 hb1 ?_
  refine rc_icmp_ge (t := 51) mq21 (mvDec_of cd21 rfl) rfl (fun hc => ?_) (fun hc => ?_)
  · replace H := H.1 hc
    refine rc_iinc [some (mvR e), some (mvI l1), some (mvI l2), some (mvI (mw (l3 + 1))), some (mvI l4)] mq21 (mvDec_of cd21 rfl) rfl rfl ?_
    refine rc_goto (t := 4) mq21 (mvDec_of cd21 rfl) rfl ?_
    exact H
  · replace H := H.2 hc
    refine rc_aload_n mq21 (mvDec_of cd21 rfl) rfl ?_
    refine rc_getR (e + 2) mq21 (mvDec_of cd21 rfl) fl_2_15 (miE0 he) rfl (mgE3 he hG) (Nat.succ_ne_zero _) ?_
    refine rc_iload_n mq21 (mvDec_of cd21 rfl) rfl ?_
    refine rc_bipush mq21 (mvDec_of cd21 rfl) (by decide) ?_
    refine rc_imul mq21 (mvDec_of cd21 rfl) ?_
    refine rc_iload mq21 (mvDec_of cd21 rfl) rfl ?_
    refine rc_iadd mq21 (mvDec_of cd21 rfl) ?_
    obtain ⟨⟨hb0, hb1⟩, H⟩ := H
    refine rc_iald mq21 (mvDec_of cd21 rfl) (miE2 he) hb0 hb1 ?_
    refine rc_iload_n mq21 (mvDec_of cd21 rfl) rfl ?_
    refine rc_icmp_ne (t := 45) mq21 (mvDec_of cd21 rfl) rfl (fun hc => ?_) (fun hc => ?_)
    · replace H := H.1 hc
      refine rc_iinc [some (mvR e), some (mvI l1), some (mvI l2), some (mvI l3), some (mvI (mw (l4 + 1)))] mq21 (mvDec_of cd21 rfl) rfl rfl ?_
      refine rc_goto (t := 15) mq21 (mvDec_of cd21 rfl) rfl ?_
      exact H
    · replace H := H.2 hc
      refine rc_iinc [some (mvR e), some (mvI l1), some (mvI (mw (l2 + 1))), some (mvI l3), some (mvI l4)] mq21 (mvDec_of cd21 rfl) rfl rfl ?_
      refine rc_iinc [some (mvR e), some (mvI l1), some (mvI (mw (l2 + 1))), some (mvI l3), some (mvI (mw (l4 + 1)))] mq21 (mvDec_of cd21 rfl) rfl rfl ?_
      refine rc_goto (t := 15) mq21 (mvDec_of cd21 rfl) rfl ?_
      exact H
abbrev EV_isCut (g : Nat → Nat → Nat) (h : Nat → Int → Int) (e : Nat) (x1 : Int) (K : Int → (Nat → Int → Int) → Prop) : Prop := RI 22 0 [some (mvR e), some (mvI x1), none, none] [] g h K
abbrev EV_isCut_15 (g : Nat → Nat → Nat) (h : Nat → Int → Int) (e : Nat) (u1 : Option Int) (l2 : Int) (l3 : Int) (K : Int → (Nat → Int → Int) → Prop) : Prop := RI 22 15 [some (mvR e), u1.map mvI, some (mvI l2), some (mvI l3)] [] g h K
theorem EV_isCut_wp {sw : Bool} {g : Nat → Nat → Nat} {h : Nat → Int → Int} {e : Nat} {x1 : Int} {K : Int → (Nat → Int → Int) → Prop} (hG : Gok sw g) (he : EvId e) (H :
  ((0 ≤ x1 →
    (∀ v1, v1 = (mw ((h e 0) - 1)) →
    EV_isCut_15 g h e (some x1) x1 v1 K)) ∧
  (x1 < 0 →
    K 0 h))) : EV_isCut g h e x1 K := by
  refine rc_iload_n mq22 (mvDec_of cd22 rfl) rfl ?_
  refine rc_if_ge (t := 6) mq22 (mvDec_of cd22 rfl) rfl (fun hc => ?_) (fun hc => ?_)
  · replace H := H.1 hc
    refine rc_iload_n mq22 (mvDec_of cd22 rfl) rfl ?_
    refine rc_istore_n [some (mvR e), some (mvI x1), some (mvI x1), none] mq22 (mvDec_of cd22 rfl) rfl ?_
    refine rc_aload_n mq22 (mvDec_of cd22 rfl) rfl ?_
    refine rc_getI 0 mq22 (mvDec_of cd22 rfl) fl_2_36 (miE0 he) rfl (by decide) (by decide) ?_
    refine rc_iconst mq22 (mvDec_of cd22 rfl) (by decide) ?_
    refine rc_isub mq22 (mvDec_of cd22 rfl) ?_
    refine rc_top (fun v1 hv => ?_)
    replace H := H v1 hv
    refine rc_istore_n [some (mvR e), some (mvI x1), some (mvI x1), some (mvI v1)] mq22 (mvDec_of cd22 rfl) rfl ?_
    exact H
  · replace H := H.2 hc
    refine rc_iconst mq22 (mvDec_of cd22 rfl) (by decide) ?_
    exact rc_zret mq22 (mvDec_of cd22 rfl) (Or.inl rfl) ⟨_, _, rfl, rfl, H⟩
theorem EV_isCut_15_wp {sw : Bool} {g : Nat → Nat → Nat} {h : Nat → Int → Int} {e : Nat} {u1 : Option Int} {l2 : Int} {l3 : Int} {K : Int → (Nat → Int → Int) → Prop} (hG : Gok sw g) (he : EvId e) (H :
  ((l3 < 0 →
    ((¬ l2 = 0 →
      K 0 h) ∧
    (l2 = 0 →
      K 1 h))) ∧
  (0 ≤ l3 →
    (0 ≤ l3 ∧ l3 < 4) ∧
    (((l2.tmod 10) ≤ (h (e + 1) l3) →
      (∀ v1, v1 = (mw (l2.tdiv 10)) →
      EV_isCut_15 g h e u1 v1 (mw (l3 + (-1))) K)) ∧
    ((h (e + 1) l3) < (l2.tmod 10) →
      K 0 h))))) : EV_isCut_15 g h e u1 l2 l3 K := by
  refine rc_iload_n mq22 (mvDec_of cd22 rfl) rfl ?_
  refine rc_if_lt (t := 45) mq22 (mvDec_of cd22 rfl) rfl (fun hc => ?_) (fun hc => ?_)
  · replace H := H.1 hc
    refine rc_iload_n mq22 (mvDec_of cd22 rfl) rfl ?_
    refine rc_if_ne (t := 53) mq22 (mvDec_of cd22 rfl) rfl (fun hc => ?_) (fun hc => ?_)
    · replace H := H.1 hc
      refine rc_iconst mq22 (mvDec_of cd22 rfl) (by decide) ?_
      exact rc_zret mq22 (mvDec_of cd22 rfl) (Or.inl rfl) ⟨_, _, rfl, rfl, H⟩
    · replace H := H.2 hc
      refine rc_iconst mq22 (mvDec_of cd22 rfl) (by decide) ?_
      refine rc_goto (t := 54) mq22 (mvDec_of cd22 rfl) rfl ?_
      exact rc_zret mq22 (mvDec_of cd22 rfl) (Or.inr rfl) ⟨_, _, rfl, rfl, H⟩
  · replace H := H.2 hc
    refine rc_iload_n mq22 (mvDec_of cd22 rfl) rfl ?_
    refine rc_bipush mq22 (mvDec_of cd22 rfl) (by decide) ?_
    refine rc_irem mq22 (mvDec_of cd22 rfl) (by decide) ?_
    refine rc_aload_n mq22 (mvDec_of cd22 rfl) rfl ?_
    refine rc_getR (e + 1) mq22 (mvDec_of cd22 rfl) fl_2_9 (miE0 he) rfl (mgE2 he hG) (Nat.succ_ne_zero _) ?_
    refine rc_iload_n mq22 (mvDec_of cd22 rfl) rfl ?_
    obtain ⟨⟨hb0, hb1⟩, H⟩ := H
    refine rc_iald mq22 (mvDec_of cd22 rfl) (miE1 he) hb0 hb1 ?_
    refine rc_icmp_le (t := 34) mq22 (mvDec_of cd22 rfl) rfl (fun hc => ?_) (fun hc => ?_)
    · replace H := H.1 hc
      refine rc_iload_n mq22 (mvDec_of cd22 rfl) rfl ?_
      refine rc_bipush mq22 (mvDec_of cd22 rfl) (by decide) ?_
      refine rc_idiv mq22 (mvDec_of cd22 rfl) (by decide) ?_
      refine rc_top (fun v1 hv => ?_)
      replace H := H v1 hv
      refine rc_istore_n [some (mvR e), u1.map mvI, some (mvI v1), some (mvI l3)] mq22 (mvDec_of cd22 rfl) (by cases u1 <;> rfl) ?_
      refine rc_iinc [some (mvR e), u1.map mvI, some (mvI v1), some (mvI (mw (l3 + (-1))))] mq22 (mvDec_of cd22 rfl) rfl rfl ?_
      refine rc_goto (t := 15) mq22 (mvDec_of cd22 rfl) rfl ?_
      exact H
    · replace H := H.2 hc
      refine rc_iconst mq22 (mvDec_of cd22 rfl) (by decide) ?_
      exact rc_zret mq22 (mvDec_of cd22 rfl) (Or.inl rfl) ⟨_, _, rfl, rfl, H⟩
abbrev EV_countIn (g : Nat → Nat → Nat) (h : Nat → Int → Int) (e : Nat) (x1 : Int) (x2 : Int) (K : Int → (Nat → Int → Int) → Prop) : Prop := RI 23 0 [some (mvR e), some (mvI x1), some (mvI x2)] [] g h K
theorem EV_countIn_wp {sw : Bool} {g : Nat → Nat → Nat} {h : Nat → Int → Int} {e : Nat} {x1 : Int} {x2 : Int} {K : Int → (Nat → Int → Int) → Prop} (hG : Gok sw g) (he : EvId e) (H :
  (0 ≤ (mw ((mw ((h e 0) - 1)) - x2)) ∧ (mw ((mw ((h e 0) - 1)) - x2)) < 4) ∧
  (¬ (h 1 (mw ((mw ((h e 0) - 1)) - x2))) = 0) ∧
  K ((mw (x1.tdiv (h 1 (mw ((mw ((h e 0) - 1)) - x2))))).tmod 10) h) : EV_countIn g h e x1 x2 K := by
  refine rc_iload_n mq23 (mvDec_of cd23 rfl) rfl ?_
  refine rc_gstat mq23 (mvDec_of cd23 rfl) ⟨rfl, rfl⟩ ?_
  refine rc_aload_n mq23 (mvDec_of cd23 rfl) rfl ?_
  refine rc_getI 0 mq23 (mvDec_of cd23 rfl) fl_2_36 (miE0 he) rfl (by decide) (by decide) ?_
  refine rc_iconst mq23 (mvDec_of cd23 rfl) (by decide) ?_
  refine rc_isub mq23 (mvDec_of cd23 rfl) ?_
  refine rc_iload_n mq23 (mvDec_of cd23 rfl) rfl ?_
  refine rc_isub mq23 (mvDec_of cd23 rfl) ?_
  obtain ⟨⟨hb0, hb1⟩, H⟩ := H
  refine rc_ialdT mq23 (mvDec_of cd23 rfl) hb0 hb1 ?_
  obtain ⟨hb, H⟩ := H
  refine rc_idiv mq23 (mvDec_of cd23 rfl) hb ?_
  refine rc_bipush mq23 (mvDec_of cd23 rfl) (by decide) ?_
  refine rc_irem mq23 (mvDec_of cd23 rfl) (by decide) ?_
  exact rc_iret mq23 (mvDec_of cd23 rfl) ⟨_, _, rfl, rfl, H⟩
abbrev EV_with (g : Nat → Nat → Nat) (h : Nat → Int → Int) (e : Nat) (x1 : Int) (x2 : Int) (K : Int → (Nat → Int → Int) → Prop) : Prop := RI 24 0 [some (mvR e), some (mvI x1), some (mvI x2)] [] g h K
theorem EV_with_wp {sw : Bool} {g : Nat → Nat → Nat} {h : Nat → Int → Int} {e : Nat} {x1 : Int} {x2 : Int} {K : Int → (Nat → Int → Int) → Prop} (hG : Gok sw g) (he : EvId e) (H :
  (0 ≤ (mw ((mw ((h e 0) - 1)) - x2)) ∧ (mw ((mw ((h e 0) - 1)) - x2)) < 4) ∧
  K (mw (x1 + (h 1 (mw ((mw ((h e 0) - 1)) - x2))))) h) : EV_with g h e x1 x2 K := by
  refine rc_iload_n mq24 (mvDec_of cd24 rfl) rfl ?_
  refine rc_gstat mq24 (mvDec_of cd24 rfl) ⟨rfl, rfl⟩ ?_
  refine rc_aload_n mq24 (mvDec_of cd24 rfl) rfl ?_
  refine rc_getI 0 mq24 (mvDec_of cd24 rfl) fl_2_36 (miE0 he) rfl (by decide) (by decide) ?_
  refine rc_iconst mq24 (mvDec_of cd24 rfl) (by decide) ?_
  refine rc_isub mq24 (mvDec_of cd24 rfl) ?_
  refine rc_iload_n mq24 (mvDec_of cd24 rfl) rfl ?_
  refine rc_isub mq24 (mvDec_of cd24 rfl) ?_
  obtain ⟨⟨hb0, hb1⟩, H⟩ := H
  refine rc_ialdT mq24 (mvDec_of cd24 rfl) hb0 hb1 ?_
  refine rc_iadd mq24 (mvDec_of cd24 rfl) ?_
  exact rc_iret mq24 (mvDec_of cd24 rfl) ⟨_, _, rfl, rfl, H⟩
abbrev EV_valueIn (g : Nat → Nat → Nat) (h : Nat → Int → Int) (e : Nat) (x1 : Int) (x2 : Int) (K : Int → (Nat → Int → Int) → Prop) : Prop := RI 25 0 [some (mvR e), some (mvI x1), some (mvI x2)] [] g h K
theorem EV_valueIn_wp {sw : Bool} {g : Nat → Nat → Nat} {h : Nat → Int → Int} {e : Nat} {x1 : Int} {x2 : Int} {K : Int → (Nat → Int → Int) → Prop} (hG : Gok sw g) (he : EvId e) (H :
  (0 ≤ (mw ((mw ((h e 0) - 1)) - x2)) ∧ (mw ((mw ((h e 0) - 1)) - x2)) < 4) ∧
  (¬ (h 1 (mw ((mw ((h e 0) - 1)) - x2))) = 0) ∧
  (0 ≤ (mw ((mw (x2 * 10)) + ((mw (x1.tdiv (h 1 (mw ((mw ((h e 0) - 1)) - x2))))).tmod 10))) ∧ (mw ((mw (x2 * 10)) + ((mw (x1.tdiv (h 1 (mw ((mw ((h e 0) - 1)) - x2))))).tmod 10))) < 40) ∧
  K (h (e + 6) (mw ((mw (x2 * 10)) + ((mw (x1.tdiv (h 1 (mw ((mw ((h e 0) - 1)) - x2))))).tmod 10)))) h) : EV_valueIn g h e x1 x2 K := by
  refine rc_aload_n mq25 (mvDec_of cd25 rfl) rfl ?_
  refine rc_getR (e + 6) mq25 (mvDec_of cd25 rfl) fl_2_27 (miE0 he) rfl (mgE7 he hG) (Nat.succ_ne_zero _) ?_
  refine rc_iload_n mq25 (mvDec_of cd25 rfl) rfl ?_
  refine rc_bipush mq25 (mvDec_of cd25 rfl) (by decide) ?_
  refine rc_imul mq25 (mvDec_of cd25 rfl) ?_
  refine rc_iload_n mq25 (mvDec_of cd25 rfl) rfl ?_
  refine rc_gstat mq25 (mvDec_of cd25 rfl) ⟨rfl, rfl⟩ ?_
  refine rc_aload_n mq25 (mvDec_of cd25 rfl) rfl ?_
  refine rc_getI 0 mq25 (mvDec_of cd25 rfl) fl_2_36 (miE0 he) rfl (by decide) (by decide) ?_
  refine rc_iconst mq25 (mvDec_of cd25 rfl) (by decide) ?_
  refine rc_isub mq25 (mvDec_of cd25 rfl) ?_
  refine rc_iload_n mq25 (mvDec_of cd25 rfl) rfl ?_
  refine rc_isub mq25 (mvDec_of cd25 rfl) ?_
  obtain ⟨⟨hb0, hb1⟩, H⟩ := H
  refine rc_ialdT mq25 (mvDec_of cd25 rfl) hb0 hb1 ?_
  obtain ⟨hb, H⟩ := H
  refine rc_idiv mq25 (mvDec_of cd25 rfl) hb ?_
  refine rc_bipush mq25 (mvDec_of cd25 rfl) (by decide) ?_
  refine rc_irem mq25 (mvDec_of cd25 rfl) (by decide) ?_
  refine rc_iadd mq25 (mvDec_of cd25 rfl) ?_
  obtain ⟨⟨hb0, hb1⟩, H⟩ := H
  refine rc_iald mq25 (mvDec_of cd25 rfl) (miE6 he) hb0 hb1 ?_
  exact rc_iret mq25 (mvDec_of cd25 rfl) ⟨_, _, rfl, rfl, H⟩
abbrev EV_begin (g : Nat → Nat → Nat) (h : Nat → Int → Int) (e : Nat) (x1 : Int) (K : (Nat → Int → Int) → Prop) : Prop := RV 77 0 [some (mvR e), some (mvI x1)] [] g h K
theorem EV_begin_wp {sw : Bool} {g : Nat → Nat → Nat} {h : Nat → Int → Int} {e : Nat} {x1 : Int} {K : (Nat → Int → Int) → Prop} (hG : Gok sw g) (he : EvId e) (H :
  (∀ h1, h1 = mvUpd h e 0 x1 →
  (∀ h2, h2 = mvUpd h1 e 1 0 →
  AR_fill g h2 (e + 1) 0 (fun h3 =>
    K h3)))) : EV_begin g h e x1 K := by
  refine rc_aload_n mq77 (mvDec_of cd77 rfl) rfl ?_
  refine rc_iload_n mq77 (mvDec_of cd77 rfl) rfl ?_
  refine rc_putI 0 mq77 (mvDec_of cd77 rfl) fl_2_36 (miE0 he) rfl (fun z => absurd z (by decide)) (Or.inl rfl) ?_
  refine rc_heap (fun h1 hh => ?_)
  replace H := H h1 hh
  refine rc_aload_n mq77 (mvDec_of cd77 rfl) rfl ?_
  refine rc_iconst mq77 (mvDec_of cd77 rfl) (by decide) ?_
  refine rc_putI 1 mq77 (mvDec_of cd77 rfl) fl_2_40 (miE0 he) rfl (fun z => absurd z (by decide)) (Or.inl rfl) ?_
  refine rc_heap (fun h2 hh => ?_)
  replace H := H h2 hh
  refine rc_aload_n mq77 (mvDec_of cd77 rfl) rfl ?_
  refine rc_getR (e + 1) mq77 (mvDec_of cd77 rfl) fl_2_9 (miE0 he) rfl (mgE2 he hG) (Nat.succ_ne_zero _) ?_
  refine rc_iconst mq77 (mvDec_of cd77 rfl) (by decide) ?_
  refine rc_callS [mvR (e + 1), mvI 0] [] [some (mvR (e + 1)), some (mvI 0), none, none] mq77 (mvDec_of cd77 rfl) lk_2_43 mq65 (by decide) rfl rfl (Nat.le_of_ble_eq_true rfl) (Nat.le_of_ble_eq_true rfl) (by decide) rfl (rv_bind H (fun h3 H => ?_))
  exact rc_vret mq77 (mvDec_of cd77 rfl) ⟨_, rfl, rfl, H⟩
abbrev EV_pairMessages (g : Nat → Nat → Nat) (h : Nat → Int → Int) (e : Nat) (K : Int → (Nat → Int → Int) → Prop) : Prop := RI 80 0 [some (mvR e), none, none] [] g h K
abbrev EV_pairMessages_10 (g : Nat → Nat → Nat) (h : Nat → Int → Int) (e : Nat) (l1 : Int) (u2 : Option Int) (K : Int → (Nat → Int → Int) → Prop) : Prop := RI 80 10 [some (mvR e), some (mvI l1), u2.map mvI] [] g h K
abbrev EV_pairMessages_28 (g : Nat → Nat → Nat) (h : Nat → Int → Int) (e : Nat) (l1 : Int) (l2 : Int) (K : Int → (Nat → Int → Int) → Prop) : Prop := RI 80 28 [some (mvR e), some (mvI l1), some (mvI l2)] [] g h K
theorem EV_pairMessages_wp {sw : Bool} {g : Nat → Nat → Nat} {h : Nat → Int → Int} {e : Nat} {K : Int → (Nat → Int → Int) → Prop} (hG : Gok sw g) (he : EvId e) (H :
  AR_fill g h (e + 4) (-1) (fun h1 =>
    EV_pairMessages_10 g h1 e 0 none K)) : EV_pairMessages g h e K := by
  refine rc_aload_n mq80 (mvDec_of cd80 rfl) rfl ?_
  refine rc_getR (e + 4) mq80 (mvDec_of cd80 rfl) fl_2_21 (miE0 he) rfl (mgE5 he hG) (Nat.succ_ne_zero _) ?_
  refine rc_iconst mq80 (mvDec_of cd80 rfl) (by decide) ?_
  refine rc_callS [mvR (e + 4), mvI (-1)] [] [some (mvR (e + 4)), some (mvI (-1)), none, none] mq80 (mvDec_of cd80 rfl) lk_2_43 mq65 (by decide) rfl rfl (Nat.le_of_ble_eq_true rfl) (Nat.le_of_ble_eq_true rfl) (by decide) rfl (rv_bind H (fun h1 H => ?_))
  refine rc_iconst mq80 (mvDec_of cd80 rfl) (by decide) ?_
  refine rc_istore_n [some (mvR e), some (mvI 0), none] mq80 (mvDec_of cd80 rfl) rfl ?_
  exact H
theorem EV_pairMessages_10_wp {sw : Bool} {g : Nat → Nat → Nat} {h : Nat → Int → Int} {e : Nat} {l1 : Int} {u2 : Option Int} {K : Int → (Nat → Int → Int) → Prop} (hG : Gok sw g) (he : EvId e) (H :
  (((h e 0) ≤ l1 →
    K 1 h) ∧
  (l1 < (h e 0) →
    AR_fill g h (e + 8) 0 (fun h1 =>
      EV_pairMessages_28 g h1 e l1 0 K)))) : EV_pairMessages_10 g h e l1 u2 K := by
  refine rc_iload_n mq80 (mvDec_of cd80 rfl) rfl ?_
  refine rc_aload_n mq80 (mvDec_of cd80 rfl) rfl ?_
  refine rc_getI 0 mq80 (mvDec_of cd80 rfl) fl_2_36 (miE0 he) rfl (by decide) (by decide) ?_
  refine rc_icmp_ge (t := 76) mq80 (mvDec_of cd80 rfl) rfl (fun hc => ?_) (fun hc => ?_)
  · replace H := H.1 hc
    refine rc_iconst mq80 (mvDec_of cd80 rfl) (by decide) ?_
    exact rc_zret mq80 (mvDec_of cd80 rfl) (Or.inr rfl) ⟨_, _, rfl, rfl, H⟩
  · replace H := H.2 hc
    refine rc_aload_n mq80 (mvDec_of cd80 rfl) rfl ?_
    refine rc_getR (e + 8) mq80 (mvDec_of cd80 rfl) fl_2_33 (miE0 he) rfl (mgE9 he hG) (Nat.succ_ne_zero _) ?_
    refine rc_iconst mq80 (mvDec_of cd80 rfl) (by decide) ?_
    refine rc_callS [mvR (e + 8), mvI 0] [] [some (mvR (e + 8)), some (mvI 0), none, none] mq80 (mvDec_of cd80 rfl) lk_2_43 mq65 (by decide) rfl rfl (Nat.le_of_ble_eq_true rfl) (Nat.le_of_ble_eq_true rfl) (by decide) rfl (rv_bind H (fun h1 H => ?_))
    refine rc_iconst mq80 (mvDec_of cd80 rfl) (by decide) ?_
    refine rc_istore_n [some (mvR e), some (mvI l1), some (mvI 0)] mq80 (mvDec_of cd80 rfl) rfl ?_
    exact H
theorem EV_pairMessages_28_wp {sw : Bool} {g : Nat → Nat → Nat} {h : Nat → Int → Int} {e : Nat} {l1 : Int} {l2 : Int} {K : Int → (Nat → Int → Int) → Prop} (hG : Gok sw g) (he : EvId e) (H :
  (0 ≤ l1 ∧ l1 < 4) ∧
  (((h (e + 1) l1) ≤ l2 →
    EV_pairMessages_10 g h e (mw (l1 + 1)) (some l2) K) ∧
  (l2 < (h (e + 1) l1) →
    (0 ≤ (mw ((mw (l1 * 9)) + l2)) ∧ (mw ((mw (l1 * 9)) + l2)) < 36) ∧
    ((¬ (h (e + 2) (mw ((mw (l1 * 9)) + l2))) = 2 →
      EV_pairMessages_28 g h e l1 (mw (l2 + 1)) K) ∧
    ((h (e + 2) (mw ((mw (l1 * 9)) + l2))) = 2 →
      EV_pairReceive g h e l1 l2 (fun r2 h1 =>
        ((¬ r2 = 0 →
          EV_pairMessages_28 g h1 e l1 (mw (l2 + 1)) K) ∧
        (r2 = 0 →
          K 0 h1)))))))) : EV_pairMessages_28 g h e l1 l2 K := by
  refine rc_iload_n mq80 (mvDec_of cd80 rfl) rfl ?_
  refine rc_aload_n mq80 (mvDec_of cd80 rfl) rfl ?_
  refine rc_getR (e + 1) mq80 (mvDec_of cd80 rfl) fl_2_9 (miE0 he) rfl (mgE2 he hG) (Nat.succ_ne_zero _) ?_
  refine rc_iload_n mq80 (mvDec_of cd80 rfl) rfl ?_
  obtain ⟨⟨hb0, hb1⟩, H⟩ := H
  refine rc_iald mq80 (mvDec_of cd80 rfl) (miE1 he) hb0 hb1 ?_
  refine rc_icmp_ge (t := 70) mq80 (mvDec_of cd80 rfl) rfl (fun hc => ?_) (fun hc => ?_)
  · replace H := H.1 hc
    refine rc_iinc [some (mvR e), some (mvI (mw (l1 + 1))), some (mvI l2)] mq80 (mvDec_of cd80 rfl) rfl rfl ?_
    refine rc_goto (t := 10) mq80 (mvDec_of cd80 rfl) rfl ?_
    exact H
  · replace H := H.2 hc
    refine rc_aload_n mq80 (mvDec_of cd80 rfl) rfl ?_
    refine rc_getR (e + 2) mq80 (mvDec_of cd80 rfl) fl_2_15 (miE0 he) rfl (mgE3 he hG) (Nat.succ_ne_zero _) ?_
    refine rc_iload_n mq80 (mvDec_of cd80 rfl) rfl ?_
    refine rc_bipush mq80 (mvDec_of cd80 rfl) (by decide) ?_
    refine rc_imul mq80 (mvDec_of cd80 rfl) ?_
    refine rc_iload_n mq80 (mvDec_of cd80 rfl) rfl ?_
    refine rc_iadd mq80 (mvDec_of cd80 rfl) ?_
    obtain ⟨⟨hb0, hb1⟩, H⟩ := H
    refine rc_iald mq80 (mvDec_of cd80 rfl) (miE2 he) hb0 hb1 ?_
    refine rc_iconst mq80 (mvDec_of cd80 rfl) (by decide) ?_
    refine rc_icmp_ne (t := 64) mq80 (mvDec_of cd80 rfl) rfl (fun hc => ?_) (fun hc => ?_)
    · replace H := H.1 hc
      refine rc_iinc [some (mvR e), some (mvI l1), some (mvI (mw (l2 + 1)))] mq80 (mvDec_of cd80 rfl) rfl rfl ?_
      refine rc_goto (t := 28) mq80 (mvDec_of cd80 rfl) rfl ?_
      exact H
    · replace H := H.2 hc
      refine rc_aload_n mq80 (mvDec_of cd80 rfl) rfl ?_
      refine rc_iload_n mq80 (mvDec_of cd80 rfl) rfl ?_
      refine rc_iload_n mq80 (mvDec_of cd80 rfl) rfl ?_
      refine rc_callV [mvR e, mvI l1, mvI l2] [] [some (mvR e), some (mvI l1), some (mvI l2), none, none, none] mq80 (mvDec_of cd80 rfl) lk_2_64 mq13 (by decide) rfl rfl (Nat.le_of_ble_eq_true rfl) (Nat.le_of_ble_eq_true rfl) (by decide) rfl (miE0 he) rfl (ri_bind H (fun r2 h1 H => ?_))
      refine rc_if_ne (t := 64) mq80 (mvDec_of cd80 rfl) rfl (fun hc => ?_) (fun hc => ?_)
      · replace H := H.1 hc
        refine rc_iinc [some (mvR e), some (mvI l1), some (mvI (mw (l2 + 1)))] mq80 (mvDec_of cd80 rfl) rfl rfl ?_
        refine rc_goto (t := 28) mq80 (mvDec_of cd80 rfl) rfl ?_
        exact H
      · replace H := H.2 hc
        refine rc_iconst mq80 (mvDec_of cd80 rfl) (by decide) ?_
        exact rc_zret mq80 (mvDec_of cd80 rfl) (Or.inl rfl) ⟨_, _, rfl, rfl, H⟩
abbrev EV_findVector (g : Nat → Nat → Nat) (h : Nat → Int → Int) (e : Nat) (x1 : Int) (x2 : Int) (K : (Nat → Int → Int) → Prop) : Prop := RV 81 0 [some (mvR e), some (mvI x1), some (mvI x2), none, none, none, none] [] g h K
abbrev EV_findVector_10 (g : Nat → Nat → Nat) (h : Nat → Int → Int) (e : Nat) (l1 : Int) (l2 : Int) (l3 : Int) (l4 : Int) (u5 : Option Int) (u6 : Option Int) (K : (Nat → Int → Int) → Prop) : Prop := RV 81 10 [some (mvR e), some (mvI l1), some (mvI l2), some (mvI l3), some (mvI l4), u5.map mvI, u6.map mvI] [] g h K
theorem EV_findVector_wp {sw : Bool} {g : Nat → Nat → Nat} {h : Nat → Int → Int} {e : Nat} {x1 : Int} {x2 : Int} {K : (Nat → Int → Int) → Prop} (hG : Gok sw g) (he : EvId e) (H :
  (∀ v1, v1 = (mw ((mw (x1 * 9)) + x2)) →
  EV_findVector_10 g h e x1 x2 v1 0 none none K)) : EV_findVector g h e x1 x2 K := by
  refine rc_iload_n mq81 (mvDec_of cd81 rfl) rfl ?_
  refine rc_bipush mq81 (mvDec_of cd81 rfl) (by decide) ?_
  refine rc_imul mq81 (mvDec_of cd81 rfl) ?_
  refine rc_iload_n mq81 (mvDec_of cd81 rfl) rfl ?_
  refine rc_iadd mq81 (mvDec_of cd81 rfl) ?_
  refine rc_top (fun v1 hv => ?_)
  replace H := H v1 hv
  refine rc_istore_n [some (mvR e), some (mvI x1), some (mvI x2), some (mvI v1), none, none, none] mq81 (mvDec_of cd81 rfl) rfl ?_
  refine rc_iconst mq81 (mvDec_of cd81 rfl) (by decide) ?_
  refine rc_istore [some (mvR e), some (mvI x1), some (mvI x2), some (mvI v1), some (mvI 0), none, none] mq81 (mvDec_of cd81 rfl) rfl ?_
  exact H
theorem EV_findVector_10_wp {sw : Bool} {g : Nat → Nat → Nat} {h : Nat → Int → Int} {e : Nat} {l1 : Int} {l2 : Int} {l3 : Int} {l4 : Int} {u5 : Option Int} {u6 : Option Int} {K : (Nat → Int → Int) → Prop} (hG : Gok sw g) (he : EvId e) (H :
  ((4 ≤ l4 →
    K h) ∧
  (l4 < 4 →
    ((l2 ≤ 0 →
      (0 ≤ l3 ∧ l3 < 36) ∧
      ((¬ (h (e + 2) l3) = 2 →
        ((¬ l4 = l1 →
          (0 ≤ (mw ((mw (l3 * 4)) + l4)) ∧ (mw ((mw (l3 * 4)) + l4)) < 144) ∧
          (∀ h1, h1 = mvUpd h (e + 5) (mw ((mw (l3 * 4)) + l4)) 0 →
          EV_findVector_10 g h1 e l1 l2 l3 (mw (l4 + 1)) (some 0) u6 K)) ∧
        (l4 = l1 →
          (0 ≤ (mw ((mw (l3 * 4)) + l4)) ∧ (mw ((mw (l3 * 4)) + l4)) < 144) ∧
          (∀ h2, h2 = mvUpd h (e + 5) (mw ((mw (l3 * 4)) + l4)) (mw (l2 + 1)) →
          EV_findVector_10 g h2 e l1 l2 l3 (mw (l4 + 1)) (some 0) u6 K)))) ∧
      ((h (e + 2) l3) = 2 →
        (0 ≤ l3 ∧ l3 < 36) ∧
        (0 ≤ l3 ∧ l3 < 36) ∧
        (∀ v3, v3 = (mw ((mw ((h (e + 3) l3) * 9)) + (h (e + 4) l3))) →
        (0 ≤ (mw ((mw (v3 * 4)) + l4)) ∧ (mw ((mw (v3 * 4)) + l4)) < 144) ∧
        (∀ v4, v4 = (if 0 < (h (e + 5) (mw ((mw (v3 * 4)) + l4))) then (h (e + 5) (mw ((mw (v3 * 4)) + l4))) else 0) →
        ((¬ l4 = l1 →
          (0 ≤ (mw ((mw (l3 * 4)) + l4)) ∧ (mw ((mw (l3 * 4)) + l4)) < 144) ∧
          (∀ h5, h5 = mvUpd h (e + 5) (mw ((mw (l3 * 4)) + l4)) v4 →
          EV_findVector_10 g h5 e l1 l2 l3 (mw (l4 + 1)) (some v4) (some v3) K)) ∧
        (l4 = l1 →
          (0 ≤ (mw ((mw (l3 * 4)) + l4)) ∧ (mw ((mw (l3 * 4)) + l4)) < 144) ∧
          (∀ h6, h6 = mvUpd h (e + 5) (mw ((mw (l3 * 4)) + l4)) (mw (l2 + 1)) →
          EV_findVector_10 g h6 e l1 l2 l3 (mw (l4 + 1)) (some v4) (some v3) K)))))))) ∧
    (0 < l2 →
      (0 ≤ (mw ((mw ((mw (l3 - 1)) * 4)) + l4)) ∧ (mw ((mw ((mw (l3 - 1)) * 4)) + l4)) < 144) ∧
      (∀ v7, v7 = (h (e + 5) (mw ((mw ((mw (l3 - 1)) * 4)) + l4))) →
      (0 ≤ l3 ∧ l3 < 36) ∧
      ((¬ (h (e + 2) l3) = 2 →
        ((¬ l4 = l1 →
          (0 ≤ (mw ((mw (l3 * 4)) + l4)) ∧ (mw ((mw (l3 * 4)) + l4)) < 144) ∧
          (∀ h8, h8 = mvUpd h (e + 5) (mw ((mw (l3 * 4)) + l4)) v7 →
          EV_findVector_10 g h8 e l1 l2 l3 (mw (l4 + 1)) (some v7) u6 K)) ∧
        (l4 = l1 →
          (0 ≤ (mw ((mw (l3 * 4)) + l4)) ∧ (mw ((mw (l3 * 4)) + l4)) < 144) ∧
          (∀ h9, h9 = mvUpd h (e + 5) (mw ((mw (l3 * 4)) + l4)) (mw (l2 + 1)) →
          EV_findVector_10 g h9 e l1 l2 l3 (mw (l4 + 1)) (some v7) u6 K)))) ∧
      ((h (e + 2) l3) = 2 →
        (0 ≤ l3 ∧ l3 < 36) ∧
        (0 ≤ l3 ∧ l3 < 36) ∧
        (∀ v10, v10 = (mw ((mw ((h (e + 3) l3) * 9)) + (h (e + 4) l3))) →
        (0 ≤ (mw ((mw (v10 * 4)) + l4)) ∧ (mw ((mw (v10 * 4)) + l4)) < 144) ∧
        (∀ v11, v11 = (if v7 < (h (e + 5) (mw ((mw (v10 * 4)) + l4))) then (h (e + 5) (mw ((mw (v10 * 4)) + l4))) else v7) →
        ((¬ l4 = l1 →
          (0 ≤ (mw ((mw (l3 * 4)) + l4)) ∧ (mw ((mw (l3 * 4)) + l4)) < 144) ∧
          (∀ h12, h12 = mvUpd h (e + 5) (mw ((mw (l3 * 4)) + l4)) v11 →
          EV_findVector_10 g h12 e l1 l2 l3 (mw (l4 + 1)) (some v11) (some v10) K)) ∧
        (l4 = l1 →
          (0 ≤ (mw ((mw (l3 * 4)) + l4)) ∧ (mw ((mw (l3 * 4)) + l4)) < 144) ∧
          (∀ h13, h13 = mvUpd h (e + 5) (mw ((mw (l3 * 4)) + l4)) (mw (l2 + 1)) →
          EV_findVector_10 g h13 e l1 l2 l3 (mw (l4 + 1)) (some v11) (some v10) K))))))))))))) : EV_findVector_10 g h e l1 l2 l3 l4 u5 u6 K := by
  refine rc_iload mq81 (mvDec_of cd81 rfl) rfl ?_
  refine rc_iconst mq81 (mvDec_of cd81 rfl) (by decide) ?_
  refine rc_icmp_ge (t := 117) mq81 (mvDec_of cd81 rfl) rfl (fun hc => ?_) (fun hc => ?_)
  · replace H := H.1 hc
    exact rc_vret mq81 (mvDec_of cd81 rfl) ⟨_, rfl, rfl, H⟩
  · replace H := H.2 hc
    refine rc_iload_n mq81 (mvDec_of cd81 rfl) rfl ?_
    refine rc_if_le (t := 36) mq81 (mvDec_of cd81 rfl) rfl (fun hc => ?_) (fun hc => ?_)
    · replace H := H.1 hc
      refine rc_iconst mq81 (mvDec_of cd81 rfl) (by decide) ?_
      refine rc_istore [some (mvR e), some (mvI l1), some (mvI l2), some (mvI l3), some (mvI l4), some (mvI 0), u6.map mvI] mq81 (mvDec_of cd81 rfl) rfl ?_
      refine rc_aload_n mq81 (mvDec_of cd81 rfl) rfl ?_
      refine rc_getR (e + 2) mq81 (mvDec_of cd81 rfl) fl_2_15 (miE0 he) rfl (mgE3 he hG) (Nat.succ_ne_zero _) ?_
      refine rc_iload_n mq81 (mvDec_of cd81 rfl) rfl ?_
      obtain ⟨⟨hb0, hb1⟩, H⟩ := H
      refine rc_iald mq81 (mvDec_of cd81 rfl) (miE2 he) hb0 hb1 ?_
      refine rc_iconst mq81 (mvDec_of cd81 rfl) (by decide) ?_
      refine rc_icmp_ne (t := 86) mq81 (mvDec_of cd81 rfl) rfl (fun hc => ?_) (fun hc => ?_)
      · replace H := H.1 hc
        refine rc_aload_n mq81 (mvDec_of cd81 rfl) rfl ?_
        refine rc_getR (e + 5) mq81 (mvDec_of cd81 rfl) fl_2_24 (miE0 he) rfl (mgE6 he hG) (Nat.succ_ne_zero _) ?_
        refine rc_iload_n mq81 (mvDec_of cd81 rfl) rfl ?_
        refine rc_iconst mq81 (mvDec_of cd81 rfl) (by decide) ?_
        refine rc_imul mq81 (mvDec_of cd81 rfl) ?_
        refine rc_iload mq81 (mvDec_of cd81 rfl) rfl ?_
        refine rc_iadd mq81 (mvDec_of cd81 rfl) ?_
        refine rc_iload mq81 (mvDec_of cd81 rfl) rfl ?_
        refine rc_iload_n mq81 (mvDec_of cd81 rfl) rfl ?_
        refine rc_icmp_ne (t := 108) mq81 (mvDec_of cd81 rfl) rfl (fun hc => ?_) (fun hc => ?_)
        · replace H := H.1 hc
          refine rc_iload mq81 (mvDec_of cd81 rfl) rfl ?_
          obtain ⟨⟨hb0, hb1⟩, H⟩ := H
          refine rc_iast mq81 (mvDec_of cd81 rfl) (miE5 he) hb0 hb1 ?_
          refine rc_heap (fun h1 hh => ?_)
          replace H := H h1 hh
          refine rc_iinc [some (mvR e), some (mvI l1), some (mvI l2), some (mvI l3), some (mvI (mw (l4 + 1))), some (mvI 0), u6.map mvI] mq81 (mvDec_of cd81 rfl) rfl rfl ?_
          refine rc_goto (t := 10) mq81 (mvDec_of cd81 rfl) rfl ?_
          exact H
        · replace H := H.2 hc
          refine rc_iload_n mq81 (mvDec_of cd81 rfl) rfl ?_
          refine rc_iconst mq81 (mvDec_of cd81 rfl) (by decide) ?_
          refine rc_iadd mq81 (mvDec_of cd81 rfl) ?_
          refine rc_goto (t := 110) mq81 (mvDec_of cd81 rfl) rfl ?_
          obtain ⟨⟨hb0, hb1⟩, H⟩ := H
          refine rc_iast mq81 (mvDec_of cd81 rfl) (miE5 he) hb0 hb1 ?_
          refine rc_heap (fun h2 hh => ?_)
          replace H := H h2 hh
          refine rc_iinc [some (mvR e), some (mvI l1), some (mvI l2), some (mvI l3), some (mvI (mw (l4 + 1))), some (mvI 0), u6.map mvI] mq81 (mvDec_of cd81 rfl) rfl rfl ?_
          refine rc_goto (t := 10) mq81 (mvDec_of cd81 rfl) rfl ?_
          exact H
      · replace H := H.2 hc
        refine rc_aload_n mq81 (mvDec_of cd81 rfl) rfl ?_
        refine rc_getR (e + 3) mq81 (mvDec_of cd81 rfl) fl_2_18 (miE0 he) rfl (mgE4 he hG) (Nat.succ_ne_zero _) ?_
        refine rc_iload_n mq81 (mvDec_of cd81 rfl) rfl ?_
        obtain ⟨⟨hb0, hb1⟩, H⟩ := H
        refine rc_iald mq81 (mvDec_of cd81 rfl) (miE3 he) hb0 hb1 ?_
        refine rc_bipush mq81 (mvDec_of cd81 rfl) (by decide) ?_
        refine rc_imul mq81 (mvDec_of cd81 rfl) ?_
        refine rc_aload_n mq81 (mvDec_of cd81 rfl) rfl ?_
        refine rc_getR (e + 4) mq81 (mvDec_of cd81 rfl) fl_2_21 (miE0 he) rfl (mgE5 he hG) (Nat.succ_ne_zero _) ?_
        refine rc_iload_n mq81 (mvDec_of cd81 rfl) rfl ?_
        obtain ⟨⟨hb0, hb1⟩, H⟩ := H
        refine rc_iald mq81 (mvDec_of cd81 rfl) (miE4 he) hb0 hb1 ?_
        refine rc_iadd mq81 (mvDec_of cd81 rfl) ?_
        refine rc_top (fun v3 hv => ?_)
        replace H := H v3 hv
        refine rc_istore [some (mvR e), some (mvI l1), some (mvI l2), some (mvI l3), some (mvI l4), some (mvI 0), some (mvI v3)] mq81 (mvDec_of cd81 rfl) rfl ?_
        refine rc_iload mq81 (mvDec_of cd81 rfl) rfl ?_
        refine rc_aload_n mq81 (mvDec_of cd81 rfl) rfl ?_
        refine rc_getR (e + 5) mq81 (mvDec_of cd81 rfl) fl_2_24 (miE0 he) rfl (mgE6 he hG) (Nat.succ_ne_zero _) ?_
        refine rc_iload mq81 (mvDec_of cd81 rfl) rfl ?_
        refine rc_iconst mq81 (mvDec_of cd81 rfl) (by decide) ?_
        refine rc_imul mq81 (mvDec_of cd81 rfl) ?_
        refine rc_iload mq81 (mvDec_of cd81 rfl) rfl ?_
        refine rc_iadd mq81 (mvDec_of cd81 rfl) ?_
        obtain ⟨⟨hb0, hb1⟩, H⟩ := H
        refine rc_iald mq81 (mvDec_of cd81 rfl) (miE5 he) hb0 hb1 ?_
        refine rc_max mq81 (mvDec_of cd81 rfl) lk_2_86 ⟨by decide, Nat.le_of_ble_eq_true rfl⟩ ?_
        refine rc_top (fun v4 hv => ?_)
        replace H := H v4 hv
        refine rc_istore [some (mvR e), some (mvI l1), some (mvI l2), some (mvI l3), some (mvI l4), some (mvI v4), some (mvI v3)] mq81 (mvDec_of cd81 rfl) rfl ?_
        refine rc_aload_n mq81 (mvDec_of cd81 rfl) rfl ?_
        refine rc_getR (e + 5) mq81 (mvDec_of cd81 rfl) fl_2_24 (miE0 he) rfl (mgE6 he hG) (Nat.succ_ne_zero _) ?_
        refine rc_iload_n mq81 (mvDec_of cd81 rfl) rfl ?_
        refine rc_iconst mq81 (mvDec_of cd81 rfl) (by decide) ?_
        refine rc_imul mq81 (mvDec_of cd81 rfl) ?_
        refine rc_iload mq81 (mvDec_of cd81 rfl) rfl ?_
        refine rc_iadd mq81 (mvDec_of cd81 rfl) ?_
        refine rc_iload mq81 (mvDec_of cd81 rfl) rfl ?_
        refine rc_iload_n mq81 (mvDec_of cd81 rfl) rfl ?_
        refine rc_icmp_ne (t := 108) mq81 (mvDec_of cd81 rfl) rfl (fun hc => ?_) (fun hc => ?_)
        · replace H := H.1 hc
          refine rc_iload mq81 (mvDec_of cd81 rfl) rfl ?_
          obtain ⟨⟨hb0, hb1⟩, H⟩ := H
          refine rc_iast mq81 (mvDec_of cd81 rfl) (miE5 he) hb0 hb1 ?_
          refine rc_heap (fun h5 hh => ?_)
          replace H := H h5 hh
          refine rc_iinc [some (mvR e), some (mvI l1), some (mvI l2), some (mvI l3), some (mvI (mw (l4 + 1))), some (mvI v4), some (mvI v3)] mq81 (mvDec_of cd81 rfl) rfl rfl ?_
          refine rc_goto (t := 10) mq81 (mvDec_of cd81 rfl) rfl ?_
          exact H
        · replace H := H.2 hc
          refine rc_iload_n mq81 (mvDec_of cd81 rfl) rfl ?_
          refine rc_iconst mq81 (mvDec_of cd81 rfl) (by decide) ?_
          refine rc_iadd mq81 (mvDec_of cd81 rfl) ?_
          refine rc_goto (t := 110) mq81 (mvDec_of cd81 rfl) rfl ?_
          obtain ⟨⟨hb0, hb1⟩, H⟩ := H
          refine rc_iast mq81 (mvDec_of cd81 rfl) (miE5 he) hb0 hb1 ?_
          refine rc_heap (fun h6 hh => ?_)
          replace H := H h6 hh
          refine rc_iinc [some (mvR e), some (mvI l1), some (mvI l2), some (mvI l3), some (mvI (mw (l4 + 1))), some (mvI v4), some (mvI v3)] mq81 (mvDec_of cd81 rfl) rfl rfl ?_
          refine rc_goto (t := 10) mq81 (mvDec_of cd81 rfl) rfl ?_
          exact H
    · replace H := H.2 hc
      refine rc_aload_n mq81 (mvDec_of cd81 rfl) rfl ?_
      refine rc_getR (e + 5) mq81 (mvDec_of cd81 rfl) fl_2_24 (miE0 he) rfl (mgE6 he hG) (Nat.succ_ne_zero _) ?_
      refine rc_iload_n mq81 (mvDec_of cd81 rfl) rfl ?_
      refine rc_iconst mq81 (mvDec_of cd81 rfl) (by decide) ?_
      refine rc_isub mq81 (mvDec_of cd81 rfl) ?_
      refine rc_iconst mq81 (mvDec_of cd81 rfl) (by decide) ?_
      refine rc_imul mq81 (mvDec_of cd81 rfl) ?_
      refine rc_iload mq81 (mvDec_of cd81 rfl) rfl ?_
      refine rc_iadd mq81 (mvDec_of cd81 rfl) ?_
      obtain ⟨⟨hb0, hb1⟩, H⟩ := H
      refine rc_iald mq81 (mvDec_of cd81 rfl) (miE5 he) hb0 hb1 ?_
      refine rc_goto (t := 37) mq81 (mvDec_of cd81 rfl) rfl ?_
      refine rc_top (fun v7 hv => ?_)
      replace H := H v7 hv
      refine rc_istore [some (mvR e), some (mvI l1), some (mvI l2), some (mvI l3), some (mvI l4), some (mvI v7), u6.map mvI] mq81 (mvDec_of cd81 rfl) rfl ?_
      refine rc_aload_n mq81 (mvDec_of cd81 rfl) rfl ?_
      refine rc_getR (e + 2) mq81 (mvDec_of cd81 rfl) fl_2_15 (miE0 he) rfl (mgE3 he hG) (Nat.succ_ne_zero _) ?_
      refine rc_iload_n mq81 (mvDec_of cd81 rfl) rfl ?_
      obtain ⟨⟨hb0, hb1⟩, H⟩ := H
      refine rc_iald mq81 (mvDec_of cd81 rfl) (miE2 he) hb0 hb1 ?_
      refine rc_iconst mq81 (mvDec_of cd81 rfl) (by decide) ?_
      refine rc_icmp_ne (t := 86) mq81 (mvDec_of cd81 rfl) rfl (fun hc => ?_) (fun hc => ?_)
      · replace H := H.1 hc
        refine rc_aload_n mq81 (mvDec_of cd81 rfl) rfl ?_
        refine rc_getR (e + 5) mq81 (mvDec_of cd81 rfl) fl_2_24 (miE0 he) rfl (mgE6 he hG) (Nat.succ_ne_zero _) ?_
        refine rc_iload_n mq81 (mvDec_of cd81 rfl) rfl ?_
        refine rc_iconst mq81 (mvDec_of cd81 rfl) (by decide) ?_
        refine rc_imul mq81 (mvDec_of cd81 rfl) ?_
        refine rc_iload mq81 (mvDec_of cd81 rfl) rfl ?_
        refine rc_iadd mq81 (mvDec_of cd81 rfl) ?_
        refine rc_iload mq81 (mvDec_of cd81 rfl) rfl ?_
        refine rc_iload_n mq81 (mvDec_of cd81 rfl) rfl ?_
        refine rc_icmp_ne (t := 108) mq81 (mvDec_of cd81 rfl) rfl (fun hc => ?_) (fun hc => ?_)
        · replace H := H.1 hc
          refine rc_iload mq81 (mvDec_of cd81 rfl) rfl ?_
          obtain ⟨⟨hb0, hb1⟩, H⟩ := H
          refine rc_iast mq81 (mvDec_of cd81 rfl) (miE5 he) hb0 hb1 ?_
          refine rc_heap (fun h8 hh => ?_)
          replace H := H h8 hh
          refine rc_iinc [some (mvR e), some (mvI l1), some (mvI l2), some (mvI l3), some (mvI (mw (l4 + 1))), some (mvI v7), u6.map mvI] mq81 (mvDec_of cd81 rfl) rfl rfl ?_
          refine rc_goto (t := 10) mq81 (mvDec_of cd81 rfl) rfl ?_
          exact H
        · replace H := H.2 hc
          refine rc_iload_n mq81 (mvDec_of cd81 rfl) rfl ?_
          refine rc_iconst mq81 (mvDec_of cd81 rfl) (by decide) ?_
          refine rc_iadd mq81 (mvDec_of cd81 rfl) ?_
          refine rc_goto (t := 110) mq81 (mvDec_of cd81 rfl) rfl ?_
          obtain ⟨⟨hb0, hb1⟩, H⟩ := H
          refine rc_iast mq81 (mvDec_of cd81 rfl) (miE5 he) hb0 hb1 ?_
          refine rc_heap (fun h9 hh => ?_)
          replace H := H h9 hh
          refine rc_iinc [some (mvR e), some (mvI l1), some (mvI l2), some (mvI l3), some (mvI (mw (l4 + 1))), some (mvI v7), u6.map mvI] mq81 (mvDec_of cd81 rfl) rfl rfl ?_
          refine rc_goto (t := 10) mq81 (mvDec_of cd81 rfl) rfl ?_
          exact H
      · replace H := H.2 hc
        refine rc_aload_n mq81 (mvDec_of cd81 rfl) rfl ?_
        refine rc_getR (e + 3) mq81 (mvDec_of cd81 rfl) fl_2_18 (miE0 he) rfl (mgE4 he hG) (Nat.succ_ne_zero _) ?_
        refine rc_iload_n mq81 (mvDec_of cd81 rfl) rfl ?_
        obtain ⟨⟨hb0, hb1⟩, H⟩ := H
        refine rc_iald mq81 (mvDec_of cd81 rfl) (miE3 he) hb0 hb1 ?_
        refine rc_bipush mq81 (mvDec_of cd81 rfl) (by decide) ?_
        refine rc_imul mq81 (mvDec_of cd81 rfl) ?_
        refine rc_aload_n mq81 (mvDec_of cd81 rfl) rfl ?_
        refine rc_getR (e + 4) mq81 (mvDec_of cd81 rfl) fl_2_21 (miE0 he) rfl (mgE5 he hG) (Nat.succ_ne_zero _) ?_
        refine rc_iload_n mq81 (mvDec_of cd81 rfl) rfl ?_
        obtain ⟨⟨hb0, hb1⟩, H⟩ := H
        refine rc_iald mq81 (mvDec_of cd81 rfl) (miE4 he) hb0 hb1 ?_
        refine rc_iadd mq81 (mvDec_of cd81 rfl) ?_
        refine rc_top (fun v10 hv => ?_)
        replace H := H v10 hv
        refine rc_istore [some (mvR e), some (mvI l1), some (mvI l2), some (mvI l3), some (mvI l4), some (mvI v7), some (mvI v10)] mq81 (mvDec_of cd81 rfl) rfl ?_
        refine rc_iload mq81 (mvDec_of cd81 rfl) rfl ?_
        refine rc_aload_n mq81 (mvDec_of cd81 rfl) rfl ?_
        refine rc_getR (e + 5) mq81 (mvDec_of cd81 rfl) fl_2_24 (miE0 he) rfl (mgE6 he hG) (Nat.succ_ne_zero _) ?_
        refine rc_iload mq81 (mvDec_of cd81 rfl) rfl ?_
        refine rc_iconst mq81 (mvDec_of cd81 rfl) (by decide) ?_
        refine rc_imul mq81 (mvDec_of cd81 rfl) ?_
        refine rc_iload mq81 (mvDec_of cd81 rfl) rfl ?_
        refine rc_iadd mq81 (mvDec_of cd81 rfl) ?_
        obtain ⟨⟨hb0, hb1⟩, H⟩ := H
        refine rc_iald mq81 (mvDec_of cd81 rfl) (miE5 he) hb0 hb1 ?_
        refine rc_max mq81 (mvDec_of cd81 rfl) lk_2_86 ⟨by decide, Nat.le_of_ble_eq_true rfl⟩ ?_
        refine rc_top (fun v11 hv => ?_)
        replace H := H v11 hv
        refine rc_istore [some (mvR e), some (mvI l1), some (mvI l2), some (mvI l3), some (mvI l4), some (mvI v11), some (mvI v10)] mq81 (mvDec_of cd81 rfl) rfl ?_
        refine rc_aload_n mq81 (mvDec_of cd81 rfl) rfl ?_
        refine rc_getR (e + 5) mq81 (mvDec_of cd81 rfl) fl_2_24 (miE0 he) rfl (mgE6 he hG) (Nat.succ_ne_zero _) ?_
        refine rc_iload_n mq81 (mvDec_of cd81 rfl) rfl ?_
        refine rc_iconst mq81 (mvDec_of cd81 rfl) (by decide) ?_
        refine rc_imul mq81 (mvDec_of cd81 rfl) ?_
        refine rc_iload mq81 (mvDec_of cd81 rfl) rfl ?_
        refine rc_iadd mq81 (mvDec_of cd81 rfl) ?_
        refine rc_iload mq81 (mvDec_of cd81 rfl) rfl ?_
        refine rc_iload_n mq81 (mvDec_of cd81 rfl) rfl ?_
        refine rc_icmp_ne (t := 108) mq81 (mvDec_of cd81 rfl) rfl (fun hc => ?_) (fun hc => ?_)
        · replace H := H.1 hc
          refine rc_iload mq81 (mvDec_of cd81 rfl) rfl ?_
          obtain ⟨⟨hb0, hb1⟩, H⟩ := H
          refine rc_iast mq81 (mvDec_of cd81 rfl) (miE5 he) hb0 hb1 ?_
          refine rc_heap (fun h12 hh => ?_)
          replace H := H h12 hh
          refine rc_iinc [some (mvR e), some (mvI l1), some (mvI l2), some (mvI l3), some (mvI (mw (l4 + 1))), some (mvI v11), some (mvI v10)] mq81 (mvDec_of cd81 rfl) rfl rfl ?_
          refine rc_goto (t := 10) mq81 (mvDec_of cd81 rfl) rfl ?_
          exact H
        · replace H := H.2 hc
          refine rc_iload_n mq81 (mvDec_of cd81 rfl) rfl ?_
          refine rc_iconst mq81 (mvDec_of cd81 rfl) (by decide) ?_
          refine rc_iadd mq81 (mvDec_of cd81 rfl) ?_
          refine rc_goto (t := 110) mq81 (mvDec_of cd81 rfl) rfl ?_
          obtain ⟨⟨hb0, hb1⟩, H⟩ := H
          refine rc_iast mq81 (mvDec_of cd81 rfl) (miE5 he) hb0 hb1 ?_
          refine rc_heap (fun h13 hh => ?_)
          replace H := H h13 hh
          refine rc_iinc [some (mvR e), some (mvI l1), some (mvI l2), some (mvI l3), some (mvI (mw (l4 + 1))), some (mvI v11), some (mvI v10)] mq81 (mvDec_of cd81 rfl) rfl rfl ?_
          refine rc_goto (t := 10) mq81 (mvDec_of cd81 rfl) rfl ?_
          exact H
abbrev EV_property (g : Nat → Nat → Nat) (h : Nat → Int → Int) (e : Nat) (x1 : Int) (x2 : Int) (x3 : Int) (K : Int → (Nat → Int → Int) → Prop) : Prop := RI 82 0 [some (mvR e), some (mvI x1), some (mvI x2), some (mvI x3), none, none] [] g h K
theorem EV_property_wp {sw : Bool} {g : Nat → Nat → Nat} {h : Nat → Int → Int} {e : Nat} {x1 : Int} {x2 : Int} {x3 : Int} {K : Int → (Nat → Int → Int) → Prop} (hG : Gok sw g) (he : EvId e) (H :
  (∀ v1, v1 = (mw ((mw (x1 * 9)) + x2)) →
  ((¬ x3 = 0 →
    ((¬ x3 = 1 →
      ((¬ x3 = 2 →
        (∀ v2, v2 = (mw (x3 - 3)) →
        ((v2 < 0 →
          K (-1) h) ∧
        (0 ≤ v2 →
          (((h e 0) ≤ v2 →
            K (-1) h) ∧
          (v2 < (h e 0) →
            (0 ≤ (mw ((mw (v1 * 4)) + v2)) ∧ (mw ((mw (v1 * 4)) + v2)) < 144) ∧
            K (h (e + 5) (mw ((mw (v1 * 4)) + v2))) h)))))) ∧
      (x3 = 2 →
        (0 ≤ v1 ∧ v1 < 36) ∧
        K (h (e + 4) v1) h))) ∧
    (x3 = 1 →
      (0 ≤ v1 ∧ v1 < 36) ∧
      K (h (e + 3) v1) h))) ∧
  (x3 = 0 →
    (0 ≤ v1 ∧ v1 < 36) ∧
    K (h (e + 2) v1) h)))) : EV_property g h e x1 x2 x3 K := by
  refine rc_iload_n mq82 (mvDec_of cd82 rfl) rfl ?_
  refine rc_bipush mq82 (mvDec_of cd82 rfl) (by decide) ?_
  refine rc_imul mq82 (mvDec_of cd82 rfl) ?_
  refine rc_iload_n mq82 (mvDec_of cd82 rfl) rfl ?_
  refine rc_iadd mq82 (mvDec_of cd82 rfl) ?_
  refine rc_top (fun v1 hv => ?_)
  replace H := H v1 hv
  refine rc_istore [some (mvR e), some (mvI x1), some (mvI x2), some (mvI x3), some (mvI v1), none] mq82 (mvDec_of cd82 rfl) rfl ?_
  refine rc_iload_n mq82 (mvDec_of cd82 rfl) rfl ?_
  refine rc_if_ne (t := 20) mq82 (mvDec_of cd82 rfl) rfl (fun hc => ?_) (fun hc => ?_)
  · replace H := H.1 hc
    refine rc_iload_n mq82 (mvDec_of cd82 rfl) rfl ?_
    refine rc_iconst mq82 (mvDec_of cd82 rfl) (by decide) ?_
    refine rc_icmp_ne (t := 33) mq82 (mvDec_of cd82 rfl) rfl (fun hc => ?_) (fun hc => ?_)
    · replace H := H.1 hc
      refine rc_iload_n mq82 (mvDec_of cd82 rfl) rfl ?_
      refine rc_iconst mq82 (mvDec_of cd82 rfl) (by decide) ?_
      refine rc_icmp_ne (t := 46) mq82 (mvDec_of cd82 rfl) rfl (fun hc => ?_) (fun hc => ?_)
      · replace H := H.1 hc
        refine rc_iload_n mq82 (mvDec_of cd82 rfl) rfl ?_
        refine rc_iconst mq82 (mvDec_of cd82 rfl) (by decide) ?_
        refine rc_isub mq82 (mvDec_of cd82 rfl) ?_
        refine rc_top (fun v2 hv => ?_)
        replace H := H v2 hv
        refine rc_istore [some (mvR e), some (mvI x1), some (mvI x2), some (mvI x3), some (mvI v1), some (mvI v2)] mq82 (mvDec_of cd82 rfl) rfl ?_
        refine rc_aload_n mq82 (mvDec_of cd82 rfl) rfl ?_
        refine rc_iload mq82 (mvDec_of cd82 rfl) rfl ?_
        refine rc_callV [mvR e, mvI v2] [] [some (mvR e), some (mvI v2)] mq82 (mvDec_of cd82 rfl) lk_2_49 mq8 (by decide) rfl rfl (Nat.le_of_ble_eq_true rfl) (Nat.le_of_ble_eq_true rfl) (by decide) rfl (miE0 he) rfl ?_
        refine rc_iload_n mq8 (mvDec_of cd8 rfl) rfl ?_
        refine rc_if_lt (t := 16) mq8 (mvDec_of cd8 rfl) rfl (fun hc => ?_) (fun hc => ?_)
        · replace H := H.1 hc
          refine rc_iconst mq8 (mvDec_of cd8 rfl) (by decide) ?_
          refine rc_zret mq8 (mvDec_of cd8 rfl) (Or.inl rfl) ?_
          show Rch 82 57 [some (mvR e), some (mvI x1), some (mvI x2), some (mvI x3), some (mvI v1), some (mvI v2)] [mvI 0] (97, g, h) _
          refine rc_ifT (t := 75) mq82 (mvDec_of cd82 rfl) rfl rfl ?_
          refine rc_iconst mq82 (mvDec_of cd82 rfl) (by decide) ?_
          exact rc_iret mq82 (mvDec_of cd82 rfl) ⟨_, _, rfl, rfl, H⟩
        · replace H := H.2 hc
          refine rc_iload_n mq8 (mvDec_of cd8 rfl) rfl ?_
          refine rc_aload_n mq8 (mvDec_of cd8 rfl) rfl ?_
          refine rc_getI 0 mq8 (mvDec_of cd8 rfl) fl_2_36 (miE0 he) rfl (by decide) (by decide) ?_
          refine rc_icmp_ge (t := 16) mq8 (mvDec_of cd8 rfl) rfl (fun hc => ?_) (fun hc => ?_)
          · replace H := H.1 hc
            refine rc_iconst mq8 (mvDec_of cd8 rfl) (by decide) ?_
            refine rc_zret mq8 (mvDec_of cd8 rfl) (Or.inl rfl) ?_
            show Rch 82 57 [some (mvR e), some (mvI x1), some (mvI x2), some (mvI x3), some (mvI v1), some (mvI v2)] [mvI 0] (97, g, h) _
            refine rc_ifT (t := 75) mq82 (mvDec_of cd82 rfl) rfl rfl ?_
            refine rc_iconst mq82 (mvDec_of cd82 rfl) (by decide) ?_
            exact rc_iret mq82 (mvDec_of cd82 rfl) ⟨_, _, rfl, rfl, H⟩
          · replace H := H.2 hc
            refine rc_iconst mq8 (mvDec_of cd8 rfl) (by decide) ?_
            refine rc_goto (t := 17) mq8 (mvDec_of cd8 rfl) rfl ?_
            refine rc_zret mq8 (mvDec_of cd8 rfl) (Or.inr rfl) ?_
            show Rch 82 57 [some (mvR e), some (mvI x1), some (mvI x2), some (mvI x3), some (mvI v1), some (mvI v2)] [mvI 1] (97, g, h) _
            refine rc_ifF (t := 75) mq82 (mvDec_of cd82 rfl) rfl rfl ?_
            refine rc_aload_n mq82 (mvDec_of cd82 rfl) rfl ?_
            refine rc_getR (e + 5) mq82 (mvDec_of cd82 rfl) fl_2_24 (miE0 he) rfl (mgE6 he hG) (Nat.succ_ne_zero _) ?_
            refine rc_iload mq82 (mvDec_of cd82 rfl) rfl ?_
            refine rc_iconst mq82 (mvDec_of cd82 rfl) (by decide) ?_
            refine rc_imul mq82 (mvDec_of cd82 rfl) ?_
            refine rc_iload mq82 (mvDec_of cd82 rfl) rfl ?_
            refine rc_iadd mq82 (mvDec_of cd82 rfl) ?_
            obtain ⟨⟨hb0, hb1⟩, H⟩ := H
            refine rc_iald mq82 (mvDec_of cd82 rfl) (miE5 he) hb0 hb1 ?_
            refine rc_goto (t := 76) mq82 (mvDec_of cd82 rfl) rfl ?_
            exact rc_iret mq82 (mvDec_of cd82 rfl) ⟨_, _, rfl, rfl, H⟩
      · replace H := H.2 hc
        refine rc_aload_n mq82 (mvDec_of cd82 rfl) rfl ?_
        refine rc_getR (e + 4) mq82 (mvDec_of cd82 rfl) fl_2_21 (miE0 he) rfl (mgE5 he hG) (Nat.succ_ne_zero _) ?_
        refine rc_iload mq82 (mvDec_of cd82 rfl) rfl ?_
        obtain ⟨⟨hb0, hb1⟩, H⟩ := H
        refine rc_iald mq82 (mvDec_of cd82 rfl) (miE4 he) hb0 hb1 ?_
        exact rc_iret mq82 (mvDec_of cd82 rfl) ⟨_, _, rfl, rfl, H⟩
    · replace H := H.2 hc
      refine rc_aload_n mq82 (mvDec_of cd82 rfl) rfl ?_
      refine rc_getR (e + 3) mq82 (mvDec_of cd82 rfl) fl_2_18 (miE0 he) rfl (mgE4 he hG) (Nat.succ_ne_zero _) ?_
      refine rc_iload mq82 (mvDec_of cd82 rfl) rfl ?_
      obtain ⟨⟨hb0, hb1⟩, H⟩ := H
      refine rc_iald mq82 (mvDec_of cd82 rfl) (miE3 he) hb0 hb1 ?_
      exact rc_iret mq82 (mvDec_of cd82 rfl) ⟨_, _, rfl, rfl, H⟩
  · replace H := H.2 hc
    refine rc_aload_n mq82 (mvDec_of cd82 rfl) rfl ?_
    refine rc_getR (e + 2) mq82 (mvDec_of cd82 rfl) fl_2_15 (miE0 he) rfl (mgE3 he hG) (Nat.succ_ne_zero _) ?_
    refine rc_iload mq82 (mvDec_of cd82 rfl) rfl ?_
    obtain ⟨⟨hb0, hb1⟩, H⟩ := H
    refine rc_iald mq82 (mvDec_of cd82 rfl) (miE2 he) hb0 hb1 ?_
    exact rc_iret mq82 (mvDec_of cd82 rfl) ⟨_, _, rfl, rfl, H⟩
abbrev EV_hasPastIn (g : Nat → Nat → Nat) (h : Nat → Int → Int) (e : Nat) (x1 : Int) (x2 : Int) (K : Int → (Nat → Int → Int) → Prop) : Prop := RI 83 0 [some (mvR e), some (mvI x1), some (mvI x2), none] [] g h K
abbrev EV_hasPastIn_2 (g : Nat → Nat → Nat) (h : Nat → Int → Int) (e : Nat) (l1 : Int) (l2 : Int) (l3 : Int) (K : Int → (Nat → Int → Int) → Prop) : Prop := RI 83 2 [some (mvR e), some (mvI l1), some (mvI l2), some (mvI l3)] [] g h K
theorem EV_hasPastIn_wp {sw : Bool} {g : Nat → Nat → Nat} {h : Nat → Int → Int} {e : Nat} {x1 : Int} {x2 : Int} {K : Int → (Nat → Int → Int) → Prop} (hG : Gok sw g) (he : EvId e) (H :
  EV_hasPastIn_2 g h e x1 x2 0 K) : EV_hasPastIn g h e x1 x2 K := by
  refine rc_iconst mq83 (mvDec_of cd83 rfl) (by decide) ?_
  refine rc_istore_n [some (mvR e), some (mvI x1), some (mvI x2), some (mvI 0)] mq83 (mvDec_of cd83 rfl) rfl ?_
  exact H
theorem EV_hasPastIn_2_wp {sw : Bool} {g : Nat → Nat → Nat} {h : Nat → Int → Int} {e : Nat} {l1 : Int} {l2 : Int} {l3 : Int} {K : Int → (Nat → Int → Int) → Prop} (hG : Gok sw g) (he : EvId e) (H :
  (((h e 0) ≤ l3 →
    K 1 h) ∧
  (l3 < (h e 0) →
    (0 ≤ (mw ((mw (l2 * 4)) + l3)) ∧ (mw ((mw (l2 * 4)) + l3)) < 144) ∧
    EV_countIn g h e l1 l3 (fun r2 h1 =>
      (((h (e + 5) (mw ((mw (l2 * 4)) + l3))) ≤ r2 →
        EV_hasPastIn_2 g h1 e l1 l2 (mw (l3 + 1)) K) ∧
      (r2 < (h (e + 5) (mw ((mw (l2 * 4)) + l3))) →
        K 0 h1)))))) : EV_hasPastIn_2 g h e l1 l2 l3 K := by
  refine rc_iload_n mq83 (mvDec_of cd83 rfl) rfl ?_
  refine rc_aload_n mq83 (mvDec_of cd83 rfl) rfl ?_
  refine rc_getI 0 mq83 (mvDec_of cd83 rfl) fl_2_36 (miE0 he) rfl (by decide) (by decide) ?_
  refine rc_icmp_ge (t := 37) mq83 (mvDec_of cd83 rfl) rfl (fun hc => ?_) (fun hc => ?_)
  · replace H := H.1 hc
    refine rc_iconst mq83 (mvDec_of cd83 rfl) (by decide) ?_
    exact rc_zret mq83 (mvDec_of cd83 rfl) (Or.inr rfl) ⟨_, _, rfl, rfl, H⟩
  · replace H := H.2 hc
    refine rc_aload_n mq83 (mvDec_of cd83 rfl) rfl ?_
    refine rc_getR (e + 5) mq83 (mvDec_of cd83 rfl) fl_2_24 (miE0 he) rfl (mgE6 he hG) (Nat.succ_ne_zero _) ?_
    refine rc_iload_n mq83 (mvDec_of cd83 rfl) rfl ?_
    refine rc_iconst mq83 (mvDec_of cd83 rfl) (by decide) ?_
    refine rc_imul mq83 (mvDec_of cd83 rfl) ?_
    refine rc_iload_n mq83 (mvDec_of cd83 rfl) rfl ?_
    refine rc_iadd mq83 (mvDec_of cd83 rfl) ?_
    obtain ⟨⟨hb0, hb1⟩, H⟩ := H
    refine rc_iald mq83 (mvDec_of cd83 rfl) (miE5 he) hb0 hb1 ?_
    refine rc_aload_n mq83 (mvDec_of cd83 rfl) rfl ?_
    refine rc_iload_n mq83 (mvDec_of cd83 rfl) rfl ?_
    refine rc_iload_n mq83 (mvDec_of cd83 rfl) rfl ?_
    refine rc_callV [mvR e, mvI l1, mvI l3] [mvI (h (e + 5) (mw ((mw (l2 * 4)) + l3)))] [some (mvR e), some (mvI l1), some (mvI l3)] mq83 (mvDec_of cd83 rfl) lk_2_75 mq23 (by decide) rfl rfl (Nat.le_of_ble_eq_true rfl) (Nat.le_of_ble_eq_true rfl) (by decide) rfl (miE0 he) rfl (ri_bind H (fun r2 h1 H => ?_))
    refine rc_icmp_le (t := 31) mq83 (mvDec_of cd83 rfl) rfl (fun hc => ?_) (fun hc => ?_)
    · replace H := H.1 hc
      refine rc_iinc [some (mvR e), some (mvI l1), some (mvI l2), some (mvI (mw (l3 + 1)))] mq83 (mvDec_of cd83 rfl) rfl rfl ?_
      refine rc_goto (t := 2) mq83 (mvDec_of cd83 rfl) rfl ?_
      exact H
    · replace H := H.2 hc
      refine rc_iconst mq83 (mvDec_of cd83 rfl) (by decide) ?_
      exact rc_zret mq83 (mvDec_of cd83 rfl) (Or.inl rfl) ⟨_, _, rfl, rfl, H⟩
abbrev EV_canFollow (g : Nat → Nat → Nat) (h : Nat → Int → Int) (e : Nat) (x1 : Int) (x2 : Int) (K : Int → (Nat → Int → Int) → Prop) : Prop := RI 84 0 [some (mvR e), some (mvI x1), some (mvI x2), none, none] [] g h K
theorem EV_canFollow_wp {sw : Bool} {g : Nat → Nat → Nat} {h : Nat → Int → Int} {e : Nat} {x1 : Int} {x2 : Int} {K : Int → (Nat → Int → Int) → Prop} (hG : Gok sw g) (he : EvId e) (H :
  EV_countIn g h e x1 x2 (fun r2 h1 =>
    (0 ≤ x2 ∧ x2 < 4) ∧
    ((r2 < (h1 (e + 1) x2) →
      (∀ v3, v3 = (mw ((mw (x2 * 9)) + r2)) →
      (0 ≤ v3 ∧ v3 < 36) ∧
      ((¬ (h1 (e + 2) v3) = 2 →
        K 1 h1) ∧
      ((h1 (e + 2) v3) = 2 →
        (0 ≤ v3 ∧ v3 < 36) ∧
        (0 ≤ v3 ∧ v3 < 36) ∧
        EV_countIn g h1 e x1 (h1 (e + 3) v3) (fun r5 h4 =>
          ((r5 ≤ (h1 (e + 4) v3) →
            K 0 h4) ∧
          ((h1 (e + 4) v3) < r5 →
            K 1 h4))))))) ∧
    ((h1 (e + 1) x2) ≤ r2 →
      K 0 h1)))) : EV_canFollow g h e x1 x2 K := by
  refine rc_aload_n mq84 (mvDec_of cd84 rfl) rfl ?_
  refine rc_iload_n mq84 (mvDec_of cd84 rfl) rfl ?_
  refine rc_iload_n mq84 (mvDec_of cd84 rfl) rfl ?_
  refine rc_callV [mvR e, mvI x1, mvI x2] [] [some (mvR e), some (mvI x1), some (mvI x2)] mq84 (mvDec_of cd84 rfl) lk_2_75 mq23 (by decide) rfl rfl (Nat.le_of_ble_eq_true rfl) (Nat.le_of_ble_eq_true rfl) (by decide) rfl (miE0 he) rfl (ri_bind H (fun r2 h1 H => ?_))
  refine rc_istore_n [some (mvR e), some (mvI x1), some (mvI x2), some (mvI r2), none] mq84 (mvDec_of cd84 rfl) rfl ?_
  refine rc_iload_n mq84 (mvDec_of cd84 rfl) rfl ?_
  refine rc_aload_n mq84 (mvDec_of cd84 rfl) rfl ?_
  refine rc_getR (e + 1) mq84 (mvDec_of cd84 rfl) fl_2_9 (miE0 he) rfl (mgE2 he hG) (Nat.succ_ne_zero _) ?_
  refine rc_iload_n mq84 (mvDec_of cd84 rfl) rfl ?_
  obtain ⟨⟨hb0, hb1⟩, H⟩ := H
  refine rc_iald mq84 (mvDec_of cd84 rfl) (miE1 he) hb0 hb1 ?_
  refine rc_icmp_lt (t := 19) mq84 (mvDec_of cd84 rfl) rfl (fun hc => ?_) (fun hc => ?_)
  · replace H := H.1 hc
    refine rc_iload_n mq84 (mvDec_of cd84 rfl) rfl ?_
    refine rc_bipush mq84 (mvDec_of cd84 rfl) (by decide) ?_
    refine rc_imul mq84 (mvDec_of cd84 rfl) ?_
    refine rc_iload_n mq84 (mvDec_of cd84 rfl) rfl ?_
    refine rc_iadd mq84 (mvDec_of cd84 rfl) ?_
    refine rc_top (fun v3 hv => ?_)
    replace H := H v3 hv
    refine rc_istore [some (mvR e), some (mvI x1), some (mvI x2), some (mvI r2), some (mvI v3)] mq84 (mvDec_of cd84 rfl) rfl ?_
    refine rc_aload_n mq84 (mvDec_of cd84 rfl) rfl ?_
    refine rc_getR (e + 2) mq84 (mvDec_of cd84 rfl) fl_2_15 (miE0 he) rfl (mgE3 he hG) (Nat.succ_ne_zero _) ?_
    refine rc_iload mq84 (mvDec_of cd84 rfl) rfl ?_
    obtain ⟨⟨hb0, hb1⟩, H⟩ := H
    refine rc_iald mq84 (mvDec_of cd84 rfl) (miE2 he) hb0 hb1 ?_
    refine rc_iconst mq84 (mvDec_of cd84 rfl) (by decide) ?_
    refine rc_icmp_ne (t := 60) mq84 (mvDec_of cd84 rfl) rfl (fun hc => ?_) (fun hc => ?_)
    · replace H := H.1 hc
      refine rc_iconst mq84 (mvDec_of cd84 rfl) (by decide) ?_
      refine rc_goto (t := 65) mq84 (mvDec_of cd84 rfl) rfl ?_
      exact rc_zret mq84 (mvDec_of cd84 rfl) (Or.inr rfl) ⟨_, _, rfl, rfl, H⟩
    · replace H := H.2 hc
      refine rc_aload_n mq84 (mvDec_of cd84 rfl) rfl ?_
      refine rc_getR (e + 4) mq84 (mvDec_of cd84 rfl) fl_2_21 (miE0 he) rfl (mgE5 he hG) (Nat.succ_ne_zero _) ?_
      refine rc_iload mq84 (mvDec_of cd84 rfl) rfl ?_
      obtain ⟨⟨hb0, hb1⟩, H⟩ := H
      refine rc_iald mq84 (mvDec_of cd84 rfl) (miE4 he) hb0 hb1 ?_
      refine rc_aload_n mq84 (mvDec_of cd84 rfl) rfl ?_
      refine rc_iload_n mq84 (mvDec_of cd84 rfl) rfl ?_
      refine rc_aload_n mq84 (mvDec_of cd84 rfl) rfl ?_
      refine rc_getR (e + 3) mq84 (mvDec_of cd84 rfl) fl_2_18 (miE0 he) rfl (mgE4 he hG) (Nat.succ_ne_zero _) ?_
      refine rc_iload mq84 (mvDec_of cd84 rfl) rfl ?_
      obtain ⟨⟨hb0, hb1⟩, H⟩ := H
      refine rc_iald mq84 (mvDec_of cd84 rfl) (miE3 he) hb0 hb1 ?_
      refine rc_callV [mvR e, mvI x1, mvI (h1 (e + 3) v3)] [mvI (h1 (e + 4) v3)] [some (mvR e), some (mvI x1), some (mvI (h1 (e + 3) v3))] mq84 (mvDec_of cd84 rfl) lk_2_75 mq23 (by decide) rfl rfl (Nat.le_of_ble_eq_true rfl) (Nat.le_of_ble_eq_true rfl) (by decide) rfl (miE0 he) rfl (ri_bind H (fun r5 h4 H => ?_))
      refine rc_icmp_ge (t := 64) mq84 (mvDec_of cd84 rfl) rfl (fun hc => ?_) (fun hc => ?_)
      · replace H := H.1 hc
        refine rc_iconst mq84 (mvDec_of cd84 rfl) (by decide) ?_
        exact rc_zret mq84 (mvDec_of cd84 rfl) (Or.inl rfl) ⟨_, _, rfl, rfl, H⟩
      · replace H := H.2 hc
        refine rc_iconst mq84 (mvDec_of cd84 rfl) (by decide) ?_
        refine rc_goto (t := 65) mq84 (mvDec_of cd84 rfl) rfl ?_
        exact rc_zret mq84 (mvDec_of cd84 rfl) (Or.inr rfl) ⟨_, _, rfl, rfl, H⟩
  · replace H := H.2 hc
    refine rc_iconst mq84 (mvDec_of cd84 rfl) (by decide) ?_
    exact rc_zret mq84 (mvDec_of cd84 rfl) (Or.inl rfl) ⟨_, _, rfl, rfl, H⟩
abbrev EV_underWay (g : Nat → Nat → Nat) (h : Nat → Int → Int) (e : Nat) (x1 : Int) (K : Int → (Nat → Int → Int) → Prop) : Prop := RI 85 0 [some (mvR e), some (mvI x1), none, none] [] g h K
abbrev EV_underWay_4 (g : Nat → Nat → Nat) (h : Nat → Int → Int) (e : Nat) (l1 : Int) (l2 : Int) (l3 : Int) (K : Int → (Nat → Int → Int) → Prop) : Prop := RI 85 4 [some (mvR e), some (mvI l1), some (mvI l2), some (mvI l3)] [] g h K
theorem EV_underWay_wp {sw : Bool} {g : Nat → Nat → Nat} {h : Nat → Int → Int} {e : Nat} {x1 : Int} {K : Int → (Nat → Int → Int) → Prop} (hG : Gok sw g) (he : EvId e) (H :
  EV_underWay_4 g h e x1 0 0 K) : EV_underWay g h e x1 K := by
  refine rc_iconst mq85 (mvDec_of cd85 rfl) (by decide) ?_
  refine rc_istore_n [some (mvR e), some (mvI x1), some (mvI 0), none] mq85 (mvDec_of cd85 rfl) rfl ?_
  refine rc_iconst mq85 (mvDec_of cd85 rfl) (by decide) ?_
  refine rc_istore_n [some (mvR e), some (mvI x1), some (mvI 0), some (mvI 0)] mq85 (mvDec_of cd85 rfl) rfl ?_
  exact H
theorem EV_underWay_4_wp {sw : Bool} {g : Nat → Nat → Nat} {h : Nat → Int → Int} {e : Nat} {l1 : Int} {l2 : Int} {l3 : Int} {K : Int → (Nat → Int → Int) → Prop} (hG : Gok sw g) (he : EvId e) (H :
  (((h e 0) ≤ l3 →
    K l2 h) ∧
  (l3 < (h e 0) →
    EV_countIn g h e l1 l3 (fun r2 h1 =>
      (0 ≤ (mw ((mw (l3 * 10)) + r2)) ∧ (mw ((mw (l3 * 10)) + r2)) < 40) ∧
      (∀ v3, v3 = (mw (l2 + (h1 (e + 7) (mw ((mw (l3 * 10)) + r2))))) →
      EV_underWay_4 g h1 e l1 v3 (mw (l3 + 1)) K))))) : EV_underWay_4 g h e l1 l2 l3 K := by
  refine rc_iload_n mq85 (mvDec_of cd85 rfl) rfl ?_
  refine rc_aload_n mq85 (mvDec_of cd85 rfl) rfl ?_
  refine rc_getI 0 mq85 (mvDec_of cd85 rfl) fl_2_36 (miE0 he) rfl (by decide) (by decide) ?_
  refine rc_icmp_ge (t := 37) mq85 (mvDec_of cd85 rfl) rfl (fun hc => ?_) (fun hc => ?_)
  · replace H := H.1 hc
    refine rc_iload_n mq85 (mvDec_of cd85 rfl) rfl ?_
    exact rc_iret mq85 (mvDec_of cd85 rfl) ⟨_, _, rfl, rfl, H⟩
  · replace H := H.2 hc
    refine rc_iload_n mq85 (mvDec_of cd85 rfl) rfl ?_
    refine rc_aload_n mq85 (mvDec_of cd85 rfl) rfl ?_
    refine rc_getR (e + 7) mq85 (mvDec_of cd85 rfl) fl_2_30 (miE0 he) rfl (mgE8 he hG) (Nat.succ_ne_zero _) ?_
    refine rc_iload_n mq85 (mvDec_of cd85 rfl) rfl ?_
    refine rc_bipush mq85 (mvDec_of cd85 rfl) (by decide) ?_
    refine rc_imul mq85 (mvDec_of cd85 rfl) ?_
    refine rc_aload_n mq85 (mvDec_of cd85 rfl) rfl ?_
    refine rc_iload_n mq85 (mvDec_of cd85 rfl) rfl ?_
    refine rc_iload_n mq85 (mvDec_of cd85 rfl) rfl ?_
    refine rc_callV [mvR e, mvI l1, mvI l3] [mvI (mw (l3 * 10)), mvR (e + 7), mvI l2] [some (mvR e), some (mvI l1), some (mvI l3)] mq85 (mvDec_of cd85 rfl) lk_2_75 mq23 (by decide) rfl rfl (Nat.le_of_ble_eq_true rfl) (Nat.le_of_ble_eq_true rfl) (by decide) rfl (miE0 he) rfl (ri_bind H (fun r2 h1 H => ?_))
    refine rc_iadd mq85 (mvDec_of cd85 rfl) ?_
    obtain ⟨⟨hb0, hb1⟩, H⟩ := H
    refine rc_iald mq85 (mvDec_of cd85 rfl) (miE7 he) hb0 hb1 ?_
    refine rc_iadd mq85 (mvDec_of cd85 rfl) ?_
    refine rc_top (fun v3 hv => ?_)
    replace H := H v3 hv
    refine rc_istore_n [some (mvR e), some (mvI l1), some (mvI v3), some (mvI l3)] mq85 (mvDec_of cd85 rfl) rfl ?_
    refine rc_iinc [some (mvR e), some (mvI l1), some (mvI v3), some (mvI (mw (l3 + 1)))] mq85 (mvDec_of cd85 rfl) rfl rfl ?_
    refine rc_goto (t := 4) mq85 (mvDec_of cd85 rfl) rfl ?_
    exact H
abbrev EV_underWayBetween (g : Nat → Nat → Nat) (h : Nat → Int → Int) (e : Nat) (x1 : Int) (x2 : Int) (x3 : Int) (K : Int → (Nat → Int → Int) → Prop) : Prop := RI 86 0 [some (mvR e), some (mvI x1), some (mvI x2), some (mvI x3), none, none, none, none] [] g h K
abbrev EV_underWayBetween_6 (g : Nat → Nat → Nat) (h : Nat → Int → Int) (e : Nat) (l1 : Int) (l2 : Int) (l3 : Int) (l4 : Int) (l5 : Int) (u6 : Option Int) (u7 : Option Int) (K : Int → (Nat → Int → Int) → Prop) : Prop := RI 86 6 [some (mvR e), some (mvI l1), some (mvI l2), some (mvI l3), some (mvI l4), some (mvI l5), u6.map mvI, u7.map mvI] [] g h K
theorem EV_underWayBetween_wp {sw : Bool} {g : Nat → Nat → Nat} {h : Nat → Int → Int} {e : Nat} {x1 : Int} {x2 : Int} {x3 : Int} {K : Int → (Nat → Int → Int) → Prop} (hG : Gok sw g) (he : EvId e) (H :
  EV_underWayBetween_6 g h e x1 x2 x3 0 0 none none K) : EV_underWayBetween g h e x1 x2 x3 K := by
  refine rc_iconst mq86 (mvDec_of cd86 rfl) (by decide) ?_
  refine rc_istore [some (mvR e), some (mvI x1), some (mvI x2), some (mvI x3), some (mvI 0), none, none, none] mq86 (mvDec_of cd86 rfl) rfl ?_
  refine rc_iconst mq86 (mvDec_of cd86 rfl) (by decide) ?_
  refine rc_istore [some (mvR e), some (mvI x1), some (mvI x2), some (mvI x3), some (mvI 0), some (mvI 0), none, none] mq86 (mvDec_of cd86 rfl) rfl ?_
  exact H
theorem EV_underWayBetween_6_wp {sw : Bool} {g : Nat → Nat → Nat} {h : Nat → Int → Int} {e : Nat} {l1 : Int} {l2 : Int} {l3 : Int} {l4 : Int} {l5 : Int} {u6 : Option Int} {u7 : Option Int} {K : Int → (Nat → Int → Int) → Prop} (hG : Gok sw g) (he : EvId e) (H :
  EV_countIn g h e l1 l2 (fun r2 h1 =>
    ((r2 ≤ l5 →
      K l4 h1) ∧
    (l5 < r2 →
      (∀ v3, v3 = (mw ((mw (l2 * 9)) + l5)) →
      (0 ≤ v3 ∧ v3 < 36) ∧
      ((¬ (h1 (e + 2) v3) = 1 →
        EV_underWayBetween_6 g h1 e l1 l2 l3 l4 (mw (l5 + 1)) (some v3) (some 0) K) ∧
      ((h1 (e + 2) v3) = 1 →
        (0 ≤ v3 ∧ v3 < 36) ∧
        ((¬ (h1 (e + 3) v3) = l3 →
          EV_underWayBetween_6 g h1 e l1 l2 l3 l4 (mw (l5 + 1)) (some v3) (some 0) K) ∧
        ((h1 (e + 3) v3) = l3 →
          (0 ≤ v3 ∧ v3 < 36) ∧
          (((h1 (e + 4) v3) = (-1) →
            EV_underWayBetween_6 g h1 e l1 l2 l3 (mw (l4 + 1)) (mw (l5 + 1)) (some v3) (some 1) K) ∧
          (¬ (h1 (e + 4) v3) = (-1) →
            (0 ≤ v3 ∧ v3 < 36) ∧
            EV_countIn g h1 e l1 l3 (fun r5 h4 =>
              (((h1 (e + 4) v3) < r5 →
                EV_underWayBetween_6 g h4 e l1 l2 l3 l4 (mw (l5 + 1)) (some v3) (some 1) K) ∧
              (r5 ≤ (h1 (e + 4) v3) →
                EV_underWayBetween_6 g h4 e l1 l2 l3 (mw (l4 + 1)) (mw (l5 + 1)) (some v3) (some 1) K)))))))))))))) : EV_underWayBetween_6 g h e l1 l2 l3 l4 l5 u6 u7 K := by
  refine rc_iload mq86 (mvDec_of cd86 rfl) rfl ?_
  refine rc_aload_n mq86 (mvDec_of cd86 rfl) rfl ?_
  refine rc_iload_n mq86 (mvDec_of cd86 rfl) rfl ?_
  refine rc_iload_n mq86 (mvDec_of cd86 rfl) rfl ?_
  refine rc_callV [mvR e, mvI l1, mvI l2] [mvI l5] [some (mvR e), some (mvI l1), some (mvI l2)] mq86 (mvDec_of cd86 rfl) lk_2_75 mq23 (by decide) rfl rfl (Nat.le_of_ble_eq_true rfl) (Nat.le_of_ble_eq_true rfl) (by decide) rfl (miE0 he) rfl (ri_bind H (fun r2 h1 H => ?_))
  refine rc_icmp_ge (t := 96) mq86 (mvDec_of cd86 rfl) rfl (fun hc => ?_) (fun hc => ?_)
  · replace H := H.1 hc
    refine rc_iload mq86 (mvDec_of cd86 rfl) rfl ?_
    exact rc_iret mq86 (mvDec_of cd86 rfl) ⟨_, _, rfl, rfl, H⟩
  · replace H := H.2 hc
    refine rc_iload_n mq86 (mvDec_of cd86 rfl) rfl ?_
    refine rc_bipush mq86 (mvDec_of cd86 rfl) (by decide) ?_
    refine rc_imul mq86 (mvDec_of cd86 rfl) ?_
    refine rc_iload mq86 (mvDec_of cd86 rfl) rfl ?_
    refine rc_iadd mq86 (mvDec_of cd86 rfl) ?_
    refine rc_top (fun v3 hv => ?_)
    replace H := H v3 hv
    refine rc_istore [some (mvR e), some (mvI l1), some (mvI l2), some (mvI l3), some (mvI l4), some (mvI l5), some (mvI v3), u7.map mvI] mq86 (mvDec_of cd86 rfl) rfl ?_
    refine rc_aload_n mq86 (mvDec_of cd86 rfl) rfl ?_
    refine rc_getR (e + 2) mq86 (mvDec_of cd86 rfl) fl_2_15 (miE0 he) rfl (mgE3 he hG) (Nat.succ_ne_zero _) ?_
    refine rc_iload mq86 (mvDec_of cd86 rfl) rfl ?_
    obtain ⟨⟨hb0, hb1⟩, H⟩ := H
    refine rc_iald mq86 (mvDec_of cd86 rfl) (miE2 he) hb0 hb1 ?_
    refine rc_iconst mq86 (mvDec_of cd86 rfl) (by decide) ?_
    refine rc_icmp_ne (t := 52) mq86 (mvDec_of cd86 rfl) rfl (fun hc => ?_) (fun hc => ?_)
    · replace H := H.1 hc
      refine rc_iconst mq86 (mvDec_of cd86 rfl) (by decide) ?_
      refine rc_istore [some (mvR e), some (mvI l1), some (mvI l2), some (mvI l3), some (mvI l4), some (mvI l5), some (mvI v3), some (mvI 0)] mq86 (mvDec_of cd86 rfl) rfl ?_
      refine rc_iload mq86 (mvDec_of cd86 rfl) rfl ?_
      refine rc_ifT (t := 90) mq86 (mvDec_of cd86 rfl) rfl rfl ?_
      refine rc_iinc [some (mvR e), some (mvI l1), some (mvI l2), some (mvI l3), some (mvI l4), some (mvI (mw (l5 + 1))), some (mvI v3), some (mvI 0)] mq86 (mvDec_of cd86 rfl) rfl rfl ?_
      refine rc_goto (t := 6) mq86 (mvDec_of cd86 rfl) rfl ?_
      exact H
    · replace H := H.2 hc
      refine rc_aload_n mq86 (mvDec_of cd86 rfl) rfl ?_
      refine rc_getR (e + 3) mq86 (mvDec_of cd86 rfl) fl_2_18 (miE0 he) rfl (mgE4 he hG) (Nat.succ_ne_zero _) ?_
      refine rc_iload mq86 (mvDec_of cd86 rfl) rfl ?_
      obtain ⟨⟨hb0, hb1⟩, H⟩ := H
      refine rc_iald mq86 (mvDec_of cd86 rfl) (miE3 he) hb0 hb1 ?_
      refine rc_iload_n mq86 (mvDec_of cd86 rfl) rfl ?_
      refine rc_icmp_ne (t := 52) mq86 (mvDec_of cd86 rfl) rfl (fun hc => ?_) (fun hc => ?_)
      · replace H := H.1 hc
        refine rc_iconst mq86 (mvDec_of cd86 rfl) (by decide) ?_
        refine rc_istore [some (mvR e), some (mvI l1), some (mvI l2), some (mvI l3), some (mvI l4), some (mvI l5), some (mvI v3), some (mvI 0)] mq86 (mvDec_of cd86 rfl) rfl ?_
        refine rc_iload mq86 (mvDec_of cd86 rfl) rfl ?_
        refine rc_ifT (t := 90) mq86 (mvDec_of cd86 rfl) rfl rfl ?_
        refine rc_iinc [some (mvR e), some (mvI l1), some (mvI l2), some (mvI l3), some (mvI l4), some (mvI (mw (l5 + 1))), some (mvI v3), some (mvI 0)] mq86 (mvDec_of cd86 rfl) rfl rfl ?_
        refine rc_goto (t := 6) mq86 (mvDec_of cd86 rfl) rfl ?_
        exact H
      · replace H := H.2 hc
        refine rc_iconst mq86 (mvDec_of cd86 rfl) (by decide) ?_
        refine rc_goto (t := 53) mq86 (mvDec_of cd86 rfl) rfl ?_
        refine rc_istore [some (mvR e), some (mvI l1), some (mvI l2), some (mvI l3), some (mvI l4), some (mvI l5), some (mvI v3), some (mvI 1)] mq86 (mvDec_of cd86 rfl) rfl ?_
        refine rc_iload mq86 (mvDec_of cd86 rfl) rfl ?_
        refine rc_ifF (t := 90) mq86 (mvDec_of cd86 rfl) rfl rfl ?_
        refine rc_aload_n mq86 (mvDec_of cd86 rfl) rfl ?_
        refine rc_getR (e + 4) mq86 (mvDec_of cd86 rfl) fl_2_21 (miE0 he) rfl (mgE5 he hG) (Nat.succ_ne_zero _) ?_
        refine rc_iload mq86 (mvDec_of cd86 rfl) rfl ?_
        obtain ⟨⟨hb0, hb1⟩, H⟩ := H
        refine rc_iald mq86 (mvDec_of cd86 rfl) (miE4 he) hb0 hb1 ?_
        refine rc_iconst mq86 (mvDec_of cd86 rfl) (by decide) ?_
        refine rc_icmp_eq (t := 87) mq86 (mvDec_of cd86 rfl) rfl (fun hc => ?_) (fun hc => ?_)
        · replace H := H.1 hc
          refine rc_iinc [some (mvR e), some (mvI l1), some (mvI l2), some (mvI l3), some (mvI (mw (l4 + 1))), some (mvI l5), some (mvI v3), some (mvI 1)] mq86 (mvDec_of cd86 rfl) rfl rfl ?_
          refine rc_iinc [some (mvR e), some (mvI l1), some (mvI l2), some (mvI l3), some (mvI (mw (l4 + 1))), some (mvI (mw (l5 + 1))), some (mvI v3), some (mvI 1)] mq86 (mvDec_of cd86 rfl) rfl rfl ?_
          refine rc_goto (t := 6) mq86 (mvDec_of cd86 rfl) rfl ?_
          exact H
        · replace H := H.2 hc
          refine rc_aload_n mq86 (mvDec_of cd86 rfl) rfl ?_
          refine rc_getR (e + 4) mq86 (mvDec_of cd86 rfl) fl_2_21 (miE0 he) rfl (mgE5 he hG) (Nat.succ_ne_zero _) ?_
          refine rc_iload mq86 (mvDec_of cd86 rfl) rfl ?_
          obtain ⟨⟨hb0, hb1⟩, H⟩ := H
          refine rc_iald mq86 (mvDec_of cd86 rfl) (miE4 he) hb0 hb1 ?_
          refine rc_aload_n mq86 (mvDec_of cd86 rfl) rfl ?_
          refine rc_iload_n mq86 (mvDec_of cd86 rfl) rfl ?_
          refine rc_iload_n mq86 (mvDec_of cd86 rfl) rfl ?_
          refine rc_callV [mvR e, mvI l1, mvI l3] [mvI (h1 (e + 4) v3)] [some (mvR e), some (mvI l1), some (mvI l3)] mq86 (mvDec_of cd86 rfl) lk_2_75 mq23 (by decide) rfl rfl (Nat.le_of_ble_eq_true rfl) (Nat.le_of_ble_eq_true rfl) (by decide) rfl (miE0 he) rfl (ri_bind H (fun r5 h4 H => ?_))
          refine rc_icmp_lt (t := 90) mq86 (mvDec_of cd86 rfl) rfl (fun hc => ?_) (fun hc => ?_)
          · replace H := H.1 hc
            refine rc_iinc [some (mvR e), some (mvI l1), some (mvI l2), some (mvI l3), some (mvI l4), some (mvI (mw (l5 + 1))), some (mvI v3), some (mvI 1)] mq86 (mvDec_of cd86 rfl) rfl rfl ?_
            refine rc_goto (t := 6) mq86 (mvDec_of cd86 rfl) rfl ?_
            exact H
          · replace H := H.2 hc
            refine rc_iinc [some (mvR e), some (mvI l1), some (mvI l2), some (mvI l3), some (mvI (mw (l4 + 1))), some (mvI l5), some (mvI v3), some (mvI 1)] mq86 (mvDec_of cd86 rfl) rfl rfl ?_
            refine rc_iinc [some (mvR e), some (mvI l1), some (mvI l2), some (mvI l3), some (mvI (mw (l4 + 1))), some (mvI (mw (l5 + 1))), some (mvI v3), some (mvI 1)] mq86 (mvDec_of cd86 rfl) rfl rfl ?_
            refine rc_goto (t := 6) mq86 (mvDec_of cd86 rfl) rfl ?_
            exact H
abbrev EV_combine (g : Nat → Nat → Nat) (h : Nat → Int → Int) (e : Nat) (x1 : Int) (x2 : Int) (x3 : Int) (K : Int → (Nat → Int → Int) → Prop) : Prop := RI 87 0 [some (mvR e), some (mvI x1), some (mvI x2), some (mvI x3), none, none, none, none] [] g h K
abbrev EV_combine_6 (g : Nat → Nat → Nat) (h : Nat → Int → Int) (e : Nat) (l1 : Int) (l2 : Int) (l3 : Int) (l4 : Int) (l5 : Int) (u6 : Option Int) (u7 : Option Int) (K : Int → (Nat → Int → Int) → Prop) : Prop := RI 87 6 [some (mvR e), some (mvI l1), some (mvI l2), some (mvI l3), some (mvI l4), some (mvI l5), u6.map mvI, u7.map mvI] [] g h K
theorem EV_combine_wp {sw : Bool} {g : Nat → Nat → Nat} {h : Nat → Int → Int} {e : Nat} {x1 : Int} {x2 : Int} {x3 : Int} {K : Int → (Nat → Int → Int) → Prop} (hG : Gok sw g) (he : EvId e) (H :
  EV_combine_6 g h e x1 x2 x3 0 0 none none K) : EV_combine g h e x1 x2 x3 K := by
  refine rc_iconst mq87 (mvDec_of cd87 rfl) (by decide) ?_
  refine rc_istore [some (mvR e), some (mvI x1), some (mvI x2), some (mvI x3), some (mvI 0), none, none, none] mq87 (mvDec_of cd87 rfl) rfl ?_
  refine rc_iconst mq87 (mvDec_of cd87 rfl) (by decide) ?_
  refine rc_istore [some (mvR e), some (mvI x1), some (mvI x2), some (mvI x3), some (mvI 0), some (mvI 0), none, none] mq87 (mvDec_of cd87 rfl) rfl ?_
  exact H
theorem EV_combine_6_wp {sw : Bool} {g : Nat → Nat → Nat} {h : Nat → Int → Int} {e : Nat} {l1 : Int} {l2 : Int} {l3 : Int} {l4 : Int} {l5 : Int} {u6 : Option Int} {u7 : Option Int} {K : Int → (Nat → Int → Int) → Prop} (hG : Gok sw g) (he : EvId e) (H :
  (((h e 0) ≤ l5 →
    K l4 h) ∧
  (l5 < (h e 0) →
    EV_countIn g h e l1 l5 (fun r2 h1 =>
      EV_countIn g h1 e l2 l5 (fun r4 h3 =>
        ((l3 = 0 →
          (∀ v5, v5 = (mw ((mw (l4 * 10)) + (if r4 < r2 then r4 else r2))) →
          EV_combine_6 g h3 e l1 l2 l3 v5 (mw (l5 + 1)) (some r2) (some r4) K)) ∧
        (¬ l3 = 0 →
          (∀ v6, v6 = (mw ((mw (l4 * 10)) + (if r2 < r4 then r4 else r2))) →
          EV_combine_6 g h3 e l1 l2 l3 v6 (mw (l5 + 1)) (some r2) (some r4) K)))))))) : EV_combine_6 g h e l1 l2 l3 l4 l5 u6 u7 K := by
  refine rc_iload mq87 (mvDec_of cd87 rfl) rfl ?_
  refine rc_aload_n mq87 (mvDec_of cd87 rfl) rfl ?_
  refine rc_getI 0 mq87 (mvDec_of cd87 rfl) fl_2_36 (miE0 he) rfl (by decide) (by decide) ?_
  refine rc_icmp_ge (t := 68) mq87 (mvDec_of cd87 rfl) rfl (fun hc => ?_) (fun hc => ?_)
  · replace H := H.1 hc
    refine rc_iload mq87 (mvDec_of cd87 rfl) rfl ?_
    exact rc_iret mq87 (mvDec_of cd87 rfl) ⟨_, _, rfl, rfl, H⟩
  · replace H := H.2 hc
    refine rc_aload_n mq87 (mvDec_of cd87 rfl) rfl ?_
    refine rc_iload_n mq87 (mvDec_of cd87 rfl) rfl ?_
    refine rc_iload mq87 (mvDec_of cd87 rfl) rfl ?_
    refine rc_callV [mvR e, mvI l1, mvI l5] [] [some (mvR e), some (mvI l1), some (mvI l5)] mq87 (mvDec_of cd87 rfl) lk_2_75 mq23 (by decide) rfl rfl (Nat.le_of_ble_eq_true rfl) (Nat.le_of_ble_eq_true rfl) (by decide) rfl (miE0 he) rfl (ri_bind H (fun r2 h1 H => ?_))
    refine rc_istore [some (mvR e), some (mvI l1), some (mvI l2), some (mvI l3), some (mvI l4), some (mvI l5), some (mvI r2), u7.map mvI] mq87 (mvDec_of cd87 rfl) rfl ?_
    refine rc_aload_n mq87 (mvDec_of cd87 rfl) rfl ?_
    refine rc_iload_n mq87 (mvDec_of cd87 rfl) rfl ?_
    refine rc_iload mq87 (mvDec_of cd87 rfl) rfl ?_
    refine rc_callV [mvR e, mvI l2, mvI l5] [] [some (mvR e), some (mvI l2), some (mvI l5)] mq87 (mvDec_of cd87 rfl) lk_2_75 mq23 (by decide) rfl rfl (Nat.le_of_ble_eq_true rfl) (Nat.le_of_ble_eq_true rfl) (by decide) rfl (miE0 he) rfl (ri_bind H (fun r4 h3 H => ?_))
    refine rc_istore [some (mvR e), some (mvI l1), some (mvI l2), some (mvI l3), some (mvI l4), some (mvI l5), some (mvI r2), some (mvI r4)] mq87 (mvDec_of cd87 rfl) rfl ?_
    refine rc_iload mq87 (mvDec_of cd87 rfl) rfl ?_
    refine rc_bipush mq87 (mvDec_of cd87 rfl) (by decide) ?_
    refine rc_imul mq87 (mvDec_of cd87 rfl) ?_
    refine rc_iload_n mq87 (mvDec_of cd87 rfl) rfl ?_
    refine rc_if_eq (t := 52) mq87 (mvDec_of cd87 rfl) rfl (fun hc => ?_) (fun hc => ?_)
    · replace H := H.1 hc
      refine rc_iload mq87 (mvDec_of cd87 rfl) rfl ?_
      refine rc_iload mq87 (mvDec_of cd87 rfl) rfl ?_
      refine rc_min mq87 (mvDec_of cd87 rfl) lk_2_100 ⟨by decide, Nat.le_of_ble_eq_true rfl⟩ ?_
      refine rc_iadd mq87 (mvDec_of cd87 rfl) ?_
      refine rc_top (fun v5 hv => ?_)
      replace H := H v5 hv
      refine rc_istore [some (mvR e), some (mvI l1), some (mvI l2), some (mvI l3), some (mvI v5), some (mvI l5), some (mvI r2), some (mvI r4)] mq87 (mvDec_of cd87 rfl) rfl ?_
      refine rc_iinc [some (mvR e), some (mvI l1), some (mvI l2), some (mvI l3), some (mvI v5), some (mvI (mw (l5 + 1))), some (mvI r2), some (mvI r4)] mq87 (mvDec_of cd87 rfl) rfl rfl ?_
      refine rc_goto (t := 6) mq87 (mvDec_of cd87 rfl) rfl ?_
      exact H
    · replace H := H.2 hc
      refine rc_iload mq87 (mvDec_of cd87 rfl) rfl ?_
      refine rc_iload mq87 (mvDec_of cd87 rfl) rfl ?_
      refine rc_max mq87 (mvDec_of cd87 rfl) lk_2_86 ⟨by decide, Nat.le_of_ble_eq_true rfl⟩ ?_
      refine rc_goto (t := 59) mq87 (mvDec_of cd87 rfl) rfl ?_
      refine rc_iadd mq87 (mvDec_of cd87 rfl) ?_
      refine rc_top (fun v6 hv => ?_)
      replace H := H v6 hv
      refine rc_istore [some (mvR e), some (mvI l1), some (mvI l2), some (mvI l3), some (mvI v6), some (mvI l5), some (mvI r2), some (mvI r4)] mq87 (mvDec_of cd87 rfl) rfl ?_
      refine rc_iinc [some (mvR e), some (mvI l1), some (mvI l2), some (mvI l3), some (mvI v6), some (mvI (mw (l5 + 1))), some (mvI r2), some (mvI r4)] mq87 (mvDec_of cd87 rfl) rfl rfl ?_
      refine rc_goto (t := 6) mq87 (mvDec_of cd87 rfl) rfl ?_
      exact H
abbrev EV_isConsistent (g : Nat → Nat → Nat) (h : Nat → Int → Int) (e : Nat) (x1 : Int) (K : Int → (Nat → Int → Int) → Prop) : Prop := RI 149 0 [some (mvR e), some (mvI x1), none, none] [] g h K
abbrev EV_isConsistent_2 (g : Nat → Nat → Nat) (h : Nat → Int → Int) (e : Nat) (l1 : Int) (l2 : Int) (u3 : Option Int) (K : Int → (Nat → Int → Int) → Prop) : Prop := RI 149 2 [some (mvR e), some (mvI l1), some (mvI l2), u3.map mvI] [] g h K
theorem EV_isConsistent_wp {sw : Bool} {g : Nat → Nat → Nat} {h : Nat → Int → Int} {e : Nat} {x1 : Int} {K : Int → (Nat → Int → Int) → Prop} (hG : Gok sw g) (he : EvId e) (H :
  EV_isConsistent_2 g h e x1 0 none K) : EV_isConsistent g h e x1 K := by
  refine rc_iconst mq149 (mvDec_of cd149 rfl) (by decide) ?_
  refine rc_istore_n [some (mvR e), some (mvI x1), some (mvI 0), none] mq149 (mvDec_of cd149 rfl) rfl ?_
  exact H
theorem EV_isConsistent_2_wp {sw : Bool} {g : Nat → Nat → Nat} {h : Nat → Int → Int} {e : Nat} {l1 : Int} {l2 : Int} {u3 : Option Int} {K : Int → (Nat → Int → Int) → Prop} (hG : Gok sw g) (he : EvId e) (H :
  (((h e 0) ≤ l2 →
    K 1 h) ∧
  (l2 < (h e 0) →
    EV_countIn g h e l1 l2 (fun r2 h1 =>
      (∀ v3, v3 = (mw (r2 - 1)) →
      ((v3 < 0 →
        EV_isConsistent_2 g h1 e l1 (mw (l2 + 1)) (some v3) K) ∧
      (0 ≤ v3 →
        EV_hasPastIn g h1 e l1 (mw ((mw (l2 * 9)) + v3)) (fun r5 h4 =>
          ((¬ r5 = 0 →
            EV_isConsistent_2 g h4 e l1 (mw (l2 + 1)) (some v3) K) ∧
          (r5 = 0 →
            K 0 h4)))))))))) : EV_isConsistent_2 g h e l1 l2 u3 K := by
  refine rc_iload_n mq149 (mvDec_of cd149 rfl) rfl ?_
  refine rc_aload_n mq149 (mvDec_of cd149 rfl) rfl ?_
  refine rc_getI 0 mq149 (mvDec_of cd149 rfl) fl_2_36 (miE0 he) rfl (by decide) (by decide) ?_
  refine rc_icmp_ge (t := 45) mq149 (mvDec_of cd149 rfl) rfl (fun hc => ?_) (fun hc => ?_)
  · replace H := H.1 hc
    refine rc_iconst mq149 (mvDec_of cd149 rfl) (by decide) ?_
    exact rc_zret mq149 (mvDec_of cd149 rfl) (Or.inr rfl) ⟨_, _, rfl, rfl, H⟩
  · replace H := H.2 hc
    refine rc_aload_n mq149 (mvDec_of cd149 rfl) rfl ?_
    refine rc_iload_n mq149 (mvDec_of cd149 rfl) rfl ?_
    refine rc_iload_n mq149 (mvDec_of cd149 rfl) rfl ?_
    refine rc_callV [mvR e, mvI l1, mvI l2] [] [some (mvR e), some (mvI l1), some (mvI l2)] mq149 (mvDec_of cd149 rfl) lk_2_75 mq23 (by decide) rfl rfl (Nat.le_of_ble_eq_true rfl) (Nat.le_of_ble_eq_true rfl) (by decide) rfl (miE0 he) rfl (ri_bind H (fun r2 h1 H => ?_))
    refine rc_iconst mq149 (mvDec_of cd149 rfl) (by decide) ?_
    refine rc_isub mq149 (mvDec_of cd149 rfl) ?_
    refine rc_top (fun v3 hv => ?_)
    replace H := H v3 hv
    refine rc_istore_n [some (mvR e), some (mvI l1), some (mvI l2), some (mvI v3)] mq149 (mvDec_of cd149 rfl) rfl ?_
    refine rc_iload_n mq149 (mvDec_of cd149 rfl) rfl ?_
    refine rc_if_lt (t := 39) mq149 (mvDec_of cd149 rfl) rfl (fun hc => ?_) (fun hc => ?_)
    · replace H := H.1 hc
      refine rc_iinc [some (mvR e), some (mvI l1), some (mvI (mw (l2 + 1))), some (mvI v3)] mq149 (mvDec_of cd149 rfl) rfl rfl ?_
      refine rc_goto (t := 2) mq149 (mvDec_of cd149 rfl) rfl ?_
      exact H
    · replace H := H.2 hc
      refine rc_aload_n mq149 (mvDec_of cd149 rfl) rfl ?_
      refine rc_iload_n mq149 (mvDec_of cd149 rfl) rfl ?_
      refine rc_iload_n mq149 (mvDec_of cd149 rfl) rfl ?_
      refine rc_bipush mq149 (mvDec_of cd149 rfl) (by decide) ?_
      refine rc_imul mq149 (mvDec_of cd149 rfl) ?_
      refine rc_iload_n mq149 (mvDec_of cd149 rfl) rfl ?_
      refine rc_iadd mq149 (mvDec_of cd149 rfl) ?_
      refine rc_callV [mvR e, mvI l1, mvI (mw ((mw (l2 * 9)) + v3))] [] [some (mvR e), some (mvI l1), some (mvI (mw ((mw (l2 * 9)) + v3))), none] mq149 (mvDec_of cd149 rfl) lk_2_94 mq83 (by decide) rfl rfl (Nat.le_of_ble_eq_true rfl) (Nat.le_of_ble_eq_true rfl) (by decide) rfl (miE0 he) rfl (ri_bind H (fun r5 h4 H => ?_))
      refine rc_if_ne (t := 39) mq149 (mvDec_of cd149 rfl) rfl (fun hc => ?_) (fun hc => ?_)
      · replace H := H.1 hc
        refine rc_iinc [some (mvR e), some (mvI l1), some (mvI (mw (l2 + 1))), some (mvI v3)] mq149 (mvDec_of cd149 rfl) rfl rfl ?_
        refine rc_goto (t := 2) mq149 (mvDec_of cd149 rfl) rfl ?_
        exact H
      · replace H := H.2 hc
        refine rc_iconst mq149 (mvDec_of cd149 rfl) (by decide) ?_
        exact rc_zret mq149 (mvDec_of cd149 rfl) (Or.inl rfl) ⟨_, _, rfl, rfl, H⟩
abbrev EV_followers (g : Nat → Nat → Nat) (h : Nat → Int → Int) (e : Nat) (x1 : Int) (K : Int → (Nat → Int → Int) → Prop) : Prop := RI 150 0 [some (mvR e), some (mvI x1), none, none] [] g h K
abbrev EV_followers_4 (g : Nat → Nat → Nat) (h : Nat → Int → Int) (e : Nat) (l1 : Int) (l2 : Int) (l3 : Int) (K : Int → (Nat → Int → Int) → Prop) : Prop := RI 150 4 [some (mvR e), some (mvI l1), some (mvI l2), some (mvI l3)] [] g h K
theorem EV_followers_wp {sw : Bool} {g : Nat → Nat → Nat} {h : Nat → Int → Int} {e : Nat} {x1 : Int} {K : Int → (Nat → Int → Int) → Prop} (hG : Gok sw g) (he : EvId e) (H :
  EV_followers_4 g h e x1 0 0 K) : EV_followers g h e x1 K := by
  refine rc_iconst mq150 (mvDec_of cd150 rfl) (by decide) ?_
  refine rc_istore_n [some (mvR e), some (mvI x1), some (mvI 0), none] mq150 (mvDec_of cd150 rfl) rfl ?_
  refine rc_iconst mq150 (mvDec_of cd150 rfl) (by decide) ?_
  refine rc_istore_n [some (mvR e), some (mvI x1), some (mvI 0), some (mvI 0)] mq150 (mvDec_of cd150 rfl) rfl ?_
  exact H
theorem EV_followers_4_wp {sw : Bool} {g : Nat → Nat → Nat} {h : Nat → Int → Int} {e : Nat} {l1 : Int} {l2 : Int} {l3 : Int} {K : Int → (Nat → Int → Int) → Prop} (hG : Gok sw g) (he : EvId e) (H :
  (((h e 0) ≤ l3 →
    K l2 h) ∧
  (l3 < (h e 0) →
    EV_canFollow g h e l1 l3 (fun r2 h1 =>
      ((r2 = 0 →
        EV_followers_4 g h1 e l1 l2 (mw (l3 + 1)) K) ∧
      (¬ r2 = 0 →
        (∀ v3, v3 = (mvOr l2 (mvShl 1 l3)) →
        EV_followers_4 g h1 e l1 v3 (mw (l3 + 1)) K))))))) : EV_followers_4 g h e l1 l2 l3 K := by
  refine rc_iload_n mq150 (mvDec_of cd150 rfl) rfl ?_
  refine rc_aload_n mq150 (mvDec_of cd150 rfl) rfl ?_
  refine rc_getI 0 mq150 (mvDec_of cd150 rfl) fl_2_36 (miE0 he) rfl (by decide) (by decide) ?_
  refine rc_icmp_ge (t := 33) mq150 (mvDec_of cd150 rfl) rfl (fun hc => ?_) (fun hc => ?_)
  · replace H := H.1 hc
    refine rc_iload_n mq150 (mvDec_of cd150 rfl) rfl ?_
    exact rc_iret mq150 (mvDec_of cd150 rfl) ⟨_, _, rfl, rfl, H⟩
  · replace H := H.2 hc
    refine rc_aload_n mq150 (mvDec_of cd150 rfl) rfl ?_
    refine rc_iload_n mq150 (mvDec_of cd150 rfl) rfl ?_
    refine rc_iload_n mq150 (mvDec_of cd150 rfl) rfl ?_
    refine rc_callV [mvR e, mvI l1, mvI l3] [] [some (mvR e), some (mvI l1), some (mvI l3), none, none] mq150 (mvDec_of cd150 rfl) lk_2_97 mq84 (by decide) rfl rfl (Nat.le_of_ble_eq_true rfl) (Nat.le_of_ble_eq_true rfl) (by decide) rfl (miE0 he) rfl (ri_bind H (fun r2 h1 H => ?_))
    refine rc_if_eq (t := 27) mq150 (mvDec_of cd150 rfl) rfl (fun hc => ?_) (fun hc => ?_)
    · replace H := H.1 hc
      refine rc_iinc [some (mvR e), some (mvI l1), some (mvI l2), some (mvI (mw (l3 + 1)))] mq150 (mvDec_of cd150 rfl) rfl rfl ?_
      refine rc_goto (t := 4) mq150 (mvDec_of cd150 rfl) rfl ?_
      exact H
    · replace H := H.2 hc
      refine rc_iload_n mq150 (mvDec_of cd150 rfl) rfl ?_
      refine rc_iconst mq150 (mvDec_of cd150 rfl) (by decide) ?_
      refine rc_iload_n mq150 (mvDec_of cd150 rfl) rfl ?_
      refine rc_ishl mq150 (mvDec_of cd150 rfl) ?_
      refine rc_ior mq150 (mvDec_of cd150 rfl) ?_
      refine rc_top (fun v3 hv => ?_)
      replace H := H v3 hv
      refine rc_istore_n [some (mvR e), some (mvI l1), some (mvI v3), some (mvI l3)] mq150 (mvDec_of cd150 rfl) rfl ?_
      refine rc_iinc [some (mvR e), some (mvI l1), some (mvI v3), some (mvI (mw (l3 + 1)))] mq150 (mvDec_of cd150 rfl) rfl rfl ?_
      refine rc_goto (t := 4) mq150 (mvDec_of cd150 rfl) rfl ?_
      exact H
abbrev EV_findVectors (g : Nat → Nat → Nat) (h : Nat → Int → Int) (e : Nat) (K : Int → (Nat → Int → Int) → Prop) : Prop := RI 182 0 [some (mvR e), none, none, none] [] g h K
abbrev EV_findVectors_4 (g : Nat → Nat → Nat) (h : Nat → Int → Int) (e : Nat) (l1 : Int) (l2 : Int) (u3 : Option Int) (K : Int → (Nat → Int → Int) → Prop) : Prop := RI 182 4 [some (mvR e), some (mvI l1), some (mvI l2), u3.map mvI] [] g h K
theorem EV_findVectors_wp {sw : Bool} {g : Nat → Nat → Nat} {h : Nat → Int → Int} {e : Nat} {K : Int → (Nat → Int → Int) → Prop} (hG : Gok sw g) (he : EvId e) (H :
  EV_findVectors_4 g h e 0 0 none K) : EV_findVectors g h e K := by
  refine rc_iconst mq182 (mvDec_of cd182 rfl) (by decide) ?_
  refine rc_istore_n [some (mvR e), some (mvI 0), none, none] mq182 (mvDec_of cd182 rfl) rfl ?_
  refine rc_iconst mq182 (mvDec_of cd182 rfl) (by decide) ?_
  refine rc_istore_n [some (mvR e), some (mvI 0), some (mvI 0), none] mq182 (mvDec_of cd182 rfl) rfl ?_
  exact H
theorem EV_findVectors_4_wp {sw : Bool} {g : Nat → Nat → Nat} {h : Nat → Int → Int} {e : Nat} {l1 : Int} {l2 : Int} {u3 : Option Int} {K : Int → (Nat → Int → Int) → Prop} (hG : Gok sw g) (he : EvId e) (H :
  (((h e 1) ≤ l2 →
    K 1 h) ∧
  (l2 < (h e 1) →
    EV_followers g h e l1 (fun r2 h1 =>
      EV_firstOf g h1 r2 (fun r4 h3 =>
        ((¬ r4 = (-1) →
          EV_countIn g h3 e l1 r4 (fun r6 h5 =>
            EV_findVector g h5 e r4 r6 (fun h7 =>
              EV_with g h7 e l1 r4 (fun r9 h8 =>
                EV_findVectors_4 g h8 e r9 (mw (l2 + 1)) (some r4) K)))) ∧
        (r4 = (-1) →
          K 0 h3))))))) : EV_findVectors_4 g h e l1 l2 u3 K := by
  refine rc_iload_n mq182 (mvDec_of cd182 rfl) rfl ?_
  refine rc_aload_n mq182 (mvDec_of cd182 rfl) rfl ?_
  refine rc_getI 1 mq182 (mvDec_of cd182 rfl) fl_2_40 (miE0 he) rfl (by decide) (by decide) ?_
  refine rc_icmp_ge (t := 52) mq182 (mvDec_of cd182 rfl) rfl (fun hc => ?_) (fun hc => ?_)
  · replace H := H.1 hc
    refine rc_iconst mq182 (mvDec_of cd182 rfl) (by decide) ?_
    exact rc_zret mq182 (mvDec_of cd182 rfl) (Or.inr rfl) ⟨_, _, rfl, rfl, H⟩
  · replace H := H.2 hc
    refine rc_aload_n mq182 (mvDec_of cd182 rfl) rfl ?_
    refine rc_iload_n mq182 (mvDec_of cd182 rfl) rfl ?_
    refine rc_callV [mvR e, mvI l1] [] [some (mvR e), some (mvI l1), none, none] mq182 (mvDec_of cd182 rfl) lk_2_68 mq150 (by decide) rfl rfl (Nat.le_of_ble_eq_true rfl) (Nat.le_of_ble_eq_true rfl) (by decide) rfl (miE0 he) rfl (ri_bind H (fun r2 h1 H => ?_))
    refine rc_callS [mvI r2] [] [some (mvI r2), none] mq182 (mvDec_of cd182 rfl) lk_2_72 mq14 (by decide) rfl rfl (Nat.le_of_ble_eq_true rfl) (Nat.le_of_ble_eq_true rfl) (by decide) rfl (ri_bind H (fun r4 h3 H => ?_))
    refine rc_istore_n [some (mvR e), some (mvI l1), some (mvI l2), some (mvI r4)] mq182 (mvDec_of cd182 rfl) rfl ?_
    refine rc_iload_n mq182 (mvDec_of cd182 rfl) rfl ?_
    refine rc_iconst mq182 (mvDec_of cd182 rfl) (by decide) ?_
    refine rc_icmp_ne (t := 28) mq182 (mvDec_of cd182 rfl) rfl (fun hc => ?_) (fun hc => ?_)
    · replace H := H.1 hc
      refine rc_aload_n mq182 (mvDec_of cd182 rfl) rfl ?_
      refine rc_iload_n mq182 (mvDec_of cd182 rfl) rfl ?_
      refine rc_aload_n mq182 (mvDec_of cd182 rfl) rfl ?_
      refine rc_iload_n mq182 (mvDec_of cd182 rfl) rfl ?_
      refine rc_iload_n mq182 (mvDec_of cd182 rfl) rfl ?_
      refine rc_callV [mvR e, mvI l1, mvI r4] [mvI r4, mvR e] [some (mvR e), some (mvI l1), some (mvI r4)] mq182 (mvDec_of cd182 rfl) lk_2_75 mq23 (by decide) rfl rfl (Nat.le_of_ble_eq_true rfl) (Nat.le_of_ble_eq_true rfl) (by decide) rfl (miE0 he) rfl (ri_bind H (fun r6 h5 H => ?_))
      refine rc_callV [mvR e, mvI r4, mvI r6] [] [some (mvR e), some (mvI r4), some (mvI r6), none, none, none, none] mq182 (mvDec_of cd182 rfl) lk_2_79 mq81 (by decide) rfl rfl (Nat.le_of_ble_eq_true rfl) (Nat.le_of_ble_eq_true rfl) (by decide) rfl (miE0 he) rfl (rv_bind H (fun h7 H => ?_))
      refine rc_aload_n mq182 (mvDec_of cd182 rfl) rfl ?_
      refine rc_iload_n mq182 (mvDec_of cd182 rfl) rfl ?_
      refine rc_iload_n mq182 (mvDec_of cd182 rfl) rfl ?_
      refine rc_callV [mvR e, mvI l1, mvI r4] [] [some (mvR e), some (mvI l1), some (mvI r4)] mq182 (mvDec_of cd182 rfl) lk_2_83 mq24 (by decide) rfl rfl (Nat.le_of_ble_eq_true rfl) (Nat.le_of_ble_eq_true rfl) (by decide) rfl (miE0 he) rfl (ri_bind H (fun r9 h8 H => ?_))
      refine rc_istore_n [some (mvR e), some (mvI r9), some (mvI l2), some (mvI r4)] mq182 (mvDec_of cd182 rfl) rfl ?_
      refine rc_iinc [some (mvR e), some (mvI r9), some (mvI (mw (l2 + 1))), some (mvI r4)] mq182 (mvDec_of cd182 rfl) rfl rfl ?_
      refine rc_goto (t := 4) mq182 (mvDec_of cd182 rfl) rfl ?_
      exact H
    · replace H := H.2 hc
      refine rc_iconst mq182 (mvDec_of cd182 rfl) (by decide) ?_
      exact rc_zret mq182 (mvDec_of cd182 rfl) (Or.inl rfl) ⟨_, _, rfl, rfl, H⟩
abbrev EV_link (g : Nat → Nat → Nat) (h : Nat → Int → Int) (e : Nat) (K : Int → (Nat → Int → Int) → Prop) : Prop := RI 207 0 [some (mvR e), none] [] g h K
abbrev EV_link_18 (g : Nat → Nat → Nat) (h : Nat → Int → Int) (e : Nat) (l1 : Int) (K : Int → (Nat → Int → Int) → Prop) : Prop := RI 207 18 [some (mvR e), some (mvI l1)] [] g h K
theorem EV_link_wp {sw : Bool} {g : Nat → Nat → Nat} {h : Nat → Int → Int} {e : Nat} {K : Int → (Nat → Int → Int) → Prop} (hG : Gok sw g) (he : EvId e) (H :
  EV_pairMessages g h e (fun r2 h1 =>
    ((r2 = 0 →
      K 0 h1) ∧
    (¬ r2 = 0 →
      EV_findVectors g h1 e (fun r4 h3 =>
        ((¬ r4 = 0 →
          EV_link_18 g h3 e 0 K) ∧
        (r4 = 0 →
          K 0 h3))))))) : EV_link g h e K := by
  refine rc_aload_n mq207 (mvDec_of cd207 rfl) rfl ?_
  refine rc_callV [mvR e] [] [some (mvR e), none, none] mq207 (mvDec_of cd207 rfl) lk_2_53 mq80 (by decide) rfl rfl (Nat.le_of_ble_eq_true rfl) (Nat.le_of_ble_eq_true rfl) (by decide) rfl (miE0 he) rfl (ri_bind H (fun r2 h1 H => ?_))
  refine rc_if_eq (t := 14) mq207 (mvDec_of cd207 rfl) rfl (fun hc => ?_) (fun hc => ?_)
  · replace H := H.1 hc
    refine rc_iconst mq207 (mvDec_of cd207 rfl) (by decide) ?_
    exact rc_zret mq207 (mvDec_of cd207 rfl) (Or.inl rfl) ⟨_, _, rfl, rfl, H⟩
  · replace H := H.2 hc
    refine rc_aload_n mq207 (mvDec_of cd207 rfl) rfl ?_
    refine rc_callV [mvR e] [] [some (mvR e), none, none, none] mq207 (mvDec_of cd207 rfl) lk_2_57 mq182 (by decide) rfl rfl (Nat.le_of_ble_eq_true rfl) (Nat.le_of_ble_eq_true rfl) (by decide) rfl (miE0 he) rfl (ri_bind H (fun r4 h3 H => ?_))
    refine rc_if_ne (t := 16) mq207 (mvDec_of cd207 rfl) rfl (fun hc => ?_) (fun hc => ?_)
    · replace H := H.1 hc
      refine rc_iconst mq207 (mvDec_of cd207 rfl) (by decide) ?_
      refine rc_istore_n [some (mvR e), some (mvI 0)] mq207 (mvDec_of cd207 rfl) rfl ?_
      exact H
    · replace H := H.2 hc
      refine rc_iconst mq207 (mvDec_of cd207 rfl) (by decide) ?_
      exact rc_zret mq207 (mvDec_of cd207 rfl) (Or.inl rfl) ⟨_, _, rfl, rfl, H⟩
theorem EV_link_18_wp {sw : Bool} {g : Nat → Nat → Nat} {h : Nat → Int → Int} {e : Nat} {l1 : Int} {K : Int → (Nat → Int → Int) → Prop} (hG : Gok sw g) (he : EvId e) (H :
  (((h e 0) ≤ l1 →
    K 1 h) ∧
  (l1 < (h e 0) →
    EV_followProcess g h e l1 (fun h1 =>
      EV_link_18 g h1 e (mw (l1 + 1)) K)))) : EV_link_18 g h e l1 K := by
  refine rc_iload_n mq207 (mvDec_of cd207 rfl) rfl ?_
  refine rc_aload_n mq207 (mvDec_of cd207 rfl) rfl ?_
  refine rc_getI 0 mq207 (mvDec_of cd207 rfl) fl_2_36 (miE0 he) rfl (by decide) (by decide) ?_
  refine rc_icmp_ge (t := 37) mq207 (mvDec_of cd207 rfl) rfl (fun hc => ?_) (fun hc => ?_)
  · replace H := H.1 hc
    refine rc_iconst mq207 (mvDec_of cd207 rfl) (by decide) ?_
    exact rc_zret mq207 (mvDec_of cd207 rfl) (Or.inr rfl) ⟨_, _, rfl, rfl, H⟩
  · replace H := H.2 hc
    refine rc_aload_n mq207 (mvDec_of cd207 rfl) rfl ?_
    refine rc_iload_n mq207 (mvDec_of cd207 rfl) rfl ?_
    refine rc_callV [mvR e, mvI l1] [] [some (mvR e), some (mvI l1), none, none, none, none] mq207 (mvDec_of cd207 rfl) lk_2_60 mq15 (by decide) rfl rfl (Nat.le_of_ble_eq_true rfl) (Nat.le_of_ble_eq_true rfl) (by decide) rfl (miE0 he) rfl (rv_bind H (fun h1 H => ?_))
    refine rc_iinc [some (mvR e), some (mvI (mw (l1 + 1)))] mq207 (mvDec_of cd207 rfl) rfl rfl ?_
    refine rc_goto (t := 18) mq207 (mvDec_of cd207 rfl) rfl ?_
    exact H
