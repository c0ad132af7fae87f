/-! out of the bytecode, by program: what suffices for a method (_wp), for a loop at its head (_place_wp) -/
abbrev MD_blank (g : Nat → Nat → Nat) (h : Nat → Int → Int)  (K : Int → (Nat → Int → Int) → Prop) : Prop := RI 39 0 [some (mvR 68), none] [] g h K
theorem MD_blank_wp {sw : Bool} {g : Nat → Nat → Nat} {h : Nat → Int → Int}  {K : Int → (Nat → Int → Int) → Prop} (hG : Gok sw g)  (H :
  (∀ v1, v1 = (h 68 17) →
  (∀ h2, h2 = mvUpd h 68 17 0 →
  K v1 h2))) : MD_blank g h  K := by
  refine rc_aload_n mq39 (mvDec_of cd39 rfl) rfl ?_
  refine rc_getI 17 mq39 (mvDec_of cd39 rfl) fl_10_99 mis68 rfl (by decide) (by decide) ?_
  refine rc_top (fun v1 hv => ?_)
  replace H := H v1 hv
  refine rc_istore_n [some (mvR 68), some (mvI v1)] mq39 (mvDec_of cd39 rfl) rfl ?_
  refine rc_aload_n mq39 (mvDec_of cd39 rfl) rfl ?_
  refine rc_iconst mq39 (mvDec_of cd39 rfl) (by decide) ?_
  refine rc_putI 17 mq39 (mvDec_of cd39 rfl) fl_10_99 mis68 rfl (fun z => absurd z (by decide)) (Or.inl rfl) ?_
  refine rc_heap (fun h2 hh => ?_)
  replace H := H h2 hh
  refine rc_iload_n mq39 (mvDec_of cd39 rfl) rfl ?_
  exact rc_iret mq39 (mvDec_of cd39 rfl) ⟨_, _, rfl, rfl, H⟩
abbrev MD_areOthers (g : Nat → Nat → Nat) (h : Nat → Int → Int)  (K : Int → (Nat → Int → Int) → Prop) : Prop := RI 41 0 [some (mvR 68), none, none, none, none] [] g h K
abbrev MD_areOthers_4 (g : Nat → Nat → Nat) (h : Nat → Int → Int) (l1 : Int) (l2 : Int) (u3 : Option Int) (u4 : Option Int) (K : Int → (Nat → Int → Int) → Prop) : Prop := RI 41 4 [some (mvR 68), some (mvI l1), some (mvI l2), u3.map mvI, u4.map mvI] [] g h K
abbrev MD_areOthers_14 (g : Nat → Nat → Nat) (h : Nat → Int → Int) (l1 : Int) (l2 : Int) (l3 : Int) (u4 : Option Int) (K : Int → (Nat → Int → Int) → Prop) : Prop := RI 41 14 [some (mvR 68), some (mvI l1), some (mvI l2), some (mvI l3), u4.map mvI] [] g h K
theorem MD_areOthers_wp {sw : Bool} {g : Nat → Nat → Nat} {h : Nat → Int → Int}  {K : Int → (Nat → Int → Int) → Prop} (hG : Gok sw g)  (H :
  MD_areOthers_4 g h 1 0 none none K) : MD_areOthers g h  K := by
  refine rc_iconst mq41 (mvDec_of cd41 rfl) (by decide) ?_
  refine rc_istore_n [some (mvR 68), some (mvI 1), none, none, none] mq41 (mvDec_of cd41 rfl) rfl ?_
  refine rc_iconst mq41 (mvDec_of cd41 rfl) (by decide) ?_
  refine rc_istore_n [some (mvR 68), some (mvI 1), some (mvI 0), none, none] mq41 (mvDec_of cd41 rfl) rfl ?_
  exact H
theorem MD_areOthers_4_wp {sw : Bool} {g : Nat → Nat → Nat} {h : Nat → Int → Int} {l1 : Int} {l2 : Int} {u3 : Option Int} {u4 : Option Int} {K : Int → (Nat → Int → Int) → Prop} (hG : Gok sw g)  (H :
  (((h 68 19) ≤ l2 →
    (l1 = 0 ∨ l1 = 1) ∧ K l1 h) ∧
  (l2 < (h 68 19) →
    MD_areOthers_14 g h l1 l2 0 u4 K))) : MD_areOthers_4 g h l1 l2 u3 u4 K := by
  refine rc_iload_n mq41 (mvDec_of cd41 rfl) rfl ?_
  refine rc_aload_n mq41 (mvDec_of cd41 rfl) rfl ?_
  refine rc_getI 19 mq41 (mvDec_of cd41 rfl) fl_10_103 mis68 rfl (by decide) (by decide) ?_
  refine rc_icmp_ge (t := 89) mq41 (mvDec_of cd41 rfl) rfl (fun hc => ?_) (fun hc => ?_)
  · replace H := H.1 hc
    refine rc_iload_n mq41 (mvDec_of cd41 rfl) rfl ?_
    exact rc_zret mq41 (mvDec_of cd41 rfl) H.1 ⟨_, _, rfl, rfl, H.2⟩
  · replace H := H.2 hc
    refine rc_iconst mq41 (mvDec_of cd41 rfl) (by decide) ?_
    refine rc_istore_n [some (mvR 68), some (mvI l1), some (mvI l2), some (mvI 0), u4.map mvI] mq41 (mvDec_of cd41 rfl) rfl ?_
    exact H
theorem MD_areOthers_14_wp {sw : Bool} {g : Nat → Nat → Nat} {h : Nat → Int → Int} {l1 : Int} {l2 : Int} {l3 : Int} {u4 : Option Int} {K : Int → (Nat → Int → Int) → Prop} (hG : Gok sw g)  (H :
  (0 ≤ l2 ∧ l2 < 4) ∧
  (((h 77 l2) ≤ l3 →
    MD_areOthers_4 g h l1 (mw (l2 + 1)) (some l3) u4 K) ∧
  (l3 < (h 77 l2) →
    (∀ v1, v1 = (mw ((mw (9 * l2)) + l3)) →
    ((l1 = 0 →
      MD_areOthers_14 g h 0 l2 (mw (l3 + 1)) (some v1) K) ∧
    (¬ l1 = 0 →
      (0 ≤ v1 ∧ v1 < 36) ∧
      (((h 78 v1) = 0 →
        MD_areOthers_14 g h 1 l2 (mw (l3 + 1)) (some v1) K) ∧
      (¬ (h 78 v1) = 0 →
        (0 ≤ v1 ∧ v1 < 36) ∧
        (((h 79 v1) = l2 →
          MD_areOthers_14 g h 0 l2 (mw (l3 + 1)) (some v1) K) ∧
        (¬ (h 79 v1) = l2 →
          (0 ≤ v1 ∧ v1 < 36) ∧
          (((h 68 19) ≤ (h 79 v1) →
            MD_areOthers_14 g h 0 l2 (mw (l3 + 1)) (some v1) K) ∧
          ((h 79 v1) < (h 68 19) →
            MD_areOthers_14 g h 1 l2 (mw (l3 + 1)) (some v1) K)))))))))))) : MD_areOthers_14 g h l1 l2 l3 u4 K := by
  refine rc_iload_n mq41 (mvDec_of cd41 rfl) rfl ?_
  refine rc_aload_n mq41 (mvDec_of cd41 rfl) rfl ?_
  refine rc_getR 77 mq41 (mvDec_of cd41 rfl) fl_10_34 mis68 rfl (gr_68_22 hG) (by decide) ?_
  refine rc_iload_n mq41 (mvDec_of cd41 rfl) rfl ?_
  obtain ⟨⟨hb0, hb1⟩, H⟩ := H
  refine rc_iald mq41 (mvDec_of cd41 rfl) mis77 hb0 hb1 ?_
  refine rc_icmp_ge (t := 83) mq41 (mvDec_of cd41 rfl) rfl (fun hc => ?_) (fun hc => ?_)
  · replace H := H.1 hc
    refine rc_iinc [some (mvR 68), some (mvI l1), some (mvI (mw (l2 + 1))), some (mvI l3), u4.map mvI] mq41 (mvDec_of cd41 rfl) rfl rfl ?_
    refine rc_goto (t := 4) mq41 (mvDec_of cd41 rfl) rfl ?_
    exact H
  · replace H := H.2 hc
    refine rc_bipush mq41 (mvDec_of cd41 rfl) (by decide) ?_
    refine rc_iload_n mq41 (mvDec_of cd41 rfl) rfl ?_
    refine rc_imul mq41 (mvDec_of cd41 rfl) ?_
    refine rc_iload_n mq41 (mvDec_of cd41 rfl) rfl ?_
    refine rc_iadd mq41 (mvDec_of cd41 rfl) ?_
    refine rc_top (fun v1 hv => ?_)
    replace H := H v1 hv
    refine rc_istore [some (mvR 68), some (mvI l1), some (mvI l2), some (mvI l3), some (mvI v1)] mq41 (mvDec_of cd41 rfl) rfl ?_
    refine rc_iload_n mq41 (mvDec_of cd41 rfl) rfl ?_
    refine rc_if_eq (t := 75) mq41 (mvDec_of cd41 rfl) rfl (fun hc => ?_) (fun hc => ?_)
    · replace H := H.1 hc
      refine rc_iconst mq41 (mvDec_of cd41 rfl) (by decide) ?_
      refine rc_istore_n [some (mvR 68), some (mvI 0), some (mvI l2), some (mvI l3), some (mvI v1)] mq41 (mvDec_of cd41 rfl) rfl ?_
      refine rc_iinc [some (mvR 68), some (mvI 0), some (mvI l2), some (mvI (mw (l3 + 1))), some (mvI v1)] mq41 (mvDec_of cd41 rfl) rfl rfl ?_
      refine rc_goto (t := 14) mq41 (mvDec_of cd41 rfl) rfl ?_
      exact H
    · replace H := H.2 hc
      refine rc_aload_n mq41 (mvDec_of cd41 rfl) rfl ?_
      refine rc_getR 78 mq41 (mvDec_of cd41 rfl) fl_10_37 mis68 rfl (gr_68_23 hG) (by decide) ?_
      refine rc_iload mq41 (mvDec_of cd41 rfl) rfl ?_
      obtain ⟨⟨hb0, hb1⟩, H⟩ := H
      refine rc_iald mq41 (mvDec_of cd41 rfl) mis78 hb0 hb1 ?_
      refine rc_if_eq (t := 71) mq41 (mvDec_of cd41 rfl) rfl (fun hc => ?_) (fun hc => ?_)
      · replace H := H.1 hc
        refine rc_iconst mq41 (mvDec_of cd41 rfl) (by decide) ?_
        refine rc_goto (t := 76) mq41 (mvDec_of cd41 rfl) rfl ?_
        refine rc_istore_n [some (mvR 68), some (mvI 1), some (mvI l2), some (mvI l3), some (mvI v1)] mq41 (mvDec_of cd41 rfl) rfl ?_
        refine rc_iinc [some (mvR 68), some (mvI 1), some (mvI l2), some (mvI (mw (l3 + 1))), some (mvI v1)] mq41 (mvDec_of cd41 rfl) rfl rfl ?_
        refine rc_goto (t := 14) mq41 (mvDec_of cd41 rfl) rfl ?_
        exact H
      · replace H := H.2 hc
        refine rc_aload_n mq41 (mvDec_of cd41 rfl) rfl ?_
        refine rc_getR 79 mq41 (mvDec_of cd41 rfl) fl_10_40 mis68 rfl (gr_68_24 hG) (by decide) ?_
        refine rc_iload mq41 (mvDec_of cd41 rfl) rfl ?_
        obtain ⟨⟨hb0, hb1⟩, H⟩ := H
        refine rc_iald mq41 (mvDec_of cd41 rfl) mis79 hb0 hb1 ?_
        refine rc_iload_n mq41 (mvDec_of cd41 rfl) rfl ?_
        refine rc_icmp_eq (t := 75) mq41 (mvDec_of cd41 rfl) rfl (fun hc => ?_) (fun hc => ?_)
        · replace H := H.1 hc
          refine rc_iconst mq41 (mvDec_of cd41 rfl) (by decide) ?_
          refine rc_istore_n [some (mvR 68), some (mvI 0), some (mvI l2), some (mvI l3), some (mvI v1)] mq41 (mvDec_of cd41 rfl) rfl ?_
          refine rc_iinc [some (mvR 68), some (mvI 0), some (mvI l2), some (mvI (mw (l3 + 1))), some (mvI v1)] mq41 (mvDec_of cd41 rfl) rfl rfl ?_
          refine rc_goto (t := 14) mq41 (mvDec_of cd41 rfl) rfl ?_
          exact H
        · replace H := H.2 hc
          refine rc_aload_n mq41 (mvDec_of cd41 rfl) rfl ?_
          refine rc_getR 79 mq41 (mvDec_of cd41 rfl) fl_10_40 mis68 rfl (gr_68_24 hG) (by decide) ?_
          refine rc_iload mq41 (mvDec_of cd41 rfl) rfl ?_
          obtain ⟨⟨hb0, hb1⟩, H⟩ := H
          refine rc_iald mq41 (mvDec_of cd41 rfl) mis79 hb0 hb1 ?_
          refine rc_aload_n mq41 (mvDec_of cd41 rfl) rfl ?_
          refine rc_getI 19 mq41 (mvDec_of cd41 rfl) fl_10_103 mis68 rfl (by decide) (by decide) ?_
          refine rc_icmp_ge (t := 75) mq41 (mvDec_of cd41 rfl) rfl (fun hc => ?_) (fun hc => ?_)
          · replace H := H.1 hc
            refine rc_iconst mq41 (mvDec_of cd41 rfl) (by decide) ?_
            refine rc_istore_n [some (mvR 68), some (mvI 0), some (mvI l2), some (mvI l3), some (mvI v1)] mq41 (mvDec_of cd41 rfl) rfl ?_
            refine rc_iinc [some (mvR 68), some (mvI 0), some (mvI l2), some (mvI (mw (l3 + 1))), some (mvI v1)] mq41 (mvDec_of cd41 rfl) rfl rfl ?_
            refine rc_goto (t := 14) mq41 (mvDec_of cd41 rfl) rfl ?_
            exact H
          · replace H := H.2 hc
            refine rc_iconst mq41 (mvDec_of cd41 rfl) (by decide) ?_
            refine rc_goto (t := 76) mq41 (mvDec_of cd41 rfl) rfl ?_
            refine rc_istore_n [some (mvR 68), some (mvI 1), some (mvI l2), some (mvI l3), some (mvI v1)] mq41 (mvDec_of cd41 rfl) rfl ?_
            refine rc_iinc [some (mvR 68), some (mvI 1), some (mvI l2), some (mvI (mw (l3 + 1))), some (mvI v1)] mq41 (mvDec_of cd41 rfl) rfl rfl ?_
            refine rc_goto (t := 14) mq41 (mvDec_of cd41 rfl) rfl ?_
            exact H
abbrev MD_newOf (g : Nat → Nat → Nat) (h : Nat → Int → Int) (x1 : Int) (x2 : Int) (x3 : Int) (x4 : Int) (K : Int → (Nat → Int → Int) → Prop) : Prop := RI 42 0 [some (mvR 68), some (mvI x1), some (mvI x2), some (mvI x3), some (mvI x4), none, none, none] [] g h K
abbrev MD_newOf_6 (g : Nat → Nat → Nat) (h : Nat → Int → Int) (l1 : Int) (l2 : Int) (l3 : Int) (l4 : Int) (l5 : Int) (l6 : Int) (u7 : Option Int) (K : Int → (Nat → Int → Int) → Prop) : Prop := RI 42 6 [some (mvR 68), some (mvI l1), some (mvI l2), some (mvI l3), some (mvI l4), some (mvI l5), some (mvI l6), u7.map mvI] [] g h K
theorem MD_newOf_wp {sw : Bool} {g : Nat → Nat → Nat} {h : Nat → Int → Int} {x1 : Int} {x2 : Int} {x3 : Int} {x4 : Int} {K : Int → (Nat → Int → Int) → Prop} (hG : Gok sw g)  (H :
  MD_newOf_6 g h x1 x2 x3 x4 0 0 none K) : MD_newOf g h x1 x2 x3 x4 K := by
  refine rc_iconst mq42 (mvDec_of cd42 rfl) (by decide) ?_
  refine rc_istore [some (mvR 68), some (mvI x1), some (mvI x2), some (mvI x3), some (mvI x4), some (mvI 0), none, none] mq42 (mvDec_of cd42 rfl) rfl ?_
  refine rc_iconst mq42 (mvDec_of cd42 rfl) (by decide) ?_
  refine rc_istore [some (mvR 68), some (mvI x1), some (mvI x2), some (mvI x3), some (mvI x4), some (mvI 0), some (mvI 0), none] mq42 (mvDec_of cd42 rfl) rfl ?_
  exact H
theorem MD_newOf_6_wp {sw : Bool} {g : Nat → Nat → Nat} {h : Nat → Int → Int} {l1 : Int} {l2 : Int} {l3 : Int} {l4 : Int} {l5 : Int} {l6 : Int} {u7 : Option Int} {K : Int → (Nat → Int → Int) → Prop} (hG : Gok sw g)  (H :
  ((l4 ≤ l6 →
    K l5 h) ∧
  (l6 < l4 →
    (∀ v1, v1 = (mw ((mw (9 * l1)) + l6)) →
    (0 ≤ v1 ∧ v1 < 36) ∧
    ((¬ (h 78 v1) = l2 →
      (∀ v2, v2 = (mw (l5 + 0)) →
      MD_newOf_6 g h l1 l2 l3 l4 v2 (mw (l6 + 1)) (some v1) K)) ∧
    ((h 78 v1) = l2 →
      (0 ≤ v1 ∧ v1 < 36) ∧
      ((¬ (h 79 v1) = l3 →
        (∀ v3, v3 = (mw (l5 + 0)) →
        MD_newOf_6 g h l1 l2 l3 l4 v3 (mw (l6 + 1)) (some v1) K)) ∧
      ((h 79 v1) = l3 →
        (∀ v4, v4 = (mw (l5 + 1)) →
        MD_newOf_6 g h l1 l2 l3 l4 v4 (mw (l6 + 1)) (some v1) K))))))))) : MD_newOf_6 g h l1 l2 l3 l4 l5 l6 u7 K := by
  refine rc_iload mq42 (mvDec_of cd42 rfl) rfl ?_
  refine rc_iload mq42 (mvDec_of cd42 rfl) rfl ?_
  refine rc_icmp_ge (t := 60) mq42 (mvDec_of cd42 rfl) rfl (fun hc => ?_) (fun hc => ?_)
  · replace H := H.1 hc
    refine rc_iload mq42 (mvDec_of cd42 rfl) rfl ?_
    exact rc_iret mq42 (mvDec_of cd42 rfl) ⟨_, _, rfl, rfl, H⟩
  · replace H := H.2 hc
    refine rc_bipush mq42 (mvDec_of cd42 rfl) (by decide) ?_
    refine rc_iload_n mq42 (mvDec_of cd42 rfl) rfl ?_
    refine rc_imul mq42 (mvDec_of cd42 rfl) ?_
    refine rc_iload mq42 (mvDec_of cd42 rfl) rfl ?_
    refine rc_iadd mq42 (mvDec_of cd42 rfl) ?_
    refine rc_top (fun v1 hv => ?_)
    replace H := H v1 hv
    refine rc_istore [some (mvR 68), some (mvI l1), some (mvI l2), some (mvI l3), some (mvI l4), some (mvI l5), some (mvI l6), some (mvI v1)] mq42 (mvDec_of cd42 rfl) rfl ?_
    refine rc_iload mq42 (mvDec_of cd42 rfl) rfl ?_
    refine rc_aload_n mq42 (mvDec_of cd42 rfl) rfl ?_
    refine rc_getR 78 mq42 (mvDec_of cd42 rfl) fl_10_37 mis68 rfl (gr_68_23 hG) (by decide) ?_
    refine rc_iload mq42 (mvDec_of cd42 rfl) rfl ?_
    obtain ⟨⟨hb0, hb1⟩, H⟩ := H
    refine rc_iald mq42 (mvDec_of cd42 rfl) mis78 hb0 hb1 ?_
    refine rc_iload_n mq42 (mvDec_of cd42 rfl) rfl ?_
    refine rc_icmp_ne (t := 50) mq42 (mvDec_of cd42 rfl) rfl (fun hc => ?_) (fun hc => ?_)
    · replace H := H.1 hc
      refine rc_iconst mq42 (mvDec_of cd42 rfl) (by decide) ?_
      refine rc_iadd mq42 (mvDec_of cd42 rfl) ?_
      refine rc_top (fun v2 hv => ?_)
      replace H := H v2 hv
      refine rc_istore [some (mvR 68), some (mvI l1), some (mvI l2), some (mvI l3), some (mvI l4), some (mvI v2), some (mvI l6), some (mvI v1)] mq42 (mvDec_of cd42 rfl) rfl ?_
      refine rc_iinc [some (mvR 68), some (mvI l1), some (mvI l2), some (mvI l3), some (mvI l4), some (mvI v2), some (mvI (mw (l6 + 1))), some (mvI v1)] mq42 (mvDec_of cd42 rfl) rfl rfl ?_
      refine rc_goto (t := 6) mq42 (mvDec_of cd42 rfl) rfl ?_
      exact H
    · replace H := H.2 hc
      refine rc_aload_n mq42 (mvDec_of cd42 rfl) rfl ?_
      refine rc_getR 79 mq42 (mvDec_of cd42 rfl) fl_10_40 mis68 rfl (gr_68_24 hG) (by decide) ?_
      refine rc_iload mq42 (mvDec_of cd42 rfl) rfl ?_
      obtain ⟨⟨hb0, hb1⟩, H⟩ := H
      refine rc_iald mq42 (mvDec_of cd42 rfl) mis79 hb0 hb1 ?_
      refine rc_iload_n mq42 (mvDec_of cd42 rfl) rfl ?_
      refine rc_icmp_ne (t := 50) mq42 (mvDec_of cd42 rfl) rfl (fun hc => ?_) (fun hc => ?_)
      · replace H := H.1 hc
        refine rc_iconst mq42 (mvDec_of cd42 rfl) (by decide) ?_
        refine rc_iadd mq42 (mvDec_of cd42 rfl) ?_
        refine rc_top (fun v3 hv => ?_)
        replace H := H v3 hv
        refine rc_istore [some (mvR 68), some (mvI l1), some (mvI l2), some (mvI l3), some (mvI l4), some (mvI v3), some (mvI l6), some (mvI v1)] mq42 (mvDec_of cd42 rfl) rfl ?_
        refine rc_iinc [some (mvR 68), some (mvI l1), some (mvI l2), some (mvI l3), some (mvI l4), some (mvI v3), some (mvI (mw (l6 + 1))), some (mvI v1)] mq42 (mvDec_of cd42 rfl) rfl rfl ?_
        refine rc_goto (t := 6) mq42 (mvDec_of cd42 rfl) rfl ?_
        exact H
      · replace H := H.2 hc
        refine rc_iconst mq42 (mvDec_of cd42 rfl) (by decide) ?_
        refine rc_goto (t := 51) mq42 (mvDec_of cd42 rfl) rfl ?_
        refine rc_iadd mq42 (mvDec_of cd42 rfl) ?_
        refine rc_top (fun v4 hv => ?_)
        replace H := H v4 hv
        refine rc_istore [some (mvR 68), some (mvI l1), some (mvI l2), some (mvI l3), some (mvI l4), some (mvI v4), some (mvI l6), some (mvI v1)] mq42 (mvDec_of cd42 rfl) rfl ?_
        refine rc_iinc [some (mvR 68), some (mvI l1), some (mvI l2), some (mvI l3), some (mvI l4), some (mvI v4), some (mvI (mw (l6 + 1))), some (mvI v1)] mq42 (mvDec_of cd42 rfl) rfl rfl ?_
        refine rc_goto (t := 6) mq42 (mvDec_of cd42 rfl) rfl ?_
        exact H
abbrev MD_of (g : Nat → Nat → Nat) (h : Nat → Int → Int) (x1 : Int) (x2 : Int) (x3 : Int) (x4 : Int) (K : Int → (Nat → Int → Int) → Prop) : Prop := RI 44 0 [some (mvR 68), some (mvI x1), some (mvI x2), some (mvI x3), some (mvI x4), none, none, none] [] g h K
abbrev MD_of_6 (g : Nat → Nat → Nat) (h : Nat → Int → Int) (l1 : Int) (l2 : Int) (l3 : Int) (l4 : Int) (l5 : Int) (l6 : Int) (u7 : Option Int) (K : Int → (Nat → Int → Int) → Prop) : Prop := RI 44 6 [some (mvR 68), some (mvI l1), some (mvI l2), some (mvI l3), some (mvI l4), some (mvI l5), some (mvI l6), u7.map mvI] [] g h K
theorem MD_of_wp {sw : Bool} {g : Nat → Nat → Nat} {h : Nat → Int → Int} {x1 : Int} {x2 : Int} {x3 : Int} {x4 : Int} {K : Int → (Nat → Int → Int) → Prop} (hG : Gok sw g)  (H :
  MD_of_6 g h x1 x2 x3 x4 0 0 none K) : MD_of g h x1 x2 x3 x4 K := by
  refine rc_iconst mq44 (mvDec_of cd44 rfl) (by decide) ?_
  refine rc_istore [some (mvR 68), some (mvI x1), some (mvI x2), some (mvI x3), some (mvI x4), some (mvI 0), none, none] mq44 (mvDec_of cd44 rfl) rfl ?_
  refine rc_iconst mq44 (mvDec_of cd44 rfl) (by decide) ?_
  refine rc_istore [some (mvR 68), some (mvI x1), some (mvI x2), some (mvI x3), some (mvI x4), some (mvI 0), some (mvI 0), none] mq44 (mvDec_of cd44 rfl) rfl ?_
  exact H
theorem MD_of_6_wp {sw : Bool} {g : Nat → Nat → Nat} {h : Nat → Int → Int} {l1 : Int} {l2 : Int} {l3 : Int} {l4 : Int} {l5 : Int} {l6 : Int} {u7 : Option Int} {K : Int → (Nat → Int → Int) → Prop} (hG : Gok sw g)  (H :
  ((l4 ≤ l6 →
    K l5 h) ∧
  (l6 < l4 →
    (∀ v1, v1 = (mw ((mw (9 * l1)) + l6)) →
    (0 ≤ v1 ∧ v1 < 36) ∧
    ((¬ (h 70 v1) = l2 →
      (∀ v2, v2 = (mw (l5 + 0)) →
      MD_of_6 g h l1 l2 l3 l4 v2 (mw (l6 + 1)) (some v1) K)) ∧
    ((h 70 v1) = l2 →
      (0 ≤ v1 ∧ v1 < 36) ∧
      ((¬ (h 71 v1) = l3 →
        (∀ v3, v3 = (mw (l5 + 0)) →
        MD_of_6 g h l1 l2 l3 l4 v3 (mw (l6 + 1)) (some v1) K)) ∧
      ((h 71 v1) = l3 →
        (∀ v4, v4 = (mw (l5 + 1)) →
        MD_of_6 g h l1 l2 l3 l4 v4 (mw (l6 + 1)) (some v1) K))))))))) : MD_of_6 g h l1 l2 l3 l4 l5 l6 u7 K := by
  refine rc_iload mq44 (mvDec_of cd44 rfl) rfl ?_
  refine rc_iload mq44 (mvDec_of cd44 rfl) rfl ?_
  refine rc_icmp_ge (t := 60) mq44 (mvDec_of cd44 rfl) rfl (fun hc => ?_) (fun hc => ?_)
  · replace H := H.1 hc
    refine rc_iload mq44 (mvDec_of cd44 rfl) rfl ?_
    exact rc_iret mq44 (mvDec_of cd44 rfl) ⟨_, _, rfl, rfl, H⟩
  · replace H := H.2 hc
    refine rc_bipush mq44 (mvDec_of cd44 rfl) (by decide) ?_
    refine rc_iload_n mq44 (mvDec_of cd44 rfl) rfl ?_
    refine rc_imul mq44 (mvDec_of cd44 rfl) ?_
    refine rc_iload mq44 (mvDec_of cd44 rfl) rfl ?_
    refine rc_iadd mq44 (mvDec_of cd44 rfl) ?_
    refine rc_top (fun v1 hv => ?_)
    replace H := H v1 hv
    refine rc_istore [some (mvR 68), some (mvI l1), some (mvI l2), some (mvI l3), some (mvI l4), some (mvI l5), some (mvI l6), some (mvI v1)] mq44 (mvDec_of cd44 rfl) rfl ?_
    refine rc_iload mq44 (mvDec_of cd44 rfl) rfl ?_
    refine rc_aload_n mq44 (mvDec_of cd44 rfl) rfl ?_
    refine rc_getR 70 mq44 (mvDec_of cd44 rfl) fl_10_13 mis68 rfl (gr_68_2 hG) (by decide) ?_
    refine rc_iload mq44 (mvDec_of cd44 rfl) rfl ?_
    obtain ⟨⟨hb0, hb1⟩, H⟩ := H
    refine rc_iald mq44 (mvDec_of cd44 rfl) mis70 hb0 hb1 ?_
    refine rc_iload_n mq44 (mvDec_of cd44 rfl) rfl ?_
    refine rc_icmp_ne (t := 50) mq44 (mvDec_of cd44 rfl) rfl (fun hc => ?_) (fun hc => ?_)
    · replace H := H.1 hc
      refine rc_iconst mq44 (mvDec_of cd44 rfl) (by decide) ?_
      refine rc_iadd mq44 (mvDec_of cd44 rfl) ?_
      refine rc_top (fun v2 hv => ?_)
      replace H := H v2 hv
      refine rc_istore [some (mvR 68), some (mvI l1), some (mvI l2), some (mvI l3), some (mvI l4), some (mvI v2), some (mvI l6), some (mvI v1)] mq44 (mvDec_of cd44 rfl) rfl ?_
      refine rc_iinc [some (mvR 68), some (mvI l1), some (mvI l2), some (mvI l3), some (mvI l4), some (mvI v2), some (mvI (mw (l6 + 1))), some (mvI v1)] mq44 (mvDec_of cd44 rfl) rfl rfl ?_
      refine rc_goto (t := 6) mq44 (mvDec_of cd44 rfl) rfl ?_
      exact H
    · replace H := H.2 hc
      refine rc_aload_n mq44 (mvDec_of cd44 rfl) rfl ?_
      refine rc_getR 71 mq44 (mvDec_of cd44 rfl) fl_10_16 mis68 rfl (gr_68_3 hG) (by decide) ?_
      refine rc_iload mq44 (mvDec_of cd44 rfl) rfl ?_
      obtain ⟨⟨hb0, hb1⟩, H⟩ := H
      refine rc_iald mq44 (mvDec_of cd44 rfl) mis71 hb0 hb1 ?_
      refine rc_iload_n mq44 (mvDec_of cd44 rfl) rfl ?_
      refine rc_icmp_ne (t := 50) mq44 (mvDec_of cd44 rfl) rfl (fun hc => ?_) (fun hc => ?_)
      · replace H := H.1 hc
        refine rc_iconst mq44 (mvDec_of cd44 rfl) (by decide) ?_
        refine rc_iadd mq44 (mvDec_of cd44 rfl) ?_
        refine rc_top (fun v3 hv => ?_)
        replace H := H v3 hv
        refine rc_istore [some (mvR 68), some (mvI l1), some (mvI l2), some (mvI l3), some (mvI l4), some (mvI v3), some (mvI l6), some (mvI v1)] mq44 (mvDec_of cd44 rfl) rfl ?_
        refine rc_iinc [some (mvR 68), some (mvI l1), some (mvI l2), some (mvI l3), some (mvI l4), some (mvI v3), some (mvI (mw (l6 + 1))), some (mvI v1)] mq44 (mvDec_of cd44 rfl) rfl rfl ?_
        refine rc_goto (t := 6) mq44 (mvDec_of cd44 rfl) rfl ?_
        exact H
      · replace H := H.2 hc
        refine rc_iconst mq44 (mvDec_of cd44 rfl) (by decide) ?_
        refine rc_goto (t := 51) mq44 (mvDec_of cd44 rfl) rfl ?_
        refine rc_iadd mq44 (mvDec_of cd44 rfl) ?_
        refine rc_top (fun v4 hv => ?_)
        replace H := H v4 hv
        refine rc_istore [some (mvR 68), some (mvI l1), some (mvI l2), some (mvI l3), some (mvI l4), some (mvI v4), some (mvI l6), some (mvI v1)] mq44 (mvDec_of cd44 rfl) rfl ?_
        refine rc_iinc [some (mvR 68), some (mvI l1), some (mvI l2), some (mvI l3), some (mvI l4), some (mvI v4), some (mvI (mw (l6 + 1))), some (mvI v1)] mq44 (mvDec_of cd44 rfl) rfl rfl ?_
        refine rc_goto (t := 6) mq44 (mvDec_of cd44 rfl) rfl ?_
        exact H
abbrev MD_layVector (g : Nat → Nat → Nat) (h : Nat → Int → Int) (x1 : Int) (x2 : Int) (K : (Nat → Int → Int) → Prop) : Prop := RV 45 0 [some (mvR 68), some (mvI x1), some (mvI x2), none, none, none, none, none] [] g h K
abbrev MD_layVector_23 (g : Nat → Nat → Nat) (h : Nat → Int → Int) (u1 : Option Int) (l2 : Int) (l3 : Int) (l4 : Int) (u5 : Option Int) (u6 : Option Int) (u7 : Option Int) (K : (Nat → Int → Int) → Prop) : Prop := RV 45 23 [some (mvR 68), u1.map mvI, some (mvI l2), some (mvI l3), some (mvI l4), u5.map mvI, u6.map mvI, u7.map mvI] [] g h K
abbrev MD_layVector_68 (g : Nat → Nat → Nat) (h : Nat → Int → Int) (u1 : Option Int) (l2 : Int) (l3 : Int) (l4 : Int) (l5 : Int) (l6 : Int) (u7 : Option Int) (K : (Nat → Int → Int) → Prop) : Prop := RV 45 68 [some (mvR 68), u1.map mvI, some (mvI l2), some (mvI l3), some (mvI l4), some (mvI l5), some (mvI l6), u7.map mvI] [] g h K
abbrev MD_layVector_110 (g : Nat → Nat → Nat) (h : Nat → Int → Int) (u1 : Option Int) (l2 : Int) (l3 : Int) (l4 : Int) (l5 : Int) (l6 : Int) (l7 : Int) (K : (Nat → Int → Int) → Prop) : Prop := RV 45 110 [some (mvR 68), u1.map mvI, some (mvI l2), some (mvI l3), some (mvI l4), some (mvI l5), some (mvI l6), some (mvI l7)] [] g h K
abbrev MD_layVector_126 (g : Nat → Nat → Nat) (h : Nat → Int → Int) (u1 : Option Int) (l2 : Int) (l3 : Int) (l4 : Int) (l5 : Int) (u6 : Option Int) (l7 : Int) (K : (Nat → Int → Int) → Prop) : Prop := RV 45 126 [some (mvR 68), u1.map mvI, some (mvI l2), some (mvI l3), some (mvI l4), some (mvI l5), u6.map mvI, some (mvI l7)] [] g h K
theorem MD_layVector_wp {sw : Bool} {g : Nat → Nat → Nat} {h : Nat → Int → Int} {x1 : Int} {x2 : Int} {K : (Nat → Int → Int) → Prop} (hG : Gok sw g)  (H :
  (∀ v1, v1 = (mw ((mw (9 * x1)) + x2)) →
  (0 ≤ (mw ((mw (4 * v1)) + x1)) ∧ (mw ((mw (4 * v1)) + x1)) < 144) ∧
  (∀ h2, h2 = mvUpd h 73 (mw ((mw (4 * v1)) + x1)) (mw (x2 + 1)) →
  MD_layVector_23 g h2 (some x1) x2 v1 0 none none none K))) : MD_layVector g h x1 x2 K := by
  refine rc_bipush mq45 (mvDec_of cd45 rfl) (by decide) ?_
  refine rc_iload_n mq45 (mvDec_of cd45 rfl) rfl ?_
  refine rc_imul mq45 (mvDec_of cd45 rfl) ?_
  refine rc_iload_n mq45 (mvDec_of cd45 rfl) rfl ?_
  refine rc_iadd mq45 (mvDec_of cd45 rfl) ?_
  refine rc_top (fun v1 hv => ?_)
  replace H := H v1 hv
  refine rc_istore_n [some (mvR 68), some (mvI x1), some (mvI x2), some (mvI v1), none, none, none, none] mq45 (mvDec_of cd45 rfl) rfl ?_
  refine rc_aload_n mq45 (mvDec_of cd45 rfl) rfl ?_
  refine rc_getR 73 mq45 (mvDec_of cd45 rfl) fl_10_22 mis68 rfl (gr_68_5 hG) (by decide) ?_
  refine rc_iconst mq45 (mvDec_of cd45 rfl) (by decide) ?_
  refine rc_iload_n mq45 (mvDec_of cd45 rfl) rfl ?_
  refine rc_imul mq45 (mvDec_of cd45 rfl) ?_
  refine rc_iload_n mq45 (mvDec_of cd45 rfl) rfl ?_
  refine rc_iadd mq45 (mvDec_of cd45 rfl) ?_
  refine rc_iload_n mq45 (mvDec_of cd45 rfl) rfl ?_
  refine rc_iconst mq45 (mvDec_of cd45 rfl) (by decide) ?_
  refine rc_iadd mq45 (mvDec_of cd45 rfl) ?_
  obtain ⟨⟨hb0, hb1⟩, H⟩ := H
  refine rc_iast mq45 (mvDec_of cd45 rfl) mis73 hb0 hb1 ?_
  refine rc_heap (fun h2 hh => ?_)
  replace H := H h2 hh
  refine rc_iconst mq45 (mvDec_of cd45 rfl) (by decide) ?_
  refine rc_istore [some (mvR 68), some (mvI x1), some (mvI x2), some (mvI v1), some (mvI 0), none, none, none] mq45 (mvDec_of cd45 rfl) rfl ?_
  exact H
theorem MD_layVector_23_wp {sw : Bool} {g : Nat → Nat → Nat} {h : Nat → Int → Int} {u1 : Option Int} {l2 : Int} {l3 : Int} {l4 : Int} {u5 : Option Int} {u6 : Option Int} {u7 : Option Int} {K : (Nat → Int → Int) → Prop} (hG : Gok sw g)  (H :
  (((h 68 0) ≤ l4 →
    K h) ∧
  (l4 < (h 68 0) →
    (0 ≤ (mw ((mw (4 * l3)) + l4)) ∧ (mw ((mw (4 * l3)) + l4)) < 144) ∧
    (∀ v1, v1 = (h 73 (mw ((mw (4 * l3)) + l4))) →
    ((l2 ≤ 0 →
      MD_layVector_68 g h u1 l2 l3 l4 v1 0 u7 K) ∧
    (0 < l2 →
      (0 ≤ (mw ((mw (4 * (mw (l3 - 1)))) + l4)) ∧ (mw ((mw (4 * (mw (l3 - 1)))) + l4)) < 144) ∧
      (∀ v2, v2 = (h 73 (mw ((mw (4 * (mw (l3 - 1)))) + l4))) →
      MD_layVector_68 g h u1 l2 l3 l4 v1 v2 u7 K))))))) : MD_layVector_23 g h u1 l2 l3 l4 u5 u6 u7 K := by
  refine rc_iload mq45 (mvDec_of cd45 rfl) rfl ?_
  refine rc_aload_n mq45 (mvDec_of cd45 rfl) rfl ?_
  refine rc_getI 0 mq45 (mvDec_of cd45 rfl) fl_10_138 mis68 rfl (by decide) (by decide) ?_
  refine rc_icmp_ge (t := 157) mq45 (mvDec_of cd45 rfl) rfl (fun hc => ?_) (fun hc => ?_)
  · replace H := H.1 hc
    exact rc_vret mq45 (mvDec_of cd45 rfl) ⟨_, rfl, rfl, H⟩
  · replace H := H.2 hc
    refine rc_aload_n mq45 (mvDec_of cd45 rfl) rfl ?_
    refine rc_getR 73 mq45 (mvDec_of cd45 rfl) fl_10_22 mis68 rfl (gr_68_5 hG) (by decide) ?_
    refine rc_iconst mq45 (mvDec_of cd45 rfl) (by decide) ?_
    refine rc_iload_n mq45 (mvDec_of cd45 rfl) rfl ?_
    refine rc_imul mq45 (mvDec_of cd45 rfl) ?_
    refine rc_iload mq45 (mvDec_of cd45 rfl) rfl ?_
    refine rc_iadd mq45 (mvDec_of cd45 rfl) ?_
    obtain ⟨⟨hb0, hb1⟩, H⟩ := H
    refine rc_iald mq45 (mvDec_of cd45 rfl) mis73 hb0 hb1 ?_
    refine rc_top (fun v1 hv => ?_)
    replace H := H v1 hv
    refine rc_istore [some (mvR 68), u1.map mvI, some (mvI l2), some (mvI l3), some (mvI l4), some (mvI v1), u6.map mvI, u7.map mvI] mq45 (mvDec_of cd45 rfl) rfl ?_
    refine rc_iload_n mq45 (mvDec_of cd45 rfl) rfl ?_
    refine rc_if_le (t := 65) mq45 (mvDec_of cd45 rfl) rfl (fun hc => ?_) (fun hc => ?_)
    · replace H := H.1 hc
      refine rc_iconst mq45 (mvDec_of cd45 rfl) (by decide) ?_
      refine rc_istore [some (mvR 68), u1.map mvI, some (mvI l2), some (mvI l3), some (mvI l4), some (mvI v1), some (mvI 0), u7.map mvI] mq45 (mvDec_of cd45 rfl) rfl ?_
      exact H
    · replace H := H.2 hc
      refine rc_aload_n mq45 (mvDec_of cd45 rfl) rfl ?_
      refine rc_getR 73 mq45 (mvDec_of cd45 rfl) fl_10_22 mis68 rfl (gr_68_5 hG) (by decide) ?_
      refine rc_iconst mq45 (mvDec_of cd45 rfl) (by decide) ?_
      refine rc_iload_n mq45 (mvDec_of cd45 rfl) rfl ?_
      refine rc_iconst mq45 (mvDec_of cd45 rfl) (by decide) ?_
      refine rc_isub mq45 (mvDec_of cd45 rfl) ?_
      refine rc_imul mq45 (mvDec_of cd45 rfl) ?_
      refine rc_iload mq45 (mvDec_of cd45 rfl) rfl ?_
      refine rc_iadd mq45 (mvDec_of cd45 rfl) ?_
      obtain ⟨⟨hb0, hb1⟩, H⟩ := H
      refine rc_iald mq45 (mvDec_of cd45 rfl) mis73 hb0 hb1 ?_
      refine rc_goto (t := 66) mq45 (mvDec_of cd45 rfl) rfl ?_
      refine rc_top (fun v2 hv => ?_)
      replace H := H v2 hv
      refine rc_istore [some (mvR 68), u1.map mvI, some (mvI l2), some (mvI l3), some (mvI l4), some (mvI v1), some (mvI v2), u7.map mvI] mq45 (mvDec_of cd45 rfl) rfl ?_
      exact H
theorem MD_layVector_68_wp {sw : Bool} {g : Nat → Nat → Nat} {h : Nat → Int → Int} {u1 : Option Int} {l2 : Int} {l3 : Int} {l4 : Int} {l5 : Int} {l6 : Int} {u7 : Option Int} {K : (Nat → Int → Int) → Prop} (hG : Gok sw g)  (H :
  (0 ≤ l3 ∧ l3 < 36) ∧
  ((¬ (h 70 l3) = 2 →
    MD_layVector_110 g h u1 l2 l3 l4 l5 l6 0 K) ∧
  ((h 70 l3) = 2 →
    (0 ≤ l3 ∧ l3 < 36) ∧
    (0 ≤ l3 ∧ l3 < 36) ∧
    (0 ≤ (mw ((mw (4 * (mw ((mw (9 * (h 71 l3))) + (h 72 l3))))) + l4)) ∧ (mw ((mw (4 * (mw ((mw (9 * (h 71 l3))) + (h 72 l3))))) + l4)) < 144) ∧
    (∀ v1, v1 = (h 73 (mw ((mw (4 * (mw ((mw (9 * (h 71 l3))) + (h 72 l3))))) + l4))) →
    MD_layVector_110 g h u1 l2 l3 l4 l5 l6 v1 K)))) : MD_layVector_68 g h u1 l2 l3 l4 l5 l6 u7 K := by
  refine rc_aload_n mq45 (mvDec_of cd45 rfl) rfl ?_
  refine rc_getR 70 mq45 (mvDec_of cd45 rfl) fl_10_13 mis68 rfl (gr_68_2 hG) (by decide) ?_
  refine rc_iload_n mq45 (mvDec_of cd45 rfl) rfl ?_
  obtain ⟨⟨hb0, hb1⟩, H⟩ := H
  refine rc_iald mq45 (mvDec_of cd45 rfl) mis70 hb0 hb1 ?_
  refine rc_iconst mq45 (mvDec_of cd45 rfl) (by decide) ?_
  refine rc_icmp_ne (t := 107) mq45 (mvDec_of cd45 rfl) rfl (fun hc => ?_) (fun hc => ?_)
  · replace H := H.1 hc
    refine rc_iconst mq45 (mvDec_of cd45 rfl) (by decide) ?_
    refine rc_istore [some (mvR 68), u1.map mvI, some (mvI l2), some (mvI l3), some (mvI l4), some (mvI l5), some (mvI l6), some (mvI 0)] mq45 (mvDec_of cd45 rfl) rfl ?_
    exact H
  · replace H := H.2 hc
    refine rc_aload_n mq45 (mvDec_of cd45 rfl) rfl ?_
    refine rc_getR 73 mq45 (mvDec_of cd45 rfl) fl_10_22 mis68 rfl (gr_68_5 hG) (by decide) ?_
    refine rc_iconst mq45 (mvDec_of cd45 rfl) (by decide) ?_
    refine rc_bipush mq45 (mvDec_of cd45 rfl) (by decide) ?_
    refine rc_aload_n mq45 (mvDec_of cd45 rfl) rfl ?_
    refine rc_getR 71 mq45 (mvDec_of cd45 rfl) fl_10_16 mis68 rfl (gr_68_3 hG) (by decide) ?_
    refine rc_iload_n mq45 (mvDec_of cd45 rfl) rfl ?_
    obtain ⟨⟨hb0, hb1⟩, H⟩ := H
    refine rc_iald mq45 (mvDec_of cd45 rfl) mis71 hb0 hb1 ?_
    refine rc_imul mq45 (mvDec_of cd45 rfl) ?_
    refine rc_aload_n mq45 (mvDec_of cd45 rfl) rfl ?_
    refine rc_getR 72 mq45 (mvDec_of cd45 rfl) fl_10_19 mis68 rfl (gr_68_4 hG) (by decide) ?_
    refine rc_iload_n mq45 (mvDec_of cd45 rfl) rfl ?_
    obtain ⟨⟨hb0, hb1⟩, H⟩ := H
    refine rc_iald mq45 (mvDec_of cd45 rfl) mis72 hb0 hb1 ?_
    refine rc_iadd mq45 (mvDec_of cd45 rfl) ?_
    refine rc_imul mq45 (mvDec_of cd45 rfl) ?_
    refine rc_iload mq45 (mvDec_of cd45 rfl) rfl ?_
    refine rc_iadd mq45 (mvDec_of cd45 rfl) ?_
    obtain ⟨⟨hb0, hb1⟩, H⟩ := H
    refine rc_iald mq45 (mvDec_of cd45 rfl) mis73 hb0 hb1 ?_
    refine rc_goto (t := 108) mq45 (mvDec_of cd45 rfl) rfl ?_
    refine rc_top (fun v1 hv => ?_)
    replace H := H v1 hv
    refine rc_istore [some (mvR 68), u1.map mvI, some (mvI l2), some (mvI l3), some (mvI l4), some (mvI l5), some (mvI l6), some (mvI v1)] mq45 (mvDec_of cd45 rfl) rfl ?_
    exact H
theorem MD_layVector_110_wp {sw : Bool} {g : Nat → Nat → Nat} {h : Nat → Int → Int} {u1 : Option Int} {l2 : Int} {l3 : Int} {l4 : Int} {l5 : Int} {l6 : Int} {l7 : Int} {K : (Nat → Int → Int) → Prop} (hG : Gok sw g)  (H :
  ((l6 ≤ l5 →
    MD_layVector_126 g h u1 l2 l3 l4 l5 (some l6) l7 K) ∧
  (l5 < l6 →
    MD_layVector_126 g h u1 l2 l3 l4 l6 (some l6) l7 K))) : MD_layVector_110 g h u1 l2 l3 l4 l5 l6 l7 K := by
  refine rc_iload mq45 (mvDec_of cd45 rfl) rfl ?_
  refine rc_iload mq45 (mvDec_of cd45 rfl) rfl ?_
  refine rc_icmp_le (t := 122) mq45 (mvDec_of cd45 rfl) rfl (fun hc => ?_) (fun hc => ?_)
  · replace H := H.1 hc
    refine rc_iload mq45 (mvDec_of cd45 rfl) rfl ?_
    refine rc_istore [some (mvR 68), u1.map mvI, some (mvI l2), some (mvI l3), some (mvI l4), some (mvI l5), some (mvI l6), some (mvI l7)] mq45 (mvDec_of cd45 rfl) rfl ?_
    exact H
  · replace H := H.2 hc
    refine rc_iload mq45 (mvDec_of cd45 rfl) rfl ?_
    refine rc_goto (t := 124) mq45 (mvDec_of cd45 rfl) rfl ?_
    refine rc_istore [some (mvR 68), u1.map mvI, some (mvI l2), some (mvI l3), some (mvI l4), some (mvI l6), some (mvI l6), some (mvI l7)] mq45 (mvDec_of cd45 rfl) rfl ?_
    exact H
theorem MD_layVector_126_wp {sw : Bool} {g : Nat → Nat → Nat} {h : Nat → Int → Int} {u1 : Option Int} {l2 : Int} {l3 : Int} {l4 : Int} {l5 : Int} {u6 : Option Int} {l7 : Int} {K : (Nat → Int → Int) → Prop} (hG : Gok sw g)  (H :
  ((l7 ≤ l5 →
    (0 ≤ (mw ((mw (4 * l3)) + l4)) ∧ (mw ((mw (4 * l3)) + l4)) < 144) ∧
    (∀ h1, h1 = mvUpd h 73 (mw ((mw (4 * l3)) + l4)) l5 →
    MD_layVector_23 g h1 u1 l2 l3 (mw (l4 + 1)) (some l5) u6 (some l7) K)) ∧
  (l5 < l7 →
    (0 ≤ (mw ((mw (4 * l3)) + l4)) ∧ (mw ((mw (4 * l3)) + l4)) < 144) ∧
    (∀ h2, h2 = mvUpd h 73 (mw ((mw (4 * l3)) + l4)) l7 →
    MD_layVector_23 g h2 u1 l2 l3 (mw (l4 + 1)) (some l5) u6 (some l7) K)))) : MD_layVector_126 g h u1 l2 l3 l4 l5 u6 l7 K := by
  refine rc_aload_n mq45 (mvDec_of cd45 rfl) rfl ?_
  refine rc_getR 73 mq45 (mvDec_of cd45 rfl) fl_10_22 mis68 rfl (gr_68_5 hG) (by decide) ?_
  refine rc_iconst mq45 (mvDec_of cd45 rfl) (by decide) ?_
  refine rc_iload_n mq45 (mvDec_of cd45 rfl) rfl ?_
  refine rc_imul mq45 (mvDec_of cd45 rfl) ?_
  refine rc_iload mq45 (mvDec_of cd45 rfl) rfl ?_
  refine rc_iadd mq45 (mvDec_of cd45 rfl) ?_
  refine rc_iload mq45 (mvDec_of cd45 rfl) rfl ?_
  refine rc_iload mq45 (mvDec_of cd45 rfl) rfl ?_
  refine rc_icmp_le (t := 148) mq45 (mvDec_of cd45 rfl) rfl (fun hc => ?_) (fun hc => ?_)
  · replace H := H.1 hc
    refine rc_iload mq45 (mvDec_of cd45 rfl) rfl ?_
    obtain ⟨⟨hb0, hb1⟩, H⟩ := H
    refine rc_iast mq45 (mvDec_of cd45 rfl) mis73 hb0 hb1 ?_
    refine rc_heap (fun h1 hh => ?_)
    replace H := H h1 hh
    refine rc_iinc [some (mvR 68), u1.map mvI, some (mvI l2), some (mvI l3), some (mvI (mw (l4 + 1))), some (mvI l5), u6.map mvI, some (mvI l7)] mq45 (mvDec_of cd45 rfl) rfl rfl ?_
    refine rc_goto (t := 23) mq45 (mvDec_of cd45 rfl) rfl ?_
    exact H
  · replace H := H.2 hc
    refine rc_iload mq45 (mvDec_of cd45 rfl) rfl ?_
    refine rc_goto (t := 150) mq45 (mvDec_of cd45 rfl) rfl ?_
    obtain ⟨⟨hb0, hb1⟩, H⟩ := H
    refine rc_iast mq45 (mvDec_of cd45 rfl) mis73 hb0 hb1 ?_
    refine rc_heap (fun h2 hh => ?_)
    replace H := H h2 hh
    refine rc_iinc [some (mvR 68), u1.map mvI, some (mvI l2), some (mvI l3), some (mvI (mw (l4 + 1))), some (mvI l5), u6.map mvI, some (mvI l7)] mq45 (mvDec_of cd45 rfl) rfl rfl ?_
    refine rc_goto (t := 23) mq45 (mvDec_of cd45 rfl) rfl ?_
    exact H
abbrev MD_eventsAll (g : Nat → Nat → Nat) (h : Nat → Int → Int)  (K : Int → (Nat → Int → Int) → Prop) : Prop := RI 46 0 [some (mvR 68), none, none] [] g h K
abbrev MD_eventsAll_4 (g : Nat → Nat → Nat) (h : Nat → Int → Int) (l1 : Int) (l2 : Int) (K : Int → (Nat → Int → Int) → Prop) : Prop := RI 46 4 [some (mvR 68), some (mvI l1), some (mvI l2)] [] g h K
theorem MD_eventsAll_wp {sw : Bool} {g : Nat → Nat → Nat} {h : Nat → Int → Int}  {K : Int → (Nat → Int → Int) → Prop} (hG : Gok sw g)  (H :
  MD_eventsAll_4 g h 0 0 K) : MD_eventsAll g h  K := by
  refine rc_iconst mq46 (mvDec_of cd46 rfl) (by decide) ?_
  refine rc_istore_n [some (mvR 68), some (mvI 0), none] mq46 (mvDec_of cd46 rfl) rfl ?_
  refine rc_iconst mq46 (mvDec_of cd46 rfl) (by decide) ?_
  refine rc_istore_n [some (mvR 68), some (mvI 0), some (mvI 0)] mq46 (mvDec_of cd46 rfl) rfl ?_
  exact H
theorem MD_eventsAll_4_wp {sw : Bool} {g : Nat → Nat → Nat} {h : Nat → Int → Int} {l1 : Int} {l2 : Int} {K : Int → (Nat → Int → Int) → Prop} (hG : Gok sw g)  (H :
  (((h 68 0) ≤ l2 →
    K l1 h) ∧
  (l2 < (h 68 0) →
    (0 ≤ l2 ∧ l2 < 4) ∧
    (∀ v1, v1 = (mw (l1 + (h 69 l2))) →
    MD_eventsAll_4 g h v1 (mw (l2 + 1)) K)))) : MD_eventsAll_4 g h l1 l2 K := by
  refine rc_iload_n mq46 (mvDec_of cd46 rfl) rfl ?_
  refine rc_aload_n mq46 (mvDec_of cd46 rfl) rfl ?_
  refine rc_getI 0 mq46 (mvDec_of cd46 rfl) fl_10_138 mis68 rfl (by decide) (by decide) ?_
  refine rc_icmp_ge (t := 27) mq46 (mvDec_of cd46 rfl) rfl (fun hc => ?_) (fun hc => ?_)
  · replace H := H.1 hc
    refine rc_iload_n mq46 (mvDec_of cd46 rfl) rfl ?_
    exact rc_iret mq46 (mvDec_of cd46 rfl) ⟨_, _, rfl, rfl, H⟩
  · replace H := H.2 hc
    refine rc_iload_n mq46 (mvDec_of cd46 rfl) rfl ?_
    refine rc_aload_n mq46 (mvDec_of cd46 rfl) rfl ?_
    refine rc_getR 69 mq46 (mvDec_of cd46 rfl) fl_10_7 mis68 rfl (gr_68_1 hG) (by decide) ?_
    refine rc_iload_n mq46 (mvDec_of cd46 rfl) rfl ?_
    obtain ⟨⟨hb0, hb1⟩, H⟩ := H
    refine rc_iald mq46 (mvDec_of cd46 rfl) mis69 hb0 hb1 ?_
    refine rc_iadd mq46 (mvDec_of cd46 rfl) ?_
    refine rc_top (fun v1 hv => ?_)
    replace H := H v1 hv
    refine rc_istore_n [some (mvR 68), some (mvI v1), some (mvI l2)] mq46 (mvDec_of cd46 rfl) rfl ?_
    refine rc_iinc [some (mvR 68), some (mvI v1), some (mvI (mw (l2 + 1)))] mq46 (mvDec_of cd46 rfl) rfl rfl ?_
    refine rc_goto (t := 4) mq46 (mvDec_of cd46 rfl) rfl ?_
    exact H
abbrev MD_eventNow (g : Nat → Nat → Nat) (h : Nat → Int → Int) (x1 : Int) (x2 : Int) (x3 : Int) (K : Int → (Nat → Int → Int) → Prop) : Prop := RI 47 0 [some (mvR 68), some (mvI x1), some (mvI x2), some (mvI x3), none] [] g h K
theorem MD_eventNow_wp {sw : Bool} {g : Nat → Nat → Nat} {h : Nat → Int → Int} {x1 : Int} {x2 : Int} {x3 : Int} {K : Int → (Nat → Int → Int) → Prop} (hG : Gok sw g)  (H :
  (∀ v1, v1 = (mw ((mw (9 * x1)) + x2)) →
  (((x3 < 0 ∨ 2 < x3) →
    (((h 68 0) ≤ (mw (x3 - 3)) →
      K (-1) h) ∧
    ((mw (x3 - 3)) < (h 68 0) →
      (0 ≤ (mw ((mw ((mw (4 * v1)) + x3)) - 3)) ∧ (mw ((mw ((mw (4 * v1)) + x3)) - 3)) < 144) ∧
      K (h 73 (mw ((mw ((mw (4 * v1)) + x3)) - 3))) h))) ∧
  (x3 = 0 →
    (0 ≤ v1 ∧ v1 < 36) ∧
    K (h 70 v1) h) ∧
  (x3 = 1 →
    (0 ≤ v1 ∧ v1 < 36) ∧
    K (h 71 v1) h) ∧
  (x3 = 2 →
    (0 ≤ v1 ∧ v1 < 36) ∧
    K (h 72 v1) h)))) : MD_eventNow g h x1 x2 x3 K := by
  refine rc_bipush mq47 (mvDec_of cd47 rfl) (by decide) ?_
  refine rc_iload_n mq47 (mvDec_of cd47 rfl) rfl ?_
  refine rc_imul mq47 (mvDec_of cd47 rfl) ?_
  refine rc_iload_n mq47 (mvDec_of cd47 rfl) rfl ?_
  refine rc_iadd mq47 (mvDec_of cd47 rfl) ?_
  refine rc_top (fun v1 hv => ?_)
  replace H := H v1 hv
  refine rc_istore [some (mvR 68), some (mvI x1), some (mvI x2), some (mvI x3), some (mvI v1)] mq47 (mvDec_of cd47 rfl) rfl ?_
  refine rc_iload_n mq47 (mvDec_of cd47 rfl) rfl ?_
  have hsw : (x3 < 0 ∨ 2 < x3) ∨ x3 = 0 ∨ x3 = 1 ∨ x3 = 2 := by omega
  rcases hsw with hsw | hsw | hsw | hsw
  · replace H := H.1 hsw
    refine rc_swD (t := 60) mq47 (mvDec_of cd47 rfl) hsw rfl ?_
    refine rc_iload_n mq47 (mvDec_of cd47 rfl) rfl ?_
    refine rc_iconst mq47 (mvDec_of cd47 rfl) (by decide) ?_
    refine rc_isub mq47 (mvDec_of cd47 rfl) ?_
    refine rc_aload_n mq47 (mvDec_of cd47 rfl) rfl ?_
    refine rc_getI 0 mq47 (mvDec_of cd47 rfl) fl_10_138 mis68 rfl (by decide) (by decide) ?_
    refine rc_icmp_ge (t := 86) mq47 (mvDec_of cd47 rfl) rfl (fun hc => ?_) (fun hc => ?_)
    · replace H := H.1 hc
      refine rc_iconst mq47 (mvDec_of cd47 rfl) (by decide) ?_
      exact rc_iret mq47 (mvDec_of cd47 rfl) ⟨_, _, rfl, rfl, H⟩
    · replace H := H.2 hc
      refine rc_aload_n mq47 (mvDec_of cd47 rfl) rfl ?_
      refine rc_getR 73 mq47 (mvDec_of cd47 rfl) fl_10_22 mis68 rfl (gr_68_5 hG) (by decide) ?_
      refine rc_iconst mq47 (mvDec_of cd47 rfl) (by decide) ?_
      refine rc_iload mq47 (mvDec_of cd47 rfl) rfl ?_
      refine rc_imul mq47 (mvDec_of cd47 rfl) ?_
      refine rc_iload_n mq47 (mvDec_of cd47 rfl) rfl ?_
      refine rc_iadd mq47 (mvDec_of cd47 rfl) ?_
      refine rc_iconst mq47 (mvDec_of cd47 rfl) (by decide) ?_
      refine rc_isub mq47 (mvDec_of cd47 rfl) ?_
      obtain ⟨⟨hb0, hb1⟩, H⟩ := H
      refine rc_iald mq47 (mvDec_of cd47 rfl) mis73 hb0 hb1 ?_
      refine rc_goto (t := 87) mq47 (mvDec_of cd47 rfl) rfl ?_
      exact rc_iret mq47 (mvDec_of cd47 rfl) ⟨_, _, rfl, rfl, H⟩
  · replace H := H.2.1 hsw
    refine rc_swI (t := 36) mq47 (mvDec_of cd47 rfl) (by omega) (by rw [hsw]; rfl) rfl ?_
    refine rc_aload_n mq47 (mvDec_of cd47 rfl) rfl ?_
    refine rc_getR 70 mq47 (mvDec_of cd47 rfl) fl_10_13 mis68 rfl (gr_68_2 hG) (by decide) ?_
    refine rc_iload mq47 (mvDec_of cd47 rfl) rfl ?_
    obtain ⟨⟨hb0, hb1⟩, H⟩ := H
    refine rc_iald mq47 (mvDec_of cd47 rfl) mis70 hb0 hb1 ?_
    exact rc_iret mq47 (mvDec_of cd47 rfl) ⟨_, _, rfl, rfl, H⟩
  · replace H := H.2.2.1 hsw
    refine rc_swI (t := 44) mq47 (mvDec_of cd47 rfl) (by omega) (by rw [hsw]; rfl) rfl ?_
    refine rc_aload_n mq47 (mvDec_of cd47 rfl) rfl ?_
    refine rc_getR 71 mq47 (mvDec_of cd47 rfl) fl_10_16 mis68 rfl (gr_68_3 hG) (by decide) ?_
    refine rc_iload mq47 (mvDec_of cd47 rfl) rfl ?_
    obtain ⟨⟨hb0, hb1⟩, H⟩ := H
    refine rc_iald mq47 (mvDec_of cd47 rfl) mis71 hb0 hb1 ?_
    exact rc_iret mq47 (mvDec_of cd47 rfl) ⟨_, _, rfl, rfl, H⟩
  · replace H := H.2.2.2 hsw
    refine rc_swI (t := 52) mq47 (mvDec_of cd47 rfl) (by omega) (by rw [hsw]; rfl) rfl ?_
    refine rc_aload_n mq47 (mvDec_of cd47 rfl) rfl ?_
    refine rc_getR 72 mq47 (mvDec_of cd47 rfl) fl_10_19 mis68 rfl (gr_68_4 hG) (by decide) ?_
    refine rc_iload mq47 (mvDec_of cd47 rfl) rfl ?_
    obtain ⟨⟨hb0, hb1⟩, H⟩ := H
    refine rc_iald mq47 (mvDec_of cd47 rfl) mis72 hb0 hb1 ?_
    exact rc_iret mq47 (mvDec_of cd47 rfl) ⟨_, _, rfl, rfl, H⟩
abbrev MD_isAhead (g : Nat → Nat → Nat) (h : Nat → Int → Int) (x1 : Int) (x2 : Int) (x3 : Int) (x4 : Int) (K : Int → (Nat → Int → Int) → Prop) : Prop := RI 48 0 [some (mvR 68), some (mvI x1), some (mvI x2), some (mvI x3), some (mvI x4)] [] g h K
theorem MD_isAhead_wp {sw : Bool} {g : Nat → Nat → Nat} {h : Nat → Int → Int} {x1 : Int} {x2 : Int} {x3 : Int} {x4 : Int} {K : Int → (Nat → Int → Int) → Prop} (hG : Gok sw g)  (H :
  (0 ≤ (mw ((mw (4 * (mw ((mw (9 * x3)) + x4)))) + x1)) ∧ (mw ((mw (4 * (mw ((mw (9 * x3)) + x4)))) + x1)) < 144) ∧
  (((h 73 (mw ((mw (4 * (mw ((mw (9 * x3)) + x4)))) + x1))) ≤ x2 →
    K 0 h) ∧
  (x2 < (h 73 (mw ((mw (4 * (mw ((mw (9 * x3)) + x4)))) + x1))) →
    ((¬ x1 = x3 →
      K 1 h) ∧
    (x1 = x3 →
      ((x2 = x4 →
        K 0 h) ∧
      (¬ x2 = x4 →
        K 1 h))))))) : MD_isAhead g h x1 x2 x3 x4 K := by
  refine rc_aload_n mq48 (mvDec_of cd48 rfl) rfl ?_
  refine rc_getR 73 mq48 (mvDec_of cd48 rfl) fl_10_22 mis68 rfl (gr_68_5 hG) (by decide) ?_
  refine rc_iconst mq48 (mvDec_of cd48 rfl) (by decide) ?_
  refine rc_bipush mq48 (mvDec_of cd48 rfl) (by decide) ?_
  refine rc_iload_n mq48 (mvDec_of cd48 rfl) rfl ?_
  refine rc_imul mq48 (mvDec_of cd48 rfl) ?_
  refine rc_iload mq48 (mvDec_of cd48 rfl) rfl ?_
  refine rc_iadd mq48 (mvDec_of cd48 rfl) ?_
  refine rc_imul mq48 (mvDec_of cd48 rfl) ?_
  refine rc_iload_n mq48 (mvDec_of cd48 rfl) rfl ?_
  refine rc_iadd mq48 (mvDec_of cd48 rfl) ?_
  obtain ⟨⟨hb0, hb1⟩, H⟩ := H
  refine rc_iald mq48 (mvDec_of cd48 rfl) mis73 hb0 hb1 ?_
  refine rc_iload_n mq48 (mvDec_of cd48 rfl) rfl ?_
  refine rc_icmp_le (t := 35) mq48 (mvDec_of cd48 rfl) rfl (fun hc => ?_) (fun hc => ?_)
  · replace H := H.1 hc
    refine rc_iconst mq48 (mvDec_of cd48 rfl) (by decide) ?_
    exact rc_zret mq48 (mvDec_of cd48 rfl) (Or.inl rfl) ⟨_, _, rfl, rfl, H⟩
  · replace H := H.2 hc
    refine rc_iload_n mq48 (mvDec_of cd48 rfl) rfl ?_
    refine rc_iload_n mq48 (mvDec_of cd48 rfl) rfl ?_
    refine rc_icmp_ne (t := 31) mq48 (mvDec_of cd48 rfl) rfl (fun hc => ?_) (fun hc => ?_)
    · replace H := H.1 hc
      refine rc_iconst mq48 (mvDec_of cd48 rfl) (by decide) ?_
      refine rc_goto (t := 36) mq48 (mvDec_of cd48 rfl) rfl ?_
      exact rc_zret mq48 (mvDec_of cd48 rfl) (Or.inr rfl) ⟨_, _, rfl, rfl, H⟩
    · replace H := H.2 hc
      refine rc_iload_n mq48 (mvDec_of cd48 rfl) rfl ?_
      refine rc_iload mq48 (mvDec_of cd48 rfl) rfl ?_
      refine rc_icmp_eq (t := 35) mq48 (mvDec_of cd48 rfl) rfl (fun hc => ?_) (fun hc => ?_)
      · replace H := H.1 hc
        refine rc_iconst mq48 (mvDec_of cd48 rfl) (by decide) ?_
        exact rc_zret mq48 (mvDec_of cd48 rfl) (Or.inl rfl) ⟨_, _, rfl, rfl, H⟩
      · replace H := H.2 hc
        refine rc_iconst mq48 (mvDec_of cd48 rfl) (by decide) ?_
        refine rc_goto (t := 36) mq48 (mvDec_of cd48 rfl) rfl ?_
        exact rc_zret mq48 (mvDec_of cd48 rfl) (Or.inr rfl) ⟨_, _, rfl, rfl, H⟩
abbrev MD_cutsAll (g : Nat → Nat → Nat) (h : Nat → Int → Int)  (K : Int → (Nat → Int → Int) → Prop) : Prop := RI 49 0 [some (mvR 68), none, none] [] g h K
abbrev MD_cutsAll_4 (g : Nat → Nat → Nat) (h : Nat → Int → Int) (l1 : Int) (l2 : Int) (K : Int → (Nat → Int → Int) → Prop) : Prop := RI 49 4 [some (mvR 68), some (mvI l1), some (mvI l2)] [] g h K
theorem MD_cutsAll_wp {sw : Bool} {g : Nat → Nat → Nat} {h : Nat → Int → Int}  {K : Int → (Nat → Int → Int) → Prop} (hG : Gok sw g)  (H :
  MD_cutsAll_4 g h 1 0 K) : MD_cutsAll g h  K := by
  refine rc_iconst mq49 (mvDec_of cd49 rfl) (by decide) ?_
  refine rc_istore_n [some (mvR 68), some (mvI 1), none] mq49 (mvDec_of cd49 rfl) rfl ?_
  refine rc_iconst mq49 (mvDec_of cd49 rfl) (by decide) ?_
  refine rc_istore_n [some (mvR 68), some (mvI 1), some (mvI 0)] mq49 (mvDec_of cd49 rfl) rfl ?_
  exact H
theorem MD_cutsAll_4_wp {sw : Bool} {g : Nat → Nat → Nat} {h : Nat → Int → Int} {l1 : Int} {l2 : Int} {K : Int → (Nat → Int → Int) → Prop} (hG : Gok sw g)  (H :
  (((h 68 0) ≤ l2 →
    K l1 h) ∧
  (l2 < (h 68 0) →
    (0 ≤ l2 ∧ l2 < 4) ∧
    (∀ v1, v1 = (mw (l1 * (mw ((h 69 l2) + 1)))) →
    MD_cutsAll_4 g h v1 (mw (l2 + 1)) K)))) : MD_cutsAll_4 g h l1 l2 K := by
  refine rc_iload_n mq49 (mvDec_of cd49 rfl) rfl ?_
  refine rc_aload_n mq49 (mvDec_of cd49 rfl) rfl ?_
  refine rc_getI 0 mq49 (mvDec_of cd49 rfl) fl_10_138 mis68 rfl (by decide) (by decide) ?_
  refine rc_icmp_ge (t := 29) mq49 (mvDec_of cd49 rfl) rfl (fun hc => ?_) (fun hc => ?_)
  · replace H := H.1 hc
    refine rc_iload_n mq49 (mvDec_of cd49 rfl) rfl ?_
    exact rc_iret mq49 (mvDec_of cd49 rfl) ⟨_, _, rfl, rfl, H⟩
  · replace H := H.2 hc
    refine rc_iload_n mq49 (mvDec_of cd49 rfl) rfl ?_
    refine rc_aload_n mq49 (mvDec_of cd49 rfl) rfl ?_
    refine rc_getR 69 mq49 (mvDec_of cd49 rfl) fl_10_7 mis68 rfl (gr_68_1 hG) (by decide) ?_
    refine rc_iload_n mq49 (mvDec_of cd49 rfl) rfl ?_
    obtain ⟨⟨hb0, hb1⟩, H⟩ := H
    refine rc_iald mq49 (mvDec_of cd49 rfl) mis69 hb0 hb1 ?_
    refine rc_iconst mq49 (mvDec_of cd49 rfl) (by decide) ?_
    refine rc_iadd mq49 (mvDec_of cd49 rfl) ?_
    refine rc_imul mq49 (mvDec_of cd49 rfl) ?_
    refine rc_top (fun v1 hv => ?_)
    replace H := H v1 hv
    refine rc_istore_n [some (mvR 68), some (mvI v1), some (mvI l2)] mq49 (mvDec_of cd49 rfl) rfl ?_
    refine rc_iinc [some (mvR 68), some (mvI v1), some (mvI (mw (l2 + 1)))] mq49 (mvDec_of cd49 rfl) rfl rfl ?_
    refine rc_goto (t := 4) mq49 (mvDec_of cd49 rfl) rfl ?_
    exact H
abbrev MD_take (g : Nat → Nat → Nat) (h : Nat → Int → Int) (x1 : Int) (K : (Nat → Int → Int) → Prop) : Prop := RV 50 0 [some (mvR 68), some (mvI x1), none, none] [] g h K
abbrev MD_take_9 (g : Nat → Nat → Nat) (h : Nat → Int → Int) (u1 : Option Int) (l2 : Int) (l3 : Int) (K : (Nat → Int → Int) → Prop) : Prop := RV 50 9 [some (mvR 68), u1.map mvI, some (mvI l2), some (mvI l3)] [] g h K
theorem MD_take_wp {sw : Bool} {g : Nat → Nat → Nat} {h : Nat → Int → Int} {x1 : Int} {K : (Nat → Int → Int) → Prop} (hG : Gok sw g)  (H :
  (∀ v1, v1 = (mw ((h 68 0) - 1)) →
  MD_take_9 g h (some x1) x1 v1 K)) : MD_take g h x1 K := by
  refine rc_iload_n mq50 (mvDec_of cd50 rfl) rfl ?_
  refine rc_istore_n [some (mvR 68), some (mvI x1), some (mvI x1), none] mq50 (mvDec_of cd50 rfl) rfl ?_
  refine rc_aload_n mq50 (mvDec_of cd50 rfl) rfl ?_
  refine rc_getI 0 mq50 (mvDec_of cd50 rfl) fl_10_138 mis68 rfl (by decide) (by decide) ?_
  refine rc_iconst mq50 (mvDec_of cd50 rfl) (by decide) ?_
  refine rc_isub mq50 (mvDec_of cd50 rfl) ?_
  refine rc_top (fun v1 hv => ?_)
  replace H := H v1 hv
  refine rc_istore_n [some (mvR 68), some (mvI x1), some (mvI x1), some (mvI v1)] mq50 (mvDec_of cd50 rfl) rfl ?_
  exact H
theorem MD_take_9_wp {sw : Bool} {g : Nat → Nat → Nat} {h : Nat → Int → Int} {u1 : Option Int} {l2 : Int} {l3 : Int} {K : (Nat → Int → Int) → Prop} (hG : Gok sw g)  (H :
  ((l3 < 0 →
    K h) ∧
  (0 ≤ l3 →
    (0 ≤ l3 ∧ l3 < 4) ∧
    (¬ (mw ((h 69 l3) + 1)) = 0) ∧
    (0 ≤ l3 ∧ l3 < 4) ∧
    (∀ h1, h1 = mvUpd h 81 l3 (l2.tmod (mw ((h 69 l3) + 1))) →
    (0 ≤ l3 ∧ l3 < 4) ∧
    (¬ (mw ((h1 69 l3) + 1)) = 0) ∧
    (∀ v2, v2 = (mw (l2.tdiv (mw ((h1 69 l3) + 1)))) →
    MD_take_9 g h1 u1 v2 (mw (l3 + (-1))) K))))) : MD_take_9 g h u1 l2 l3 K := by
  refine rc_iload_n mq50 (mvDec_of cd50 rfl) rfl ?_
  refine rc_if_lt (t := 46) mq50 (mvDec_of cd50 rfl) rfl (fun hc => ?_) (fun hc => ?_)
  · replace H := H.1 hc
    exact rc_vret mq50 (mvDec_of cd50 rfl) ⟨_, rfl, rfl, H⟩
  · replace H := H.2 hc
    refine rc_aload_n mq50 (mvDec_of cd50 rfl) rfl ?_
    refine rc_getR 81 mq50 (mvDec_of cd50 rfl) fl_10_46 mis68 rfl (gr_68_26 hG) (by decide) ?_
    refine rc_iload_n mq50 (mvDec_of cd50 rfl) rfl ?_
    refine rc_iload_n mq50 (mvDec_of cd50 rfl) rfl ?_
    refine rc_aload_n mq50 (mvDec_of cd50 rfl) rfl ?_
    refine rc_getR 69 mq50 (mvDec_of cd50 rfl) fl_10_7 mis68 rfl (gr_68_1 hG) (by decide) ?_
    refine rc_iload_n mq50 (mvDec_of cd50 rfl) rfl ?_
    obtain ⟨⟨hb0, hb1⟩, H⟩ := H
    refine rc_iald mq50 (mvDec_of cd50 rfl) mis69 hb0 hb1 ?_
    refine rc_iconst mq50 (mvDec_of cd50 rfl) (by decide) ?_
    refine rc_iadd mq50 (mvDec_of cd50 rfl) ?_
    obtain ⟨hb, H⟩ := H
    refine rc_irem mq50 (mvDec_of cd50 rfl) hb ?_
    obtain ⟨⟨hb0, hb1⟩, H⟩ := H
    refine rc_iast mq50 (mvDec_of cd50 rfl) mis81 hb0 hb1 ?_
    refine rc_heap (fun h1 hh => ?_)
    replace H := H h1 hh
    refine rc_iload_n mq50 (mvDec_of cd50 rfl) rfl ?_
    refine rc_aload_n mq50 (mvDec_of cd50 rfl) rfl ?_
    refine rc_getR 69 mq50 (mvDec_of cd50 rfl) fl_10_7 mis68 rfl (gr_68_1 hG) (by decide) ?_
    refine rc_iload_n mq50 (mvDec_of cd50 rfl) rfl ?_
    obtain ⟨⟨hb0, hb1⟩, H⟩ := H
    refine rc_iald mq50 (mvDec_of cd50 rfl) mis69 hb0 hb1 ?_
    refine rc_iconst mq50 (mvDec_of cd50 rfl) (by decide) ?_
    refine rc_iadd mq50 (mvDec_of cd50 rfl) ?_
    obtain ⟨hb, H⟩ := H
    refine rc_idiv mq50 (mvDec_of cd50 rfl) hb ?_
    refine rc_top (fun v2 hv => ?_)
    replace H := H v2 hv
    refine rc_istore_n [some (mvR 68), u1.map mvI, some (mvI v2), some (mvI l3)] mq50 (mvDec_of cd50 rfl) (by cases u1 <;> rfl) ?_
    refine rc_iinc [some (mvR 68), u1.map mvI, some (mvI v2), some (mvI (mw (l3 + (-1))))] mq50 (mvDec_of cd50 rfl) rfl rfl ?_
    refine rc_goto (t := 9) mq50 (mvDec_of cd50 rfl) rfl ?_
    exact H
abbrev MD_stride (g : Nat → Nat → Nat) (h : Nat → Int → Int) (x1 : Int) (K : Int → (Nat → Int → Int) → Prop) : Prop := RI 51 0 [some (mvR 68), some (mvI x1), none, none] [] g h K
abbrev MD_stride_6 (g : Nat → Nat → Nat) (h : Nat → Int → Int) (u1 : Option Int) (l2 : Int) (l3 : Int) (K : Int → (Nat → Int → Int) → Prop) : Prop := RI 51 6 [some (mvR 68), u1.map mvI, some (mvI l2), some (mvI l3)] [] g h K
theorem MD_stride_wp {sw : Bool} {g : Nat → Nat → Nat} {h : Nat → Int → Int} {x1 : Int} {K : Int → (Nat → Int → Int) → Prop} (hG : Gok sw g)  (H :
  (∀ v1, v1 = (mw (x1 + 1)) →
  MD_stride_6 g h (some x1) 1 v1 K)) : MD_stride g h x1 K := by
  refine rc_iconst mq51 (mvDec_of cd51 rfl) (by decide) ?_
  refine rc_istore_n [some (mvR 68), some (mvI x1), some (mvI 1), none] mq51 (mvDec_of cd51 rfl) rfl ?_
  refine rc_iload_n mq51 (mvDec_of cd51 rfl) rfl ?_
  refine rc_iconst mq51 (mvDec_of cd51 rfl) (by decide) ?_
  refine rc_iadd mq51 (mvDec_of cd51 rfl) ?_
  refine rc_top (fun v1 hv => ?_)
  replace H := H v1 hv
  refine rc_istore_n [some (mvR 68), some (mvI x1), some (mvI 1), some (mvI v1)] mq51 (mvDec_of cd51 rfl) rfl ?_
  exact H
theorem MD_stride_6_wp {sw : Bool} {g : Nat → Nat → Nat} {h : Nat → Int → Int} {u1 : Option Int} {l2 : Int} {l3 : Int} {K : Int → (Nat → Int → Int) → Prop} (hG : Gok sw g)  (H :
  (((h 68 0) ≤ l3 →
    K l2 h) ∧
  (l3 < (h 68 0) →
    (0 ≤ l3 ∧ l3 < 4) ∧
    (∀ v1, v1 = (mw (l2 * (mw ((h 69 l3) + 1)))) →
    MD_stride_6 g h u1 v1 (mw (l3 + 1)) K)))) : MD_stride_6 g h u1 l2 l3 K := by
  refine rc_iload_n mq51 (mvDec_of cd51 rfl) rfl ?_
  refine rc_aload_n mq51 (mvDec_of cd51 rfl) rfl ?_
  refine rc_getI 0 mq51 (mvDec_of cd51 rfl) fl_10_138 mis68 rfl (by decide) (by decide) ?_
  refine rc_icmp_ge (t := 31) mq51 (mvDec_of cd51 rfl) rfl (fun hc => ?_) (fun hc => ?_)
  · replace H := H.1 hc
    refine rc_iload_n mq51 (mvDec_of cd51 rfl) rfl ?_
    exact rc_iret mq51 (mvDec_of cd51 rfl) ⟨_, _, rfl, rfl, H⟩
  · replace H := H.2 hc
    refine rc_iload_n mq51 (mvDec_of cd51 rfl) rfl ?_
    refine rc_aload_n mq51 (mvDec_of cd51 rfl) rfl ?_
    refine rc_getR 69 mq51 (mvDec_of cd51 rfl) fl_10_7 mis68 rfl (gr_68_1 hG) (by decide) ?_
    refine rc_iload_n mq51 (mvDec_of cd51 rfl) rfl ?_
    obtain ⟨⟨hb0, hb1⟩, H⟩ := H
    refine rc_iald mq51 (mvDec_of cd51 rfl) mis69 hb0 hb1 ?_
    refine rc_iconst mq51 (mvDec_of cd51 rfl) (by decide) ?_
    refine rc_iadd mq51 (mvDec_of cd51 rfl) ?_
    refine rc_imul mq51 (mvDec_of cd51 rfl) ?_
    refine rc_top (fun v1 hv => ?_)
    replace H := H v1 hv
    refine rc_istore_n [some (mvR 68), u1.map mvI, some (mvI v1), some (mvI l3)] mq51 (mvDec_of cd51 rfl) (by cases u1 <;> rfl) ?_
    refine rc_iinc [some (mvR 68), u1.map mvI, some (mvI v1), some (mvI (mw (l3 + 1)))] mq51 (mvDec_of cd51 rfl) rfl rfl ?_
    refine rc_goto (t := 6) mq51 (mvDec_of cd51 rfl) rfl ?_
    exact H
abbrev MD_indexNow (g : Nat → Nat → Nat) (h : Nat → Int → Int)  (K : Int → (Nat → Int → Int) → Prop) : Prop := RI 52 0 [some (mvR 68), none, none] [] g h K
abbrev MD_indexNow_4 (g : Nat → Nat → Nat) (h : Nat → Int → Int) (l1 : Int) (l2 : Int) (K : Int → (Nat → Int → Int) → Prop) : Prop := RI 52 4 [some (mvR 68), some (mvI l1), some (mvI l2)] [] g h K
theorem MD_indexNow_wp {sw : Bool} {g : Nat → Nat → Nat} {h : Nat → Int → Int}  {K : Int → (Nat → Int → Int) → Prop} (hG : Gok sw g)  (H :
  MD_indexNow_4 g h 0 0 K) : MD_indexNow g h  K := by
  refine rc_iconst mq52 (mvDec_of cd52 rfl) (by decide) ?_
  refine rc_istore_n [some (mvR 68), some (mvI 0), none] mq52 (mvDec_of cd52 rfl) rfl ?_
  refine rc_iconst mq52 (mvDec_of cd52 rfl) (by decide) ?_
  refine rc_istore_n [some (mvR 68), some (mvI 0), some (mvI 0)] mq52 (mvDec_of cd52 rfl) rfl ?_
  exact H
theorem MD_indexNow_4_wp {sw : Bool} {g : Nat → Nat → Nat} {h : Nat → Int → Int} {l1 : Int} {l2 : Int} {K : Int → (Nat → Int → Int) → Prop} (hG : Gok sw g)  (H :
  (((h 68 0) ≤ l2 →
    K l1 h) ∧
  (l2 < (h 68 0) →
    (0 ≤ l2 ∧ l2 < 4) ∧
    (0 ≤ l2 ∧ l2 < 4) ∧
    (∀ v1, v1 = (mw ((mw (l1 * (mw ((h 69 l2) + 1)))) + (h 81 l2))) →
    MD_indexNow_4 g h v1 (mw (l2 + 1)) K)))) : MD_indexNow_4 g h l1 l2 K := by
  refine rc_iload_n mq52 (mvDec_of cd52 rfl) rfl ?_
  refine rc_aload_n mq52 (mvDec_of cd52 rfl) rfl ?_
  refine rc_getI 0 mq52 (mvDec_of cd52 rfl) fl_10_138 mis68 rfl (by decide) (by decide) ?_
  refine rc_icmp_ge (t := 36) mq52 (mvDec_of cd52 rfl) rfl (fun hc => ?_) (fun hc => ?_)
  · replace H := H.1 hc
    refine rc_iload_n mq52 (mvDec_of cd52 rfl) rfl ?_
    exact rc_iret mq52 (mvDec_of cd52 rfl) ⟨_, _, rfl, rfl, H⟩
  · replace H := H.2 hc
    refine rc_iload_n mq52 (mvDec_of cd52 rfl) rfl ?_
    refine rc_aload_n mq52 (mvDec_of cd52 rfl) rfl ?_
    refine rc_getR 69 mq52 (mvDec_of cd52 rfl) fl_10_7 mis68 rfl (gr_68_1 hG) (by decide) ?_
    refine rc_iload_n mq52 (mvDec_of cd52 rfl) rfl ?_
    obtain ⟨⟨hb0, hb1⟩, H⟩ := H
    refine rc_iald mq52 (mvDec_of cd52 rfl) mis69 hb0 hb1 ?_
    refine rc_iconst mq52 (mvDec_of cd52 rfl) (by decide) ?_
    refine rc_iadd mq52 (mvDec_of cd52 rfl) ?_
    refine rc_imul mq52 (mvDec_of cd52 rfl) ?_
    refine rc_aload_n mq52 (mvDec_of cd52 rfl) rfl ?_
    refine rc_getR 81 mq52 (mvDec_of cd52 rfl) fl_10_46 mis68 rfl (gr_68_26 hG) (by decide) ?_
    refine rc_iload_n mq52 (mvDec_of cd52 rfl) rfl ?_
    obtain ⟨⟨hb0, hb1⟩, H⟩ := H
    refine rc_iald mq52 (mvDec_of cd52 rfl) mis81 hb0 hb1 ?_
    refine rc_iadd mq52 (mvDec_of cd52 rfl) ?_
    refine rc_top (fun v1 hv => ?_)
    replace H := H v1 hv
    refine rc_istore_n [some (mvR 68), some (mvI v1), some (mvI l2)] mq52 (mvDec_of cd52 rfl) rfl ?_
    refine rc_iinc [some (mvR 68), some (mvI v1), some (mvI (mw (l2 + 1)))] mq52 (mvDec_of cd52 rfl) rfl rfl ?_
    refine rc_goto (t := 4) mq52 (mvDec_of cd52 rfl) rfl ?_
    exact H
abbrev MD_toldNow (g : Nat → Nat → Nat) (h : Nat → Int → Int)  (K : Int → (Nat → Int → Int) → Prop) : Prop := RI 53 0 [some (mvR 68), none, none] [] g h K
abbrev MD_toldNow_4 (g : Nat → Nat → Nat) (h : Nat → Int → Int) (l1 : Int) (l2 : Int) (K : Int → (Nat → Int → Int) → Prop) : Prop := RI 53 4 [some (mvR 68), some (mvI l1), some (mvI l2)] [] g h K
theorem MD_toldNow_wp {sw : Bool} {g : Nat → Nat → Nat} {h : Nat → Int → Int}  {K : Int → (Nat → Int → Int) → Prop} (hG : Gok sw g)  (H :
  MD_toldNow_4 g h 0 0 K) : MD_toldNow g h  K := by
  refine rc_iconst mq53 (mvDec_of cd53 rfl) (by decide) ?_
  refine rc_istore_n [some (mvR 68), some (mvI 0), none] mq53 (mvDec_of cd53 rfl) rfl ?_
  refine rc_iconst mq53 (mvDec_of cd53 rfl) (by decide) ?_
  refine rc_istore_n [some (mvR 68), some (mvI 0), some (mvI 0)] mq53 (mvDec_of cd53 rfl) rfl ?_
  exact H
theorem MD_toldNow_4_wp {sw : Bool} {g : Nat → Nat → Nat} {h : Nat → Int → Int} {l1 : Int} {l2 : Int} {K : Int → (Nat → Int → Int) → Prop} (hG : Gok sw g)  (H :
  (((h 68 0) ≤ l2 →
    K l1 h) ∧
  (l2 < (h 68 0) →
    (0 ≤ l2 ∧ l2 < 4) ∧
    (∀ v1, v1 = (mw ((mw (l1 * 10)) + (h 81 l2))) →
    MD_toldNow_4 g h v1 (mw (l2 + 1)) K)))) : MD_toldNow_4 g h l1 l2 K := by
  refine rc_iload_n mq53 (mvDec_of cd53 rfl) rfl ?_
  refine rc_aload_n mq53 (mvDec_of cd53 rfl) rfl ?_
  refine rc_getI 0 mq53 (mvDec_of cd53 rfl) fl_10_138 mis68 rfl (by decide) (by decide) ?_
  refine rc_icmp_ge (t := 30) mq53 (mvDec_of cd53 rfl) rfl (fun hc => ?_) (fun hc => ?_)
  · replace H := H.1 hc
    refine rc_iload_n mq53 (mvDec_of cd53 rfl) rfl ?_
    exact rc_iret mq53 (mvDec_of cd53 rfl) ⟨_, _, rfl, rfl, H⟩
  · replace H := H.2 hc
    refine rc_iload_n mq53 (mvDec_of cd53 rfl) rfl ?_
    refine rc_bipush mq53 (mvDec_of cd53 rfl) (by decide) ?_
    refine rc_imul mq53 (mvDec_of cd53 rfl) ?_
    refine rc_aload_n mq53 (mvDec_of cd53 rfl) rfl ?_
    refine rc_getR 81 mq53 (mvDec_of cd53 rfl) fl_10_46 mis68 rfl (gr_68_26 hG) (by decide) ?_
    refine rc_iload_n mq53 (mvDec_of cd53 rfl) rfl ?_
    obtain ⟨⟨hb0, hb1⟩, H⟩ := H
    refine rc_iald mq53 (mvDec_of cd53 rfl) mis81 hb0 hb1 ?_
    refine rc_iadd mq53 (mvDec_of cd53 rfl) ?_
    refine rc_top (fun v1 hv => ?_)
    replace H := H v1 hv
    refine rc_istore_n [some (mvR 68), some (mvI v1), some (mvI l2)] mq53 (mvDec_of cd53 rfl) rfl ?_
    refine rc_iinc [some (mvR 68), some (mvI v1), some (mvI (mw (l2 + 1)))] mq53 (mvDec_of cd53 rfl) rfl rfl ?_
    refine rc_goto (t := 4) mq53 (mvDec_of cd53 rfl) rfl ?_
    exact H
abbrev MD_takesTold (g : Nat → Nat → Nat) (h : Nat → Int → Int) (x1 : Int) (K : Int → (Nat → Int → Int) → Prop) : Prop := RI 54 0 [some (mvR 68), some (mvI x1), none, none, none] [] g h K
abbrev MD_takesTold_20 (g : Nat → Nat → Nat) (h : Nat → Int → Int) (u1 : Option Int) (l2 : Int) (l3 : Int) (l4 : Int) (K : Int → (Nat → Int → Int) → Prop) : Prop := RI 54 20 [some (mvR 68), u1.map mvI, some (mvI l2), some (mvI l3), some (mvI l4)] [] g h K
theorem MD_takesTold_wp {sw : Bool} {g : Nat → Nat → Nat} {h : Nat → Int → Int} {x1 : Int} {K : Int → (Nat → Int → Int) → Prop} (hG : Gok sw g)  (H :
  ((x1 < 0 →
    (∀ v1, v1 = (mw ((h 68 0) - 1)) →
    MD_takesTold_20 g h (some x1) x1 0 v1 K)) ∧
  (0 ≤ x1 →
    (∀ v2, v2 = (mw ((h 68 0) - 1)) →
    MD_takesTold_20 g h (some x1) x1 1 v2 K)))) : MD_takesTold g h x1 K := by
  refine rc_iload_n mq54 (mvDec_of cd54 rfl) rfl ?_
  refine rc_istore_n [some (mvR 68), some (mvI x1), some (mvI x1), none, none] mq54 (mvDec_of cd54 rfl) rfl ?_
  refine rc_iload_n mq54 (mvDec_of cd54 rfl) rfl ?_
  refine rc_if_lt (t := 10) mq54 (mvDec_of cd54 rfl) rfl (fun hc => ?_) (fun hc => ?_)
  · replace H := H.1 hc
    refine rc_iconst mq54 (mvDec_of cd54 rfl) (by decide) ?_
    refine rc_istore_n [some (mvR 68), some (mvI x1), some (mvI x1), some (mvI 0), none] mq54 (mvDec_of cd54 rfl) rfl ?_
    refine rc_aload_n mq54 (mvDec_of cd54 rfl) rfl ?_
    refine rc_getI 0 mq54 (mvDec_of cd54 rfl) fl_10_138 mis68 rfl (by decide) (by decide) ?_
    refine rc_iconst mq54 (mvDec_of cd54 rfl) (by decide) ?_
    refine rc_isub mq54 (mvDec_of cd54 rfl) ?_
    refine rc_top (fun v1 hv => ?_)
    replace H := H v1 hv
    refine rc_istore [some (mvR 68), some (mvI x1), some (mvI x1), some (mvI 0), some (mvI v1)] mq54 (mvDec_of cd54 rfl) rfl ?_
    exact H
  · replace H := H.2 hc
    refine rc_iconst mq54 (mvDec_of cd54 rfl) (by decide) ?_
    refine rc_goto (t := 11) mq54 (mvDec_of cd54 rfl) rfl ?_
    refine rc_istore_n [some (mvR 68), some (mvI x1), some (mvI x1), some (mvI 1), none] mq54 (mvDec_of cd54 rfl) rfl ?_
    refine rc_aload_n mq54 (mvDec_of cd54 rfl) rfl ?_
    refine rc_getI 0 mq54 (mvDec_of cd54 rfl) fl_10_138 mis68 rfl (by decide) (by decide) ?_
    refine rc_iconst mq54 (mvDec_of cd54 rfl) (by decide) ?_
    refine rc_isub mq54 (mvDec_of cd54 rfl) ?_
    refine rc_top (fun v2 hv => ?_)
    replace H := H v2 hv
    refine rc_istore [some (mvR 68), some (mvI x1), some (mvI x1), some (mvI 1), some (mvI v2)] mq54 (mvDec_of cd54 rfl) rfl ?_
    exact H
theorem MD_takesTold_20_wp {sw : Bool} {g : Nat → Nat → Nat} {h : Nat → Int → Int} {u1 : Option Int} {l2 : Int} {l3 : Int} {l4 : Int} {K : Int → (Nat → Int → Int) → Prop} (hG : Gok sw g)  (H :
  ((l4 < 0 →
    ((l3 = 0 →
      K 0 h) ∧
    (¬ l3 = 0 →
      ((¬ l2 = 0 →
        K 0 h) ∧
      (l2 = 0 →
        K 1 h))))) ∧
  (0 ≤ l4 →
    (0 ≤ l4 ∧ l4 < 4) ∧
    (∀ h1, h1 = mvUpd h 81 l4 (l2.tmod 10) →
    (∀ v2, v2 = (mw (l2.tdiv 10)) →
    ((l3 = 0 →
      MD_takesTold_20 g h1 u1 v2 0 (mw (l4 + (-1))) K) ∧
    (¬ l3 = 0 →
      (0 ≤ l4 ∧ l4 < 4) ∧
      (0 ≤ l4 ∧ l4 < 4) ∧
      (((h1 69 l4) < (h1 81 l4) →
        MD_takesTold_20 g h1 u1 v2 0 (mw (l4 + (-1))) K) ∧
      ((h1 81 l4) ≤ (h1 69 l4) →
        MD_takesTold_20 g h1 u1 v2 1 (mw (l4 + (-1))) K))))))))) : MD_takesTold_20 g h u1 l2 l3 l4 K := by
  refine rc_iload mq54 (mvDec_of cd54 rfl) rfl ?_
  refine rc_if_lt (t := 74) mq54 (mvDec_of cd54 rfl) rfl (fun hc => ?_) (fun hc => ?_)
  · replace H := H.1 hc
    refine rc_iload_n mq54 (mvDec_of cd54 rfl) rfl ?_
    refine rc_if_eq (t := 86) mq54 (mvDec_of cd54 rfl) rfl (fun hc => ?_) (fun hc => ?_)
    · replace H := H.1 hc
      refine rc_iconst mq54 (mvDec_of cd54 rfl) (by decide) ?_
      exact rc_zret mq54 (mvDec_of cd54 rfl) (Or.inl rfl) ⟨_, _, rfl, rfl, H⟩
    · replace H := H.2 hc
      refine rc_iload_n mq54 (mvDec_of cd54 rfl) rfl ?_
      refine rc_if_ne (t := 86) mq54 (mvDec_of cd54 rfl) rfl (fun hc => ?_) (fun hc => ?_)
      · replace H := H.1 hc
        refine rc_iconst mq54 (mvDec_of cd54 rfl) (by decide) ?_
        exact rc_zret mq54 (mvDec_of cd54 rfl) (Or.inl rfl) ⟨_, _, rfl, rfl, H⟩
      · replace H := H.2 hc
        refine rc_iconst mq54 (mvDec_of cd54 rfl) (by decide) ?_
        refine rc_goto (t := 87) mq54 (mvDec_of cd54 rfl) rfl ?_
        exact rc_zret mq54 (mvDec_of cd54 rfl) (Or.inr rfl) ⟨_, _, rfl, rfl, H⟩
  · replace H := H.2 hc
    refine rc_aload_n mq54 (mvDec_of cd54 rfl) rfl ?_
    refine rc_getR 81 mq54 (mvDec_of cd54 rfl) fl_10_46 mis68 rfl (gr_68_26 hG) (by decide) ?_
    refine rc_iload mq54 (mvDec_of cd54 rfl) rfl ?_
    refine rc_iload_n mq54 (mvDec_of cd54 rfl) rfl ?_
    refine rc_bipush mq54 (mvDec_of cd54 rfl) (by decide) ?_
    refine rc_irem mq54 (mvDec_of cd54 rfl) (by decide) ?_
    obtain ⟨⟨hb0, hb1⟩, H⟩ := H
    refine rc_iast mq54 (mvDec_of cd54 rfl) mis81 hb0 hb1 ?_
    refine rc_heap (fun h1 hh => ?_)
    replace H := H h1 hh
    refine rc_iload_n mq54 (mvDec_of cd54 rfl) rfl ?_
    refine rc_bipush mq54 (mvDec_of cd54 rfl) (by decide) ?_
    refine rc_idiv mq54 (mvDec_of cd54 rfl) (by decide) ?_
    refine rc_top (fun v2 hv => ?_)
    replace H := H v2 hv
    refine rc_istore_n [some (mvR 68), u1.map mvI, some (mvI v2), some (mvI l3), some (mvI l4)] mq54 (mvDec_of cd54 rfl) (by cases u1 <;> rfl) ?_
    refine rc_iload_n mq54 (mvDec_of cd54 rfl) rfl ?_
    refine rc_if_eq (t := 66) mq54 (mvDec_of cd54 rfl) rfl (fun hc => ?_) (fun hc => ?_)
    · replace H := H.1 hc
      refine rc_iconst mq54 (mvDec_of cd54 rfl) (by decide) ?_
      refine rc_istore_n [some (mvR 68), u1.map mvI, some (mvI v2), some (mvI 0), some (mvI l4)] mq54 (mvDec_of cd54 rfl) rfl ?_
      refine rc_iinc [some (mvR 68), u1.map mvI, some (mvI v2), some (mvI 0), some (mvI (mw (l4 + (-1))))] mq54 (mvDec_of cd54 rfl) rfl rfl ?_
      refine rc_goto (t := 20) mq54 (mvDec_of cd54 rfl) rfl ?_
      exact H
    · replace H := H.2 hc
      refine rc_aload_n mq54 (mvDec_of cd54 rfl) rfl ?_
      refine rc_getR 81 mq54 (mvDec_of cd54 rfl) fl_10_46 mis68 rfl (gr_68_26 hG) (by decide) ?_
      refine rc_iload mq54 (mvDec_of cd54 rfl) rfl ?_
      obtain ⟨⟨hb0, hb1⟩, H⟩ := H
      refine rc_iald mq54 (mvDec_of cd54 rfl) mis81 hb0 hb1 ?_
      refine rc_aload_n mq54 (mvDec_of cd54 rfl) rfl ?_
      refine rc_getR 69 mq54 (mvDec_of cd54 rfl) fl_10_7 mis68 rfl (gr_68_1 hG) (by decide) ?_
      refine rc_iload mq54 (mvDec_of cd54 rfl) rfl ?_
      obtain ⟨⟨hb0, hb1⟩, H⟩ := H
      refine rc_iald mq54 (mvDec_of cd54 rfl) mis69 hb0 hb1 ?_
      refine rc_icmp_gt (t := 66) mq54 (mvDec_of cd54 rfl) rfl (fun hc => ?_) (fun hc => ?_)
      · replace H := H.1 hc
        refine rc_iconst mq54 (mvDec_of cd54 rfl) (by decide) ?_
        refine rc_istore_n [some (mvR 68), u1.map mvI, some (mvI v2), some (mvI 0), some (mvI l4)] mq54 (mvDec_of cd54 rfl) rfl ?_
        refine rc_iinc [some (mvR 68), u1.map mvI, some (mvI v2), some (mvI 0), some (mvI (mw (l4 + (-1))))] mq54 (mvDec_of cd54 rfl) rfl rfl ?_
        refine rc_goto (t := 20) mq54 (mvDec_of cd54 rfl) rfl ?_
        exact H
      · replace H := H.2 hc
        refine rc_iconst mq54 (mvDec_of cd54 rfl) (by decide) ?_
        refine rc_goto (t := 67) mq54 (mvDec_of cd54 rfl) rfl ?_
        refine rc_istore_n [some (mvR 68), u1.map mvI, some (mvI v2), some (mvI 1), some (mvI l4)] mq54 (mvDec_of cd54 rfl) rfl ?_
        refine rc_iinc [some (mvR 68), u1.map mvI, some (mvI v2), some (mvI 1), some (mvI (mw (l4 + (-1))))] mq54 (mvDec_of cd54 rfl) rfl rfl ?_
        refine rc_goto (t := 20) mq54 (mvDec_of cd54 rfl) rfl ?_
        exact H
abbrev MD_isConsistent (g : Nat → Nat → Nat) (h : Nat → Int → Int)  (K : Int → (Nat → Int → Int) → Prop) : Prop := RI 55 0 [some (mvR 68), none, none, none] [] g h K
abbrev MD_isConsistent_4 (g : Nat → Nat → Nat) (h : Nat → Int → Int) (l1 : Int) (l2 : Int) (u3 : Option Int) (K : Int → (Nat → Int → Int) → Prop) : Prop := RI 55 4 [some (mvR 68), some (mvI l1), some (mvI l2), u3.map mvI] [] g h K
abbrev MD_isConsistent_14 (g : Nat → Nat → Nat) (h : Nat → Int → Int) (l1 : Int) (l2 : Int) (l3 : Int) (K : Int → (Nat → Int → Int) → Prop) : Prop := RI 55 14 [some (mvR 68), some (mvI l1), some (mvI l2), some (mvI l3)] [] g h K
theorem MD_isConsistent_wp {sw : Bool} {g : Nat → Nat → Nat} {h : Nat → Int → Int}  {K : Int → (Nat → Int → Int) → Prop} (hG : Gok sw g)  (H :
  MD_isConsistent_4 g h 1 0 none K) : MD_isConsistent g h  K := by
  refine rc_iconst mq55 (mvDec_of cd55 rfl) (by decide) ?_
  refine rc_istore_n [some (mvR 68), some (mvI 1), none, none] mq55 (mvDec_of cd55 rfl) rfl ?_
  refine rc_iconst mq55 (mvDec_of cd55 rfl) (by decide) ?_
  refine rc_istore_n [some (mvR 68), some (mvI 1), some (mvI 0), none] mq55 (mvDec_of cd55 rfl) rfl ?_
  exact H
theorem MD_isConsistent_4_wp {sw : Bool} {g : Nat → Nat → Nat} {h : Nat → Int → Int} {l1 : Int} {l2 : Int} {u3 : Option Int} {K : Int → (Nat → Int → Int) → Prop} (hG : Gok sw g)  (H :
  (((h 68 0) ≤ l2 →
    (l1 = 0 ∨ l1 = 1) ∧ K l1 h) ∧
  (l2 < (h 68 0) →
    MD_isConsistent_14 g h l1 l2 0 K))) : MD_isConsistent_4 g h l1 l2 u3 K := by
  refine rc_iload_n mq55 (mvDec_of cd55 rfl) rfl ?_
  refine rc_aload_n mq55 (mvDec_of cd55 rfl) rfl ?_
  refine rc_getI 0 mq55 (mvDec_of cd55 rfl) fl_10_138 mis68 rfl (by decide) (by decide) ?_
  refine rc_icmp_ge (t := 84) mq55 (mvDec_of cd55 rfl) rfl (fun hc => ?_) (fun hc => ?_)
  · replace H := H.1 hc
    refine rc_iload_n mq55 (mvDec_of cd55 rfl) rfl ?_
    exact rc_zret mq55 (mvDec_of cd55 rfl) H.1 ⟨_, _, rfl, rfl, H.2⟩
  · replace H := H.2 hc
    refine rc_iconst mq55 (mvDec_of cd55 rfl) (by decide) ?_
    refine rc_istore_n [some (mvR 68), some (mvI l1), some (mvI l2), some (mvI 0)] mq55 (mvDec_of cd55 rfl) rfl ?_
    exact H
theorem MD_isConsistent_14_wp {sw : Bool} {g : Nat → Nat → Nat} {h : Nat → Int → Int} {l1 : Int} {l2 : Int} {l3 : Int} {K : Int → (Nat → Int → Int) → Prop} (hG : Gok sw g)  (H :
  (((h 68 0) ≤ l3 →
    MD_isConsistent_4 g h l1 (mw (l2 + 1)) (some l3) K) ∧
  (l3 < (h 68 0) →
    (0 ≤ l2 ∧ l2 < 4) ∧
    (((h 81 l2) ≤ 0 →
      MD_isConsistent_4 g h l1 (mw (l2 + 1)) (some l3) K) ∧
    (0 < (h 81 l2) →
      ((l1 = 0 →
        MD_isConsistent_14 g h 0 l2 (mw (l3 + 1)) K) ∧
      (¬ l1 = 0 →
        (0 ≤ l2 ∧ l2 < 4) ∧
        (0 ≤ (mw ((mw (4 * (mw ((mw ((mw (9 * l2)) + (h 81 l2))) - 1)))) + l3)) ∧ (mw ((mw (4 * (mw ((mw ((mw (9 * l2)) + (h 81 l2))) - 1)))) + l3)) < 144) ∧
        (0 ≤ l3 ∧ l3 < 4) ∧
        (((h 81 l3) < (h 73 (mw ((mw (4 * (mw ((mw ((mw (9 * l2)) + (h 81 l2))) - 1)))) + l3))) →
          MD_isConsistent_14 g h 0 l2 (mw (l3 + 1)) K) ∧
        ((h 73 (mw ((mw (4 * (mw ((mw ((mw (9 * l2)) + (h 81 l2))) - 1)))) + l3))) ≤ (h 81 l3) →
          MD_isConsistent_14 g h 1 l2 (mw (l3 + 1)) K))))))))) : MD_isConsistent_14 g h l1 l2 l3 K := by
  refine rc_iload_n mq55 (mvDec_of cd55 rfl) rfl ?_
  refine rc_aload_n mq55 (mvDec_of cd55 rfl) rfl ?_
  refine rc_getI 0 mq55 (mvDec_of cd55 rfl) fl_10_138 mis68 rfl (by decide) (by decide) ?_
  refine rc_icmp_ge (t := 78) mq55 (mvDec_of cd55 rfl) rfl (fun hc => ?_) (fun hc => ?_)
  · replace H := H.1 hc
    refine rc_iinc [some (mvR 68), some (mvI l1), some (mvI (mw (l2 + 1))), some (mvI l3)] mq55 (mvDec_of cd55 rfl) rfl rfl ?_
    refine rc_goto (t := 4) mq55 (mvDec_of cd55 rfl) rfl ?_
    exact H
  · replace H := H.2 hc
    refine rc_aload_n mq55 (mvDec_of cd55 rfl) rfl ?_
    refine rc_getR 81 mq55 (mvDec_of cd55 rfl) fl_10_46 mis68 rfl (gr_68_26 hG) (by decide) ?_
    refine rc_iload_n mq55 (mvDec_of cd55 rfl) rfl ?_
    obtain ⟨⟨hb0, hb1⟩, H⟩ := H
    refine rc_iald mq55 (mvDec_of cd55 rfl) mis81 hb0 hb1 ?_
    refine rc_if_le (t := 78) mq55 (mvDec_of cd55 rfl) rfl (fun hc => ?_) (fun hc => ?_)
    · replace H := H.1 hc
      refine rc_iinc [some (mvR 68), some (mvI l1), some (mvI (mw (l2 + 1))), some (mvI l3)] mq55 (mvDec_of cd55 rfl) rfl rfl ?_
      refine rc_goto (t := 4) mq55 (mvDec_of cd55 rfl) rfl ?_
      exact H
    · replace H := H.2 hc
      refine rc_iload_n mq55 (mvDec_of cd55 rfl) rfl ?_
      refine rc_if_eq (t := 70) mq55 (mvDec_of cd55 rfl) rfl (fun hc => ?_) (fun hc => ?_)
      · replace H := H.1 hc
        refine rc_iconst mq55 (mvDec_of cd55 rfl) (by decide) ?_
        refine rc_istore_n [some (mvR 68), some (mvI 0), some (mvI l2), some (mvI l3)] mq55 (mvDec_of cd55 rfl) rfl ?_
        refine rc_iinc [some (mvR 68), some (mvI 0), some (mvI l2), some (mvI (mw (l3 + 1)))] mq55 (mvDec_of cd55 rfl) rfl rfl ?_
        refine rc_goto (t := 14) mq55 (mvDec_of cd55 rfl) rfl ?_
        exact H
      · replace H := H.2 hc
        refine rc_aload_n mq55 (mvDec_of cd55 rfl) rfl ?_
        refine rc_getR 73 mq55 (mvDec_of cd55 rfl) fl_10_22 mis68 rfl (gr_68_5 hG) (by decide) ?_
        refine rc_iconst mq55 (mvDec_of cd55 rfl) (by decide) ?_
        refine rc_bipush mq55 (mvDec_of cd55 rfl) (by decide) ?_
        refine rc_iload_n mq55 (mvDec_of cd55 rfl) rfl ?_
        refine rc_imul mq55 (mvDec_of cd55 rfl) ?_
        refine rc_aload_n mq55 (mvDec_of cd55 rfl) rfl ?_
        refine rc_getR 81 mq55 (mvDec_of cd55 rfl) fl_10_46 mis68 rfl (gr_68_26 hG) (by decide) ?_
        refine rc_iload_n mq55 (mvDec_of cd55 rfl) rfl ?_
        obtain ⟨⟨hb0, hb1⟩, H⟩ := H
        refine rc_iald mq55 (mvDec_of cd55 rfl) mis81 hb0 hb1 ?_
        refine rc_iadd mq55 (mvDec_of cd55 rfl) ?_
        refine rc_iconst mq55 (mvDec_of cd55 rfl) (by decide) ?_
        refine rc_isub mq55 (mvDec_of cd55 rfl) ?_
        refine rc_imul mq55 (mvDec_of cd55 rfl) ?_
        refine rc_iload_n mq55 (mvDec_of cd55 rfl) rfl ?_
        refine rc_iadd mq55 (mvDec_of cd55 rfl) ?_
        obtain ⟨⟨hb0, hb1⟩, H⟩ := H
        refine rc_iald mq55 (mvDec_of cd55 rfl) mis73 hb0 hb1 ?_
        refine rc_aload_n mq55 (mvDec_of cd55 rfl) rfl ?_
        refine rc_getR 81 mq55 (mvDec_of cd55 rfl) fl_10_46 mis68 rfl (gr_68_26 hG) (by decide) ?_
        refine rc_iload_n mq55 (mvDec_of cd55 rfl) rfl ?_
        obtain ⟨⟨hb0, hb1⟩, H⟩ := H
        refine rc_iald mq55 (mvDec_of cd55 rfl) mis81 hb0 hb1 ?_
        refine rc_icmp_gt (t := 70) mq55 (mvDec_of cd55 rfl) rfl (fun hc => ?_) (fun hc => ?_)
        · replace H := H.1 hc
          refine rc_iconst mq55 (mvDec_of cd55 rfl) (by decide) ?_
          refine rc_istore_n [some (mvR 68), some (mvI 0), some (mvI l2), some (mvI l3)] mq55 (mvDec_of cd55 rfl) rfl ?_
          refine rc_iinc [some (mvR 68), some (mvI 0), some (mvI l2), some (mvI (mw (l3 + 1)))] mq55 (mvDec_of cd55 rfl) rfl rfl ?_
          refine rc_goto (t := 14) mq55 (mvDec_of cd55 rfl) rfl ?_
          exact H
        · replace H := H.2 hc
          refine rc_iconst mq55 (mvDec_of cd55 rfl) (by decide) ?_
          refine rc_goto (t := 71) mq55 (mvDec_of cd55 rfl) rfl ?_
          refine rc_istore_n [some (mvR 68), some (mvI 1), some (mvI l2), some (mvI l3)] mq55 (mvDec_of cd55 rfl) rfl ?_
          refine rc_iinc [some (mvR 68), some (mvI 1), some (mvI l2), some (mvI (mw (l3 + 1)))] mq55 (mvDec_of cd55 rfl) rfl rfl ?_
          refine rc_goto (t := 14) mq55 (mvDec_of cd55 rfl) rfl ?_
          exact H
abbrev MD_levelNow (g : Nat → Nat → Nat) (h : Nat → Int → Int)  (K : Int → (Nat → Int → Int) → Prop) : Prop := RI 56 0 [some (mvR 68), none, none] [] g h K
abbrev MD_levelNow_4 (g : Nat → Nat → Nat) (h : Nat → Int → Int) (l1 : Int) (l2 : Int) (K : Int → (Nat → Int → Int) → Prop) : Prop := RI 56 4 [some (mvR 68), some (mvI l1), some (mvI l2)] [] g h K
theorem MD_levelNow_wp {sw : Bool} {g : Nat → Nat → Nat} {h : Nat → Int → Int}  {K : Int → (Nat → Int → Int) → Prop} (hG : Gok sw g)  (H :
  MD_levelNow_4 g h 0 0 K) : MD_levelNow g h  K := by
  refine rc_iconst mq56 (mvDec_of cd56 rfl) (by decide) ?_
  refine rc_istore_n [some (mvR 68), some (mvI 0), none] mq56 (mvDec_of cd56 rfl) rfl ?_
  refine rc_iconst mq56 (mvDec_of cd56 rfl) (by decide) ?_
  refine rc_istore_n [some (mvR 68), some (mvI 0), some (mvI 0)] mq56 (mvDec_of cd56 rfl) rfl ?_
  exact H
theorem MD_levelNow_4_wp {sw : Bool} {g : Nat → Nat → Nat} {h : Nat → Int → Int} {l1 : Int} {l2 : Int} {K : Int → (Nat → Int → Int) → Prop} (hG : Gok sw g)  (H :
  (((h 68 0) ≤ l2 →
    K l1 h) ∧
  (l2 < (h 68 0) →
    (0 ≤ l2 ∧ l2 < 4) ∧
    (∀ v1, v1 = (mw (l1 + (h 81 l2))) →
    MD_levelNow_4 g h v1 (mw (l2 + 1)) K)))) : MD_levelNow_4 g h l1 l2 K := by
  refine rc_iload_n mq56 (mvDec_of cd56 rfl) rfl ?_
  refine rc_aload_n mq56 (mvDec_of cd56 rfl) rfl ?_
  refine rc_getI 0 mq56 (mvDec_of cd56 rfl) fl_10_138 mis68 rfl (by decide) (by decide) ?_
  refine rc_icmp_ge (t := 27) mq56 (mvDec_of cd56 rfl) rfl (fun hc => ?_) (fun hc => ?_)
  · replace H := H.1 hc
    refine rc_iload_n mq56 (mvDec_of cd56 rfl) rfl ?_
    exact rc_iret mq56 (mvDec_of cd56 rfl) ⟨_, _, rfl, rfl, H⟩
  · replace H := H.2 hc
    refine rc_iload_n mq56 (mvDec_of cd56 rfl) rfl ?_
    refine rc_aload_n mq56 (mvDec_of cd56 rfl) rfl ?_
    refine rc_getR 81 mq56 (mvDec_of cd56 rfl) fl_10_46 mis68 rfl (gr_68_26 hG) (by decide) ?_
    refine rc_iload_n mq56 (mvDec_of cd56 rfl) rfl ?_
    obtain ⟨⟨hb0, hb1⟩, H⟩ := H
    refine rc_iald mq56 (mvDec_of cd56 rfl) mis81 hb0 hb1 ?_
    refine rc_iadd mq56 (mvDec_of cd56 rfl) ?_
    refine rc_top (fun v1 hv => ?_)
    replace H := H v1 hv
    refine rc_istore_n [some (mvR 68), some (mvI v1), some (mvI l2)] mq56 (mvDec_of cd56 rfl) rfl ?_
    refine rc_iinc [some (mvR 68), some (mvI v1), some (mvI (mw (l2 + 1)))] mq56 (mvDec_of cd56 rfl) rfl rfl ?_
    refine rc_goto (t := 4) mq56 (mvDec_of cd56 rfl) rfl ?_
    exact H
abbrev MD_valueOf (g : Nat → Nat → Nat) (h : Nat → Int → Int) (x1 : Int) (x2 : Int) (K : Int → (Nat → Int → Int) → Prop) : Prop := RI 57 0 [some (mvR 68), some (mvI x1), some (mvI x2), none, none, none] [] g h K
abbrev MD_valueOf_5 (g : Nat → Nat → Nat) (h : Nat → Int → Int) (l1 : Int) (l2 : Int) (l3 : Int) (l4 : Int) (u5 : Option Int) (K : Int → (Nat → Int → Int) → Prop) : Prop := RI 57 5 [some (mvR 68), some (mvI l1), some (mvI l2), some (mvI l3), some (mvI l4), u5.map mvI] [] g h K
theorem MD_valueOf_wp {sw : Bool} {g : Nat → Nat → Nat} {h : Nat → Int → Int} {x1 : Int} {x2 : Int} {K : Int → (Nat → Int → Int) → Prop} (hG : Gok sw g)  (H :
  MD_valueOf_5 g h x1 x2 0 0 none K) : MD_valueOf g h x1 x2 K := by
  refine rc_iconst mq57 (mvDec_of cd57 rfl) (by decide) ?_
  refine rc_istore_n [some (mvR 68), some (mvI x1), some (mvI x2), some (mvI 0), none, none] mq57 (mvDec_of cd57 rfl) rfl ?_
  refine rc_iconst mq57 (mvDec_of cd57 rfl) (by decide) ?_
  refine rc_istore [some (mvR 68), some (mvI x1), some (mvI x2), some (mvI 0), some (mvI 0), none] mq57 (mvDec_of cd57 rfl) rfl ?_
  exact H
theorem MD_valueOf_5_wp {sw : Bool} {g : Nat → Nat → Nat} {h : Nat → Int → Int} {l1 : Int} {l2 : Int} {l3 : Int} {l4 : Int} {u5 : Option Int} {K : Int → (Nat → Int → Int) → Prop} (hG : Gok sw g)  (H :
  ((l2 ≤ l4 →
    K l3 h) ∧
  (l4 < l2 →
    (∀ v1, v1 = (mw ((mw (9 * l1)) + l4)) →
    (0 ≤ v1 ∧ v1 < 36) ∧
    ((¬ (h 70 v1) = 0 →
      MD_valueOf_5 g h l1 l2 l3 (mw (l4 + 1)) (some v1) K) ∧
    ((h 70 v1) = 0 →
      (0 ≤ v1 ∧ v1 < 36) ∧
      (∀ v2, v2 = (h 71 v1) →
      MD_valueOf_5 g h l1 l2 v2 (mw (l4 + 1)) (some v1) K))))))) : MD_valueOf_5 g h l1 l2 l3 l4 u5 K := by
  refine rc_iload mq57 (mvDec_of cd57 rfl) rfl ?_
  refine rc_iload_n mq57 (mvDec_of cd57 rfl) rfl ?_
  refine rc_icmp_ge (t := 48) mq57 (mvDec_of cd57 rfl) rfl (fun hc => ?_) (fun hc => ?_)
  · replace H := H.1 hc
    refine rc_iload_n mq57 (mvDec_of cd57 rfl) rfl ?_
    exact rc_iret mq57 (mvDec_of cd57 rfl) ⟨_, _, rfl, rfl, H⟩
  · replace H := H.2 hc
    refine rc_bipush mq57 (mvDec_of cd57 rfl) (by decide) ?_
    refine rc_iload_n mq57 (mvDec_of cd57 rfl) rfl ?_
    refine rc_imul mq57 (mvDec_of cd57 rfl) ?_
    refine rc_iload mq57 (mvDec_of cd57 rfl) rfl ?_
    refine rc_iadd mq57 (mvDec_of cd57 rfl) ?_
    refine rc_top (fun v1 hv => ?_)
    replace H := H v1 hv
    refine rc_istore [some (mvR 68), some (mvI l1), some (mvI l2), some (mvI l3), some (mvI l4), some (mvI v1)] mq57 (mvDec_of cd57 rfl) rfl ?_
    refine rc_aload_n mq57 (mvDec_of cd57 rfl) rfl ?_
    refine rc_getR 70 mq57 (mvDec_of cd57 rfl) fl_10_13 mis68 rfl (gr_68_2 hG) (by decide) ?_
    refine rc_iload mq57 (mvDec_of cd57 rfl) rfl ?_
    obtain ⟨⟨hb0, hb1⟩, H⟩ := H
    refine rc_iald mq57 (mvDec_of cd57 rfl) mis70 hb0 hb1 ?_
    refine rc_if_ne (t := 40) mq57 (mvDec_of cd57 rfl) rfl (fun hc => ?_) (fun hc => ?_)
    · replace H := H.1 hc
      refine rc_iload_n mq57 (mvDec_of cd57 rfl) rfl ?_
      refine rc_istore_n [some (mvR 68), some (mvI l1), some (mvI l2), some (mvI l3), some (mvI l4), some (mvI v1)] mq57 (mvDec_of cd57 rfl) rfl ?_
      refine rc_iinc [some (mvR 68), some (mvI l1), some (mvI l2), some (mvI l3), some (mvI (mw (l4 + 1))), some (mvI v1)] mq57 (mvDec_of cd57 rfl) rfl rfl ?_
      refine rc_goto (t := 5) mq57 (mvDec_of cd57 rfl) rfl ?_
      exact H
    · replace H := H.2 hc
      refine rc_aload_n mq57 (mvDec_of cd57 rfl) rfl ?_
      refine rc_getR 71 mq57 (mvDec_of cd57 rfl) fl_10_16 mis68 rfl (gr_68_3 hG) (by decide) ?_
      refine rc_iload mq57 (mvDec_of cd57 rfl) rfl ?_
      obtain ⟨⟨hb0, hb1⟩, H⟩ := H
      refine rc_iald mq57 (mvDec_of cd57 rfl) mis71 hb0 hb1 ?_
      refine rc_goto (t := 41) mq57 (mvDec_of cd57 rfl) rfl ?_
      refine rc_top (fun v2 hv => ?_)
      replace H := H v2 hv
      refine rc_istore_n [some (mvR 68), some (mvI l1), some (mvI l2), some (mvI v2), some (mvI l4), some (mvI v1)] mq57 (mvDec_of cd57 rfl) rfl ?_
      refine rc_iinc [some (mvR 68), some (mvI l1), some (mvI l2), some (mvI v2), some (mvI (mw (l4 + 1))), some (mvI v1)] mq57 (mvDec_of cd57 rfl) rfl rfl ?_
      refine rc_goto (t := 5) mq57 (mvDec_of cd57 rfl) rfl ?_
      exact H
abbrev MD_underOf (g : Nat → Nat → Nat) (h : Nat → Int → Int) (x1 : Int) (x2 : Int) (K : Int → (Nat → Int → Int) → Prop) : Prop := RI 58 0 [some (mvR 68), some (mvI x1), some (mvI x2), none, none, none, none] [] g h K
abbrev MD_underOf_5 (g : Nat → Nat → Nat) (h : Nat → Int → Int) (l1 : Int) (l2 : Int) (l3 : Int) (l4 : Int) (u5 : Option Int) (u6 : Option Int) (K : Int → (Nat → Int → Int) → Prop) : Prop := RI 58 5 [some (mvR 68), some (mvI l1), some (mvI l2), some (mvI l3), some (mvI l4), u5.map mvI, u6.map mvI] [] g h K
theorem MD_underOf_wp {sw : Bool} {g : Nat → Nat → Nat} {h : Nat → Int → Int} {x1 : Int} {x2 : Int} {K : Int → (Nat → Int → Int) → Prop} (hG : Gok sw g)  (H :
  MD_underOf_5 g h x1 x2 0 0 none none K) : MD_underOf g h x1 x2 K := by
  refine rc_iconst mq58 (mvDec_of cd58 rfl) (by decide) ?_
  refine rc_istore_n [some (mvR 68), some (mvI x1), some (mvI x2), some (mvI 0), none, none, none] mq58 (mvDec_of cd58 rfl) rfl ?_
  refine rc_iconst mq58 (mvDec_of cd58 rfl) (by decide) ?_
  refine rc_istore [some (mvR 68), some (mvI x1), some (mvI x2), some (mvI 0), some (mvI 0), none, none] mq58 (mvDec_of cd58 rfl) rfl ?_
  exact H
theorem MD_underOf_5_wp {sw : Bool} {g : Nat → Nat → Nat} {h : Nat → Int → Int} {l1 : Int} {l2 : Int} {l3 : Int} {l4 : Int} {u5 : Option Int} {u6 : Option Int} {K : Int → (Nat → Int → Int) → Prop} (hG : Gok sw g)  (H :
  (0 ≤ l1 ∧ l1 < 4) ∧
  (((h 81 l1) ≤ l4 →
    K l3 h) ∧
  (l4 < (h 81 l1) →
    (∀ v1, v1 = (mw ((mw (9 * l1)) + l4)) →
    (0 ≤ v1 ∧ v1 < 36) ∧
    ((¬ (h 70 v1) = 1 →
      (∀ v2, v2 = (mw (l3 + 0)) →
      MD_underOf_5 g h l1 l2 v2 (mw (l4 + 1)) (some v1) (some 0) K)) ∧
    ((h 70 v1) = 1 →
      (0 ≤ v1 ∧ v1 < 36) ∧
      ((¬ (h 71 v1) = l2 →
        (∀ v3, v3 = (mw (l3 + 0)) →
        MD_underOf_5 g h l1 l2 v3 (mw (l4 + 1)) (some v1) (some 0) K)) ∧
      ((h 71 v1) = l2 →
        (0 ≤ v1 ∧ v1 < 36) ∧
        (((h 72 v1) = (-1) →
          (∀ v4, v4 = (mw (l3 + 1)) →
          MD_underOf_5 g h l1 l2 v4 (mw (l4 + 1)) (some v1) (some 1) K)) ∧
        (¬ (h 72 v1) = (-1) →
          (0 ≤ v1 ∧ v1 < 36) ∧
          (0 ≤ l2 ∧ l2 < 4) ∧
          (((h 72 v1) < (h 81 l2) →
            (∀ v5, v5 = (mw (l3 + 0)) →
            MD_underOf_5 g h l1 l2 v5 (mw (l4 + 1)) (some v1) (some 1) K)) ∧
          ((h 81 l2) ≤ (h 72 v1) →
            (∀ v6, v6 = (mw (l3 + 1)) →
            MD_underOf_5 g h l1 l2 v6 (mw (l4 + 1)) (some v1) (some 1) K))))))))))))) : MD_underOf_5 g h l1 l2 l3 l4 u5 u6 K := by
  refine rc_iload mq58 (mvDec_of cd58 rfl) rfl ?_
  refine rc_aload_n mq58 (mvDec_of cd58 rfl) rfl ?_
  refine rc_getR 81 mq58 (mvDec_of cd58 rfl) fl_10_46 mis68 rfl (gr_68_26 hG) (by decide) ?_
  refine rc_iload_n mq58 (mvDec_of cd58 rfl) rfl ?_
  obtain ⟨⟨hb0, hb1⟩, H⟩ := H
  refine rc_iald mq58 (mvDec_of cd58 rfl) mis81 hb0 hb1 ?_
  refine rc_icmp_ge (t := 100) mq58 (mvDec_of cd58 rfl) rfl (fun hc => ?_) (fun hc => ?_)
  · replace H := H.1 hc
    refine rc_iload_n mq58 (mvDec_of cd58 rfl) rfl ?_
    exact rc_iret mq58 (mvDec_of cd58 rfl) ⟨_, _, rfl, rfl, H⟩
  · replace H := H.2 hc
    refine rc_bipush mq58 (mvDec_of cd58 rfl) (by decide) ?_
    refine rc_iload_n mq58 (mvDec_of cd58 rfl) rfl ?_
    refine rc_imul mq58 (mvDec_of cd58 rfl) ?_
    refine rc_iload mq58 (mvDec_of cd58 rfl) rfl ?_
    refine rc_iadd mq58 (mvDec_of cd58 rfl) ?_
    refine rc_top (fun v1 hv => ?_)
    replace H := H v1 hv
    refine rc_istore [some (mvR 68), some (mvI l1), some (mvI l2), some (mvI l3), some (mvI l4), some (mvI v1), u6.map mvI] mq58 (mvDec_of cd58 rfl) rfl ?_
    refine rc_aload_n mq58 (mvDec_of cd58 rfl) rfl ?_
    refine rc_getR 70 mq58 (mvDec_of cd58 rfl) fl_10_13 mis68 rfl (gr_68_2 hG) (by decide) ?_
    refine rc_iload mq58 (mvDec_of cd58 rfl) rfl ?_
    obtain ⟨⟨hb0, hb1⟩, H⟩ := H
    refine rc_iald mq58 (mvDec_of cd58 rfl) mis70 hb0 hb1 ?_
    refine rc_iconst mq58 (mvDec_of cd58 rfl) (by decide) ?_
    refine rc_icmp_ne (t := 51) mq58 (mvDec_of cd58 rfl) rfl (fun hc => ?_) (fun hc => ?_)
    · replace H := H.1 hc
      refine rc_iconst mq58 (mvDec_of cd58 rfl) (by decide) ?_
      refine rc_istore [some (mvR 68), some (mvI l1), some (mvI l2), some (mvI l3), some (mvI l4), some (mvI v1), some (mvI 0)] mq58 (mvDec_of cd58 rfl) rfl ?_
      refine rc_iload_n mq58 (mvDec_of cd58 rfl) rfl ?_
      refine rc_iload mq58 (mvDec_of cd58 rfl) rfl ?_
      refine rc_ifT (t := 91) mq58 (mvDec_of cd58 rfl) rfl rfl ?_
      refine rc_iconst mq58 (mvDec_of cd58 rfl) (by decide) ?_
      refine rc_iadd mq58 (mvDec_of cd58 rfl) ?_
      refine rc_top (fun v2 hv => ?_)
      replace H := H v2 hv
      refine rc_istore_n [some (mvR 68), some (mvI l1), some (mvI l2), some (mvI v2), some (mvI l4), some (mvI v1), some (mvI 0)] mq58 (mvDec_of cd58 rfl) rfl ?_
      refine rc_iinc [some (mvR 68), some (mvI l1), some (mvI l2), some (mvI v2), some (mvI (mw (l4 + 1))), some (mvI v1), some (mvI 0)] mq58 (mvDec_of cd58 rfl) rfl rfl ?_
      refine rc_goto (t := 5) mq58 (mvDec_of cd58 rfl) rfl ?_
      exact H
    · replace H := H.2 hc
      refine rc_aload_n mq58 (mvDec_of cd58 rfl) rfl ?_
      refine rc_getR 71 mq58 (mvDec_of cd58 rfl) fl_10_16 mis68 rfl (gr_68_3 hG) (by decide) ?_
      refine rc_iload mq58 (mvDec_of cd58 rfl) rfl ?_
      obtain ⟨⟨hb0, hb1⟩, H⟩ := H
      refine rc_iald mq58 (mvDec_of cd58 rfl) mis71 hb0 hb1 ?_
      refine rc_iload_n mq58 (mvDec_of cd58 rfl) rfl ?_
      refine rc_icmp_ne (t := 51) mq58 (mvDec_of cd58 rfl) rfl (fun hc => ?_) (fun hc => ?_)
      · replace H := H.1 hc
        refine rc_iconst mq58 (mvDec_of cd58 rfl) (by decide) ?_
        refine rc_istore [some (mvR 68), some (mvI l1), some (mvI l2), some (mvI l3), some (mvI l4), some (mvI v1), some (mvI 0)] mq58 (mvDec_of cd58 rfl) rfl ?_
        refine rc_iload_n mq58 (mvDec_of cd58 rfl) rfl ?_
        refine rc_iload mq58 (mvDec_of cd58 rfl) rfl ?_
        refine rc_ifT (t := 91) mq58 (mvDec_of cd58 rfl) rfl rfl ?_
        refine rc_iconst mq58 (mvDec_of cd58 rfl) (by decide) ?_
        refine rc_iadd mq58 (mvDec_of cd58 rfl) ?_
        refine rc_top (fun v3 hv => ?_)
        replace H := H v3 hv
        refine rc_istore_n [some (mvR 68), some (mvI l1), some (mvI l2), some (mvI v3), some (mvI l4), some (mvI v1), some (mvI 0)] mq58 (mvDec_of cd58 rfl) rfl ?_
        refine rc_iinc [some (mvR 68), some (mvI l1), some (mvI l2), some (mvI v3), some (mvI (mw (l4 + 1))), some (mvI v1), some (mvI 0)] mq58 (mvDec_of cd58 rfl) rfl rfl ?_
        refine rc_goto (t := 5) mq58 (mvDec_of cd58 rfl) rfl ?_
        exact H
      · replace H := H.2 hc
        refine rc_iconst mq58 (mvDec_of cd58 rfl) (by decide) ?_
        refine rc_goto (t := 52) mq58 (mvDec_of cd58 rfl) rfl ?_
        refine rc_istore [some (mvR 68), some (mvI l1), some (mvI l2), some (mvI l3), some (mvI l4), some (mvI v1), some (mvI 1)] mq58 (mvDec_of cd58 rfl) rfl ?_
        refine rc_iload_n mq58 (mvDec_of cd58 rfl) rfl ?_
        refine rc_iload mq58 (mvDec_of cd58 rfl) rfl ?_
        refine rc_ifF (t := 91) mq58 (mvDec_of cd58 rfl) rfl rfl ?_
        refine rc_aload_n mq58 (mvDec_of cd58 rfl) rfl ?_
        refine rc_getR 72 mq58 (mvDec_of cd58 rfl) fl_10_19 mis68 rfl (gr_68_4 hG) (by decide) ?_
        refine rc_iload mq58 (mvDec_of cd58 rfl) rfl ?_
        obtain ⟨⟨hb0, hb1⟩, H⟩ := H
        refine rc_iald mq58 (mvDec_of cd58 rfl) mis72 hb0 hb1 ?_
        refine rc_iconst mq58 (mvDec_of cd58 rfl) (by decide) ?_
        refine rc_icmp_eq (t := 87) mq58 (mvDec_of cd58 rfl) rfl (fun hc => ?_) (fun hc => ?_)
        · replace H := H.1 hc
          refine rc_iconst mq58 (mvDec_of cd58 rfl) (by decide) ?_
          refine rc_goto (t := 92) mq58 (mvDec_of cd58 rfl) rfl ?_
          refine rc_iadd mq58 (mvDec_of cd58 rfl) ?_
          refine rc_top (fun v4 hv => ?_)
          replace H := H v4 hv
          refine rc_istore_n [some (mvR 68), some (mvI l1), some (mvI l2), some (mvI v4), some (mvI l4), some (mvI v1), some (mvI 1)] mq58 (mvDec_of cd58 rfl) rfl ?_
          refine rc_iinc [some (mvR 68), some (mvI l1), some (mvI l2), some (mvI v4), some (mvI (mw (l4 + 1))), some (mvI v1), some (mvI 1)] mq58 (mvDec_of cd58 rfl) rfl rfl ?_
          refine rc_goto (t := 5) mq58 (mvDec_of cd58 rfl) rfl ?_
          exact H
        · replace H := H.2 hc
          refine rc_aload_n mq58 (mvDec_of cd58 rfl) rfl ?_
          refine rc_getR 72 mq58 (mvDec_of cd58 rfl) fl_10_19 mis68 rfl (gr_68_4 hG) (by decide) ?_
          refine rc_iload mq58 (mvDec_of cd58 rfl) rfl ?_
          obtain ⟨⟨hb0, hb1⟩, H⟩ := H
          refine rc_iald mq58 (mvDec_of cd58 rfl) mis72 hb0 hb1 ?_
          refine rc_aload_n mq58 (mvDec_of cd58 rfl) rfl ?_
          refine rc_getR 81 mq58 (mvDec_of cd58 rfl) fl_10_46 mis68 rfl (gr_68_26 hG) (by decide) ?_
          refine rc_iload_n mq58 (mvDec_of cd58 rfl) rfl ?_
          obtain ⟨⟨hb0, hb1⟩, H⟩ := H
          refine rc_iald mq58 (mvDec_of cd58 rfl) mis81 hb0 hb1 ?_
          refine rc_icmp_lt (t := 91) mq58 (mvDec_of cd58 rfl) rfl (fun hc => ?_) (fun hc => ?_)
          · replace H := H.1 hc
            refine rc_iconst mq58 (mvDec_of cd58 rfl) (by decide) ?_
            refine rc_iadd mq58 (mvDec_of cd58 rfl) ?_
            refine rc_top (fun v5 hv => ?_)
            replace H := H v5 hv
            refine rc_istore_n [some (mvR 68), some (mvI l1), some (mvI l2), some (mvI v5), some (mvI l4), some (mvI v1), some (mvI 1)] mq58 (mvDec_of cd58 rfl) rfl ?_
            refine rc_iinc [some (mvR 68), some (mvI l1), some (mvI l2), some (mvI v5), some (mvI (mw (l4 + 1))), some (mvI v1), some (mvI 1)] mq58 (mvDec_of cd58 rfl) rfl rfl ?_
            refine rc_goto (t := 5) mq58 (mvDec_of cd58 rfl) rfl ?_
            exact H
          · replace H := H.2 hc
            refine rc_iconst mq58 (mvDec_of cd58 rfl) (by decide) ?_
            refine rc_goto (t := 92) mq58 (mvDec_of cd58 rfl) rfl ?_
            refine rc_iadd mq58 (mvDec_of cd58 rfl) ?_
            refine rc_top (fun v6 hv => ?_)
            replace H := H v6 hv
            refine rc_istore_n [some (mvR 68), some (mvI l1), some (mvI l2), some (mvI v6), some (mvI l4), some (mvI v1), some (mvI 1)] mq58 (mvDec_of cd58 rfl) rfl ?_
            refine rc_iinc [some (mvR 68), some (mvI l1), some (mvI l2), some (mvI v6), some (mvI (mw (l4 + 1))), some (mvI v1), some (mvI 1)] mq58 (mvDec_of cd58 rfl) rfl rfl ?_
            refine rc_goto (t := 5) mq58 (mvDec_of cd58 rfl) rfl ?_
            exact H
abbrev MD_keep (g : Nat → Nat → Nat) (h : Nat → Int → Int)  (K : (Nat → Int → Int) → Prop) : Prop := RV 59 0 [some (mvR 68), none] [] g h K
abbrev MD_keep_2 (g : Nat → Nat → Nat) (h : Nat → Int → Int) (l1 : Int) (K : (Nat → Int → Int) → Prop) : Prop := RV 59 2 [some (mvR 68), some (mvI l1)] [] g h K
abbrev MD_keep_27 (g : Nat → Nat → Nat) (h : Nat → Int → Int) (l1 : Int) (K : (Nat → Int → Int) → Prop) : Prop := RV 59 27 [some (mvR 68), some (mvI l1)] [] g h K
theorem MD_keep_wp {sw : Bool} {g : Nat → Nat → Nat} {h : Nat → Int → Int}  {K : (Nat → Int → Int) → Prop} (hG : Gok sw g)  (H :
  MD_keep_2 g h 0 K) : MD_keep g h  K := by
  refine rc_iconst mq59 (mvDec_of cd59 rfl) (by decide) ?_
  refine rc_istore_n [some (mvR 68), some (mvI 0)] mq59 (mvDec_of cd59 rfl) rfl ?_
  exact H
theorem MD_keep_2_wp {sw : Bool} {g : Nat → Nat → Nat} {h : Nat → Int → Int} {l1 : Int} {K : (Nat → Int → Int) → Prop} (hG : Gok sw g)  (H :
  ((4 ≤ l1 →
    MD_keep_27 g h 0 K) ∧
  (l1 < 4 →
    (0 ≤ l1 ∧ l1 < 4) ∧
    (0 ≤ l1 ∧ l1 < 4) ∧
    (∀ h1, h1 = mvUpd h 91 l1 (h 69 l1) →
    MD_keep_2 g h1 (mw (l1 + 1)) K)))) : MD_keep_2 g h l1 K := by
  refine rc_iload_n mq59 (mvDec_of cd59 rfl) rfl ?_
  refine rc_iconst mq59 (mvDec_of cd59 rfl) (by decide) ?_
  refine rc_icmp_ge (t := 25) mq59 (mvDec_of cd59 rfl) rfl (fun hc => ?_) (fun hc => ?_)
  · replace H := H.1 hc
    refine rc_iconst mq59 (mvDec_of cd59 rfl) (by decide) ?_
    refine rc_istore_n [some (mvR 68), some (mvI 0)] mq59 (mvDec_of cd59 rfl) rfl ?_
    exact H
  · replace H := H.2 hc
    refine rc_aload_n mq59 (mvDec_of cd59 rfl) rfl ?_
    refine rc_getR 91 mq59 (mvDec_of cd59 rfl) fl_10_77 mis68 rfl (gr_68_36 hG) (by decide) ?_
    refine rc_iload_n mq59 (mvDec_of cd59 rfl) rfl ?_
    refine rc_aload_n mq59 (mvDec_of cd59 rfl) rfl ?_
    refine rc_getR 69 mq59 (mvDec_of cd59 rfl) fl_10_7 mis68 rfl (gr_68_1 hG) (by decide) ?_
    refine rc_iload_n mq59 (mvDec_of cd59 rfl) rfl ?_
    obtain ⟨⟨hb0, hb1⟩, H⟩ := H
    refine rc_iald mq59 (mvDec_of cd59 rfl) mis69 hb0 hb1 ?_
    obtain ⟨⟨hb0, hb1⟩, H⟩ := H
    refine rc_iast mq59 (mvDec_of cd59 rfl) mis91 hb0 hb1 ?_
    refine rc_heap (fun h1 hh => ?_)
    replace H := H h1 hh
    refine rc_iinc [some (mvR 68), some (mvI (mw (l1 + 1)))] mq59 (mvDec_of cd59 rfl) rfl rfl ?_
    refine rc_goto (t := 2) mq59 (mvDec_of cd59 rfl) rfl ?_
    exact H
theorem MD_keep_27_wp {sw : Bool} {g : Nat → Nat → Nat} {h : Nat → Int → Int} {l1 : Int} {K : (Nat → Int → Int) → Prop} (hG : Gok sw g)  (H :
  ((36 ≤ l1 →
    K h) ∧
  (l1 < 36 →
    (0 ≤ l1 ∧ l1 < 36) ∧
    (0 ≤ l1 ∧ l1 < 36) ∧
    (∀ h1, h1 = mvUpd h 92 l1 (h 70 l1) →
    (0 ≤ l1 ∧ l1 < 36) ∧
    (0 ≤ l1 ∧ l1 < 36) ∧
    (∀ h2, h2 = mvUpd h1 93 l1 (h1 71 l1) →
    MD_keep_27 g h2 (mw (l1 + 1)) K))))) : MD_keep_27 g h l1 K := by
  refine rc_iload_n mq59 (mvDec_of cd59 rfl) rfl ?_
  refine rc_bipush mq59 (mvDec_of cd59 rfl) (by decide) ?_
  refine rc_icmp_ge (t := 63) mq59 (mvDec_of cd59 rfl) rfl (fun hc => ?_) (fun hc => ?_)
  · replace H := H.1 hc
    exact rc_vret mq59 (mvDec_of cd59 rfl) ⟨_, rfl, rfl, H⟩
  · replace H := H.2 hc
    refine rc_aload_n mq59 (mvDec_of cd59 rfl) rfl ?_
    refine rc_getR 92 mq59 (mvDec_of cd59 rfl) fl_10_80 mis68 rfl (gr_68_37 hG) (by decide) ?_
    refine rc_iload_n mq59 (mvDec_of cd59 rfl) rfl ?_
    refine rc_aload_n mq59 (mvDec_of cd59 rfl) rfl ?_
    refine rc_getR 70 mq59 (mvDec_of cd59 rfl) fl_10_13 mis68 rfl (gr_68_2 hG) (by decide) ?_
    refine rc_iload_n mq59 (mvDec_of cd59 rfl) rfl ?_
    obtain ⟨⟨hb0, hb1⟩, H⟩ := H
    refine rc_iald mq59 (mvDec_of cd59 rfl) mis70 hb0 hb1 ?_
    obtain ⟨⟨hb0, hb1⟩, H⟩ := H
    refine rc_iast mq59 (mvDec_of cd59 rfl) mis92 hb0 hb1 ?_
    refine rc_heap (fun h1 hh => ?_)
    replace H := H h1 hh
    refine rc_aload_n mq59 (mvDec_of cd59 rfl) rfl ?_
    refine rc_getR 93 mq59 (mvDec_of cd59 rfl) fl_10_83 mis68 rfl (gr_68_38 hG) (by decide) ?_
    refine rc_iload_n mq59 (mvDec_of cd59 rfl) rfl ?_
    refine rc_aload_n mq59 (mvDec_of cd59 rfl) rfl ?_
    refine rc_getR 71 mq59 (mvDec_of cd59 rfl) fl_10_16 mis68 rfl (gr_68_3 hG) (by decide) ?_
    refine rc_iload_n mq59 (mvDec_of cd59 rfl) rfl ?_
    obtain ⟨⟨hb0, hb1⟩, H⟩ := H
    refine rc_iald mq59 (mvDec_of cd59 rfl) mis71 hb0 hb1 ?_
    obtain ⟨⟨hb0, hb1⟩, H⟩ := H
    refine rc_iast mq59 (mvDec_of cd59 rfl) mis93 hb0 hb1 ?_
    refine rc_heap (fun h2 hh => ?_)
    replace H := H h2 hh
    refine rc_iinc [some (mvR 68), some (mvI (mw (l1 + 1)))] mq59 (mvDec_of cd59 rfl) rfl rfl ?_
    refine rc_goto (t := 27) mq59 (mvDec_of cd59 rfl) rfl ?_
    exact H
abbrev MD_drawOf (g : Nat → Nat → Nat) (h : Nat → Int → Int) (x1 : Int) (K : Int → (Nat → Int → Int) → Prop) : Prop := RI 60 0 [some (mvR 68), some (mvI x1)] [] g h K
theorem MD_drawOf_wp {sw : Bool} {g : Nat → Nat → Nat} {h : Nat → Int → Int} {x1 : Int} {K : Int → (Nat → Int → Int) → Prop} (hG : Gok sw g)  (H :
  (∀ h1, h1 = mvUpd h 68 40 ((mwl ((mwl (1103515245 * (h 68 40))) + 12345)).tmod 2147483648) →
  (¬ x1 = 0) ∧
  K (mw ((mwl ((h1 68 40).tdiv 65536)).tmod x1)) h1)) : MD_drawOf g h x1 K := by
  refine rc_aload_n mq60 (mvDec_of cd60 rfl) rfl ?_
  refine rc_ldc2 mq60 (mvDec_of cd60 rfl) rfl ?_
  refine rc_aload_n mq60 (mvDec_of cd60 rfl) rfl ?_
  refine rc_getJ 40 mq60 (mvDec_of cd60 rfl) fl_10_343 mis68 rfl (by decide) rfl ?_
  refine rc_lmul mq60 (mvDec_of cd60 rfl) ?_
  refine rc_ldc2 mq60 (mvDec_of cd60 rfl) rfl ?_
  refine rc_ladd mq60 (mvDec_of cd60 rfl) ?_
  refine rc_ldc2 mq60 (mvDec_of cd60 rfl) rfl ?_
  refine rc_lrem mq60 (mvDec_of cd60 rfl) (by decide) ?_
  refine rc_putJ 40 mq60 (mvDec_of cd60 rfl) fl_10_343 mis68 rfl (fun z => absurd z (by decide)) rfl ?_
  refine rc_heap (fun h1 hh => ?_)
  replace H := H h1 hh
  refine rc_aload_n mq60 (mvDec_of cd60 rfl) rfl ?_
  refine rc_getJ 40 mq60 (mvDec_of cd60 rfl) fl_10_343 mis68 rfl (by decide) rfl ?_
  refine rc_ldc2 mq60 (mvDec_of cd60 rfl) rfl ?_
  refine rc_ldiv mq60 (mvDec_of cd60 rfl) (by decide) ?_
  refine rc_iload_n mq60 (mvDec_of cd60 rfl) rfl ?_
  refine rc_i2l mq60 (mvDec_of cd60 rfl) ?_
  obtain ⟨hb, H⟩ := H
  refine rc_lrem mq60 (mvDec_of cd60 rfl) hb ?_
  refine rc_l2i mq60 (mvDec_of cd60 rfl) ?_
  exact rc_iret mq60 (mvDec_of cd60 rfl) ⟨_, _, rfl, rfl, H⟩
abbrev MD_canCome (g : Nat → Nat → Nat) (h : Nat → Int → Int) (x1 : Int) (K : Int → (Nat → Int → Int) → Prop) : Prop := RI 61 0 [some (mvR 68), some (mvI x1), none] [] g h K
theorem MD_canCome_wp {sw : Bool} {g : Nat → Nat → Nat} {h : Nat → Int → Int} {x1 : Int} {K : Int → (Nat → Int → Int) → Prop} (hG : Gok sw g)  (H :
  (0 ≤ x1 ∧ x1 < 4) ∧
  (0 ≤ x1 ∧ x1 < 4) ∧
  ((¬ (h 81 x1) = (h 69 x1) →
    (0 ≤ x1 ∧ x1 < 4) ∧
    (∀ v1, v1 = (mw ((mw (9 * x1)) + (h 81 x1))) →
    (0 ≤ v1 ∧ v1 < 36) ∧
    ((¬ (h 70 v1) = 2 →
      K 1 h) ∧
    ((h 70 v1) = 2 →
      (0 ≤ v1 ∧ v1 < 36) ∧
      (0 ≤ v1 ∧ v1 < 36) ∧
      (0 ≤ (h 71 v1) ∧ (h 71 v1) < 4) ∧
      (((h 81 (h 71 v1)) ≤ (h 72 v1) →
        K 0 h) ∧
      ((h 72 v1) < (h 81 (h 71 v1)) →
        K 1 h)))))) ∧
  ((h 81 x1) = (h 69 x1) →
    K 0 h))) : MD_canCome g h x1 K := by
  refine rc_aload_n mq61 (mvDec_of cd61 rfl) rfl ?_
  refine rc_getR 81 mq61 (mvDec_of cd61 rfl) fl_10_46 mis68 rfl (gr_68_26 hG) (by decide) ?_
  refine rc_iload_n mq61 (mvDec_of cd61 rfl) rfl ?_
  obtain ⟨⟨hb0, hb1⟩, H⟩ := H
  refine rc_iald mq61 (mvDec_of cd61 rfl) mis81 hb0 hb1 ?_
  refine rc_aload_n mq61 (mvDec_of cd61 rfl) rfl ?_
  refine rc_getR 69 mq61 (mvDec_of cd61 rfl) fl_10_7 mis68 rfl (gr_68_1 hG) (by decide) ?_
  refine rc_iload_n mq61 (mvDec_of cd61 rfl) rfl ?_
  obtain ⟨⟨hb0, hb1⟩, H⟩ := H
  refine rc_iald mq61 (mvDec_of cd61 rfl) mis69 hb0 hb1 ?_
  refine rc_icmp_ne (t := 17) mq61 (mvDec_of cd61 rfl) rfl (fun hc => ?_) (fun hc => ?_)
  · replace H := H.1 hc
    refine rc_bipush mq61 (mvDec_of cd61 rfl) (by decide) ?_
    refine rc_iload_n mq61 (mvDec_of cd61 rfl) rfl ?_
    refine rc_imul mq61 (mvDec_of cd61 rfl) ?_
    refine rc_aload_n mq61 (mvDec_of cd61 rfl) rfl ?_
    refine rc_getR 81 mq61 (mvDec_of cd61 rfl) fl_10_46 mis68 rfl (gr_68_26 hG) (by decide) ?_
    refine rc_iload_n mq61 (mvDec_of cd61 rfl) rfl ?_
    obtain ⟨⟨hb0, hb1⟩, H⟩ := H
    refine rc_iald mq61 (mvDec_of cd61 rfl) mis81 hb0 hb1 ?_
    refine rc_iadd mq61 (mvDec_of cd61 rfl) ?_
    refine rc_top (fun v1 hv => ?_)
    replace H := H v1 hv
    refine rc_istore_n [some (mvR 68), some (mvI x1), some (mvI v1)] mq61 (mvDec_of cd61 rfl) rfl ?_
    refine rc_aload_n mq61 (mvDec_of cd61 rfl) rfl ?_
    refine rc_getR 70 mq61 (mvDec_of cd61 rfl) fl_10_13 mis68 rfl (gr_68_2 hG) (by decide) ?_
    refine rc_iload_n mq61 (mvDec_of cd61 rfl) rfl ?_
    obtain ⟨⟨hb0, hb1⟩, H⟩ := H
    refine rc_iald mq61 (mvDec_of cd61 rfl) mis70 hb0 hb1 ?_
    refine rc_iconst mq61 (mvDec_of cd61 rfl) (by decide) ?_
    refine rc_icmp_ne (t := 59) mq61 (mvDec_of cd61 rfl) rfl (fun hc => ?_) (fun hc => ?_)
    · replace H := H.1 hc
      refine rc_iconst mq61 (mvDec_of cd61 rfl) (by decide) ?_
      refine rc_goto (t := 64) mq61 (mvDec_of cd61 rfl) rfl ?_
      exact rc_zret mq61 (mvDec_of cd61 rfl) (Or.inr rfl) ⟨_, _, rfl, rfl, H⟩
    · replace H := H.2 hc
      refine rc_aload_n mq61 (mvDec_of cd61 rfl) rfl ?_
      refine rc_getR 72 mq61 (mvDec_of cd61 rfl) fl_10_19 mis68 rfl (gr_68_4 hG) (by decide) ?_
      refine rc_iload_n mq61 (mvDec_of cd61 rfl) rfl ?_
      obtain ⟨⟨hb0, hb1⟩, H⟩ := H
      refine rc_iald mq61 (mvDec_of cd61 rfl) mis72 hb0 hb1 ?_
      refine rc_aload_n mq61 (mvDec_of cd61 rfl) rfl ?_
      refine rc_getR 81 mq61 (mvDec_of cd61 rfl) fl_10_46 mis68 rfl (gr_68_26 hG) (by decide) ?_
      refine rc_aload_n mq61 (mvDec_of cd61 rfl) rfl ?_
      refine rc_getR 71 mq61 (mvDec_of cd61 rfl) fl_10_16 mis68 rfl (gr_68_3 hG) (by decide) ?_
      refine rc_iload_n mq61 (mvDec_of cd61 rfl) rfl ?_
      obtain ⟨⟨hb0, hb1⟩, H⟩ := H
      refine rc_iald mq61 (mvDec_of cd61 rfl) mis71 hb0 hb1 ?_
      obtain ⟨⟨hb0, hb1⟩, H⟩ := H
      refine rc_iald mq61 (mvDec_of cd61 rfl) mis81 hb0 hb1 ?_
      refine rc_icmp_ge (t := 63) mq61 (mvDec_of cd61 rfl) rfl (fun hc => ?_) (fun hc => ?_)
      · replace H := H.1 hc
        refine rc_iconst mq61 (mvDec_of cd61 rfl) (by decide) ?_
        exact rc_zret mq61 (mvDec_of cd61 rfl) (Or.inl rfl) ⟨_, _, rfl, rfl, H⟩
      · replace H := H.2 hc
        refine rc_iconst mq61 (mvDec_of cd61 rfl) (by decide) ?_
        refine rc_goto (t := 64) mq61 (mvDec_of cd61 rfl) rfl ?_
        exact rc_zret mq61 (mvDec_of cd61 rfl) (Or.inr rfl) ⟨_, _, rfl, rfl, H⟩
  · replace H := H.2 hc
    refine rc_iconst mq61 (mvDec_of cd61 rfl) (by decide) ?_
    exact rc_zret mq61 (mvDec_of cd61 rfl) (Or.inl rfl) ⟨_, _, rfl, rfl, H⟩
abbrev MD_eventsOf (g : Nat → Nat → Nat) (h : Nat → Int → Int) (x1 : Int) (K : Int → (Nat → Int → Int) → Prop) : Prop := RI 63 0 [some (mvR 68), some (mvI x1), none, none, none] [] g h K
abbrev MD_eventsOf_4 (g : Nat → Nat → Nat) (h : Nat → Int → Int) (l1 : Int) (l2 : Int) (l3 : Int) (u4 : Option Int) (K : Int → (Nat → Int → Int) → Prop) : Prop := RI 63 4 [some (mvR 68), some (mvI l1), some (mvI l2), some (mvI l3), u4.map mvI] [] g h K
abbrev MD_eventsOf_15 (g : Nat → Nat → Nat) (h : Nat → Int → Int) (l1 : Int) (l2 : Int) (l3 : Int) (l4 : Int) (K : Int → (Nat → Int → Int) → Prop) : Prop := RI 63 15 [some (mvR 68), some (mvI l1), some (mvI l2), some (mvI l3), some (mvI l4)] [] g h K
theorem MD_eventsOf_wp {sw : Bool} {g : Nat → Nat → Nat} {h : Nat → Int → Int} {x1 : Int} {K : Int → (Nat → Int → Int) → Prop} (hG : Gok sw g)  (H :
  MD_eventsOf_4 g h x1 0 0 none K) : MD_eventsOf g h x1 K := by
  refine rc_iconst mq63 (mvDec_of cd63 rfl) (by decide) ?_
  refine rc_istore_n [some (mvR 68), some (mvI x1), some (mvI 0), none, none] mq63 (mvDec_of cd63 rfl) rfl ?_
  refine rc_iconst mq63 (mvDec_of cd63 rfl) (by decide) ?_
  refine rc_istore_n [some (mvR 68), some (mvI x1), some (mvI 0), some (mvI 0), none] mq63 (mvDec_of cd63 rfl) rfl ?_
  exact H
theorem MD_eventsOf_4_wp {sw : Bool} {g : Nat → Nat → Nat} {h : Nat → Int → Int} {l1 : Int} {l2 : Int} {l3 : Int} {u4 : Option Int} {K : Int → (Nat → Int → Int) → Prop} (hG : Gok sw g)  (H :
  (((h 68 0) ≤ l3 →
    K l2 h) ∧
  (l3 < (h 68 0) →
    MD_eventsOf_15 g h l1 l2 l3 0 K))) : MD_eventsOf_4 g h l1 l2 l3 u4 K := by
  refine rc_iload_n mq63 (mvDec_of cd63 rfl) rfl ?_
  refine rc_aload_n mq63 (mvDec_of cd63 rfl) rfl ?_
  refine rc_getI 0 mq63 (mvDec_of cd63 rfl) fl_10_138 mis68 rfl (by decide) (by decide) ?_
  refine rc_icmp_ge (t := 62) mq63 (mvDec_of cd63 rfl) rfl (fun hc => ?_) (fun hc => ?_)
  · replace H := H.1 hc
    refine rc_iload_n mq63 (mvDec_of cd63 rfl) rfl ?_
    exact rc_iret mq63 (mvDec_of cd63 rfl) ⟨_, _, rfl, rfl, H⟩
  · replace H := H.2 hc
    refine rc_iconst mq63 (mvDec_of cd63 rfl) (by decide) ?_
    refine rc_istore [some (mvR 68), some (mvI l1), some (mvI l2), some (mvI l3), some (mvI 0)] mq63 (mvDec_of cd63 rfl) rfl ?_
    exact H
theorem MD_eventsOf_15_wp {sw : Bool} {g : Nat → Nat → Nat} {h : Nat → Int → Int} {l1 : Int} {l2 : Int} {l3 : Int} {l4 : Int} {K : Int → (Nat → Int → Int) → Prop} (hG : Gok sw g)  (H :
  (0 ≤ l3 ∧ l3 < 4) ∧
  (((h 69 l3) ≤ l4 →
    MD_eventsOf_4 g h l1 l2 (mw (l3 + 1)) (some l4) K) ∧
  (l4 < (h 69 l3) →
    (0 ≤ (mw ((mw (9 * l3)) + l4)) ∧ (mw ((mw (9 * l3)) + l4)) < 36) ∧
    ((¬ (h 70 (mw ((mw (9 * l3)) + l4))) = l1 →
      (∀ v1, v1 = (mw (l2 + 0)) →
      MD_eventsOf_15 g h l1 v1 l3 (mw (l4 + 1)) K)) ∧
    ((h 70 (mw ((mw (9 * l3)) + l4))) = l1 →
      (∀ v2, v2 = (mw (l2 + 1)) →
      MD_eventsOf_15 g h l1 v2 l3 (mw (l4 + 1)) K)))))) : MD_eventsOf_15 g h l1 l2 l3 l4 K := by
  refine rc_iload mq63 (mvDec_of cd63 rfl) rfl ?_
  refine rc_aload_n mq63 (mvDec_of cd63 rfl) rfl ?_
  refine rc_getR 69 mq63 (mvDec_of cd63 rfl) fl_10_7 mis68 rfl (gr_68_1 hG) (by decide) ?_
  refine rc_iload_n mq63 (mvDec_of cd63 rfl) rfl ?_
  obtain ⟨⟨hb0, hb1⟩, H⟩ := H
  refine rc_iald mq63 (mvDec_of cd63 rfl) mis69 hb0 hb1 ?_
  refine rc_icmp_ge (t := 56) mq63 (mvDec_of cd63 rfl) rfl (fun hc => ?_) (fun hc => ?_)
  · replace H := H.1 hc
    refine rc_iinc [some (mvR 68), some (mvI l1), some (mvI l2), some (mvI (mw (l3 + 1))), some (mvI l4)] mq63 (mvDec_of cd63 rfl) rfl rfl ?_
    refine rc_goto (t := 4) mq63 (mvDec_of cd63 rfl) rfl ?_
    exact H
  · replace H := H.2 hc
    refine rc_iload_n mq63 (mvDec_of cd63 rfl) rfl ?_
    refine rc_aload_n mq63 (mvDec_of cd63 rfl) rfl ?_
    refine rc_getR 70 mq63 (mvDec_of cd63 rfl) fl_10_13 mis68 rfl (gr_68_2 hG) (by decide) ?_
    refine rc_bipush mq63 (mvDec_of cd63 rfl) (by decide) ?_
    refine rc_iload_n mq63 (mvDec_of cd63 rfl) rfl ?_
    refine rc_imul mq63 (mvDec_of cd63 rfl) ?_
    refine rc_iload mq63 (mvDec_of cd63 rfl) rfl ?_
    refine rc_iadd mq63 (mvDec_of cd63 rfl) ?_
    obtain ⟨⟨hb0, hb1⟩, H⟩ := H
    refine rc_iald mq63 (mvDec_of cd63 rfl) mis70 hb0 hb1 ?_
    refine rc_iload_n mq63 (mvDec_of cd63 rfl) rfl ?_
    refine rc_icmp_ne (t := 47) mq63 (mvDec_of cd63 rfl) rfl (fun hc => ?_) (fun hc => ?_)
    · replace H := H.1 hc
      refine rc_iconst mq63 (mvDec_of cd63 rfl) (by decide) ?_
      refine rc_iadd mq63 (mvDec_of cd63 rfl) ?_
      refine rc_top (fun v1 hv => ?_)
      replace H := H v1 hv
      refine rc_istore_n [some (mvR 68), some (mvI l1), some (mvI v1), some (mvI l3), some (mvI l4)] mq63 (mvDec_of cd63 rfl) rfl ?_
      refine rc_iinc [some (mvR 68), some (mvI l1), some (mvI v1), some (mvI l3), some (mvI (mw (l4 + 1)))] mq63 (mvDec_of cd63 rfl) rfl rfl ?_
      refine rc_goto (t := 15) mq63 (mvDec_of cd63 rfl) rfl ?_
      exact H
    · replace H := H.2 hc
      refine rc_iconst mq63 (mvDec_of cd63 rfl) (by decide) ?_
      refine rc_goto (t := 48) mq63 (mvDec_of cd63 rfl) rfl ?_
      refine rc_iadd mq63 (mvDec_of cd63 rfl) ?_
      refine rc_top (fun v2 hv => ?_)
      replace H := H v2 hv
      refine rc_istore_n [some (mvR 68), some (mvI l1), some (mvI v2), some (mvI l3), some (mvI l4)] mq63 (mvDec_of cd63 rfl) rfl ?_
      refine rc_iinc [some (mvR 68), some (mvI l1), some (mvI v2), some (mvI l3), some (mvI (mw (l4 + 1)))] mq63 (mvDec_of cd63 rfl) rfl rfl ?_
      refine rc_goto (t := 15) mq63 (mvDec_of cd63 rfl) rfl ?_
      exact H
abbrev MD_letter (g : Nat → Nat → Nat) (h : Nat → Int → Int) (x1 : Int) (K : Int → (Nat → Int → Int) → Prop) : Prop := RI 111 0 [some (mvR 68), some (mvI x1)] [] g h K
theorem MD_letter_wp {sw : Bool} {g : Nat → Nat → Nat} {h : Nat → Int → Int} {x1 : Int} {K : Int → (Nat → Int → Int) → Prop} (hG : Gok sw g)  (H :
  ((x1 < 32 →
    K (-102) h) ∧
  (32 ≤ x1 →
    ((126 < x1 →
      K (-102) h) ∧
    (x1 ≤ 126 →
      ((¬ (h 68 17) = 36 →
        (0 ≤ (h 68 17) ∧ (h 68 17) < 36) ∧
        (∀ h1, h1 = mvUpd h 76 (h 68 17) x1 →
        (∀ h2, h2 = mvUpd h1 68 17 (mw ((h1 68 17) + 1)) →
        K (h2 68 17) h2))) ∧
      ((h 68 17) = 36 →
        K (-104) h))))))) : MD_letter g h x1 K := by
  refine rc_iload_n mq111 (mvDec_of cd111 rfl) rfl ?_
  refine rc_bipush mq111 (mvDec_of cd111 rfl) (by decide) ?_
  refine rc_bipush mq111 (mvDec_of cd111 rfl) (by decide) ?_
  refine rc_callS [mvI x1, mvI 32, mvI 126] [] [some (mvI x1), some (mvI 32), some (mvI 126)] mq111 (mvDec_of cd111 rfl) lk_10_95 mq38 (by decide) rfl rfl (Nat.le_of_ble_eq_true rfl) (Nat.le_of_ble_eq_true rfl) (by decide) rfl ?_
  refine rc_iload_n mq38 (mvDec_of cd38 rfl) rfl ?_
  refine rc_iload_n mq38 (mvDec_of cd38 rfl) rfl ?_
  refine rc_icmp_lt (t := 14) mq38 (mvDec_of cd38 rfl) rfl (fun hc => ?_) (fun hc => ?_)
  · replace H := H.1 hc
    refine rc_iconst mq38 (mvDec_of cd38 rfl) (by decide) ?_
    refine rc_zret mq38 (mvDec_of cd38 rfl) (Or.inl rfl) ?_
    show Rch 111 8 [some (mvR 68), some (mvI x1)] [mvI 0] (97, g, h) _
    refine rc_ifF (t := 14) mq111 (mvDec_of cd111 rfl) rfl rfl ?_
    refine rc_bipush mq111 (mvDec_of cd111 rfl) (by decide) ?_
    exact rc_iret mq111 (mvDec_of cd111 rfl) ⟨_, _, rfl, rfl, H⟩
  · replace H := H.2 hc
    refine rc_iload_n mq38 (mvDec_of cd38 rfl) rfl ?_
    refine rc_iload_n mq38 (mvDec_of cd38 rfl) rfl ?_
    refine rc_icmp_gt (t := 14) mq38 (mvDec_of cd38 rfl) rfl (fun hc => ?_) (fun hc => ?_)
    · replace H := H.1 hc
      refine rc_iconst mq38 (mvDec_of cd38 rfl) (by decide) ?_
      refine rc_zret mq38 (mvDec_of cd38 rfl) (Or.inl rfl) ?_
      show Rch 111 8 [some (mvR 68), some (mvI x1)] [mvI 0] (97, g, h) _
      refine rc_ifF (t := 14) mq111 (mvDec_of cd111 rfl) rfl rfl ?_
      refine rc_bipush mq111 (mvDec_of cd111 rfl) (by decide) ?_
      exact rc_iret mq111 (mvDec_of cd111 rfl) ⟨_, _, rfl, rfl, H⟩
    · replace H := H.2 hc
      refine rc_iconst mq38 (mvDec_of cd38 rfl) (by decide) ?_
      refine rc_goto (t := 15) mq38 (mvDec_of cd38 rfl) rfl ?_
      refine rc_zret mq38 (mvDec_of cd38 rfl) (Or.inr rfl) ?_
      show Rch 111 8 [some (mvR 68), some (mvI x1)] [mvI 1] (97, g, h) _
      refine rc_ifT (t := 14) mq111 (mvDec_of cd111 rfl) rfl rfl ?_
      refine rc_aload_n mq111 (mvDec_of cd111 rfl) rfl ?_
      refine rc_getI 17 mq111 (mvDec_of cd111 rfl) fl_10_99 mis68 rfl (by decide) (by decide) ?_
      refine rc_bipush mq111 (mvDec_of cd111 rfl) (by decide) ?_
      refine rc_icmp_ne (t := 26) mq111 (mvDec_of cd111 rfl) rfl (fun hc => ?_) (fun hc => ?_)
      · replace H := H.1 hc
        refine rc_aload_n mq111 (mvDec_of cd111 rfl) rfl ?_
        refine rc_getR 76 mq111 (mvDec_of cd111 rfl) fl_10_31 mis68 rfl (gr_68_18 hG) (by decide) ?_
        refine rc_aload_n mq111 (mvDec_of cd111 rfl) rfl ?_
        refine rc_getI 17 mq111 (mvDec_of cd111 rfl) fl_10_99 mis68 rfl (by decide) (by decide) ?_
        refine rc_iload_n mq111 (mvDec_of cd111 rfl) rfl ?_
        obtain ⟨⟨hb0, hb1⟩, H⟩ := H
        refine rc_iast mq111 (mvDec_of cd111 rfl) mis76 hb0 hb1 ?_
        refine rc_heap (fun h1 hh => ?_)
        replace H := H h1 hh
        refine rc_aload_n mq111 (mvDec_of cd111 rfl) rfl ?_
        refine rc_dup mq111 (mvDec_of cd111 rfl) rfl ?_
        refine rc_getI 17 mq111 (mvDec_of cd111 rfl) fl_10_99 mis68 rfl (by decide) (by decide) ?_
        refine rc_iconst mq111 (mvDec_of cd111 rfl) (by decide) ?_
        refine rc_iadd mq111 (mvDec_of cd111 rfl) ?_
        refine rc_putI 17 mq111 (mvDec_of cd111 rfl) fl_10_99 mis68 rfl (fun z => absurd z (by decide)) (Or.inl rfl) ?_
        refine rc_heap (fun h2 hh => ?_)
        replace H := H h2 hh
        refine rc_aload_n mq111 (mvDec_of cd111 rfl) rfl ?_
        refine rc_getI 17 mq111 (mvDec_of cd111 rfl) fl_10_99 mis68 rfl (by decide) (by decide) ?_
        exact rc_iret mq111 (mvDec_of cd111 rfl) ⟨_, _, rfl, rfl, H⟩
      · replace H := H.2 hc
        refine rc_bipush mq111 (mvDec_of cd111 rfl) (by decide) ?_
        exact rc_iret mq111 (mvDec_of cd111 rfl) ⟨_, _, rfl, rfl, H⟩
abbrev MD_takes (g : Nat → Nat → Nat) (h : Nat → Int → Int) (x1 : Int) (K : Int → (Nat → Int → Int) → Prop) : Prop := RI 112 0 [some (mvR 68), some (mvI x1), none] [] g h K
theorem MD_takes_wp {sw : Bool} {g : Nat → Nat → Nat} {h : Nat → Int → Int} {x1 : Int} {K : Int → (Nat → Int → Int) → Prop} (hG : Gok sw g)  (H :
  (((h 68 21) = (-1) →
    ((¬ x1 = 59 →
      (0 ≤ (mw ((h 68 19) - 1)) ∧ (mw ((h 68 19) - 1)) < 4) ∧
      ((9 ≤ (h 77 (mw ((h 68 19) - 1))) →
        ((x1 = 33 →
          (∀ h1, h1 = mvUpd h 68 21 (-1) →
          K 0 h1)) ∧
        (¬ x1 = 33 →
          ((¬ x1 = 63 →
            K 0 h) ∧
          (x1 = 63 →
            (∀ h2, h2 = mvUpd h 68 21 (-1) →
            K 0 h2)))))) ∧
      ((h 77 (mw ((h 68 19) - 1))) < 9 →
        ((16 ≤ (h 68 20) →
          ((x1 = 33 →
            (∀ h3, h3 = mvUpd h 68 21 (-1) →
            K 0 h3)) ∧
          (¬ x1 = 33 →
            ((¬ x1 = 63 →
              K 0 h) ∧
            (x1 = 63 →
              (∀ h4, h4 = mvUpd h 68 21 (-1) →
              K 0 h4)))))) ∧
        ((h 68 20) < 16 →
          ((x1 = 33 →
            ((¬ x1 = 33 →
              (∀ h5, h5 = mvUpd h 68 21 2 →
              K 1 h5)) ∧
            (x1 = 33 →
              (∀ h6, h6 = mvUpd h 68 21 1 →
              K 1 h6)))) ∧
          (¬ x1 = 33 →
            ((¬ x1 = 63 →
              ((x1 < 48 →
                K 0 h) ∧
              (48 ≤ x1 →
                ((57 < x1 →
                  K 0 h) ∧
                (x1 ≤ 57 →
                  (∀ v7, v7 = (mw ((h 68 19) - 1)) →
                  (0 ≤ v7 ∧ v7 < 4) ∧
                  (0 ≤ (mw ((mw (9 * v7)) + (h 77 v7))) ∧ (mw ((mw (9 * v7)) + (h 77 v7))) < 36) ∧
                  (∀ h8, h8 = mvUpd h 78 (mw ((mw (9 * v7)) + (h 77 v7))) 0 →
                  (0 ≤ v7 ∧ v7 < 4) ∧
                  (0 ≤ (mw ((mw (9 * v7)) + (h8 77 v7))) ∧ (mw ((mw (9 * v7)) + (h8 77 v7))) < 36) ∧
                  (∀ h9, h9 = mvUpd h8 79 (mw ((mw (9 * v7)) + (h8 77 v7))) (mw (x1 - 48)) →
                  (0 ≤ v7 ∧ v7 < 4) ∧
                  (0 ≤ v7 ∧ v7 < 4) ∧
                  (∀ h10, h10 = mvUpd h9 77 v7 (mw ((h9 77 v7) + 1)) →
                  (∀ h11, h11 = mvUpd h10 68 20 (mw ((h10 68 20) + 1)) →
                  (∀ h12, h12 = mvUpd h11 68 21 (-1) →
                  K 1 h12))))))))))) ∧
            (x1 = 63 →
              ((¬ x1 = 33 →
                (∀ h13, h13 = mvUpd h 68 21 2 →
                K 1 h13)) ∧
              (x1 = 33 →
                (∀ h14, h14 = mvUpd h 68 21 1 →
                K 1 h14)))))))))))) ∧
    (x1 = 59 →
      ((4 ≤ (h 68 19) →
        (∀ h15, h15 = mvUpd h 68 19 (mw ((h 68 19) + 0)) →
        K 0 h15)) ∧
      ((h 68 19) < 4 →
        (∀ h16, h16 = mvUpd h 68 19 (mw ((h 68 19) + 1)) →
        K 1 h16)))))) ∧
  (¬ (h 68 21) = (-1) →
    ((x1 < 48 →
      K 0 h) ∧
    (48 ≤ x1 →
      ((51 < x1 →
        K 0 h) ∧
      (x1 ≤ 51 →
        (∀ v17, v17 = (mw ((h 68 19) - 1)) →
        (0 ≤ v17 ∧ v17 < 4) ∧
        (0 ≤ (mw ((mw (9 * v17)) + (h 77 v17))) ∧ (mw ((mw (9 * v17)) + (h 77 v17))) < 36) ∧
        (∀ h18, h18 = mvUpd h 78 (mw ((mw (9 * v17)) + (h 77 v17))) (h 68 21) →
        (0 ≤ v17 ∧ v17 < 4) ∧
        (0 ≤ (mw ((mw (9 * v17)) + (h18 77 v17))) ∧ (mw ((mw (9 * v17)) + (h18 77 v17))) < 36) ∧
        (∀ h19, h19 = mvUpd h18 79 (mw ((mw (9 * v17)) + (h18 77 v17))) (mw (x1 - 48)) →
        (0 ≤ v17 ∧ v17 < 4) ∧
        (0 ≤ v17 ∧ v17 < 4) ∧
        (∀ h20, h20 = mvUpd h19 77 v17 (mw ((h19 77 v17) + 1)) →
        (∀ h21, h21 = mvUpd h20 68 20 (mw ((h20 68 20) + 1)) →
        (∀ h22, h22 = mvUpd h21 68 21 (-1) →
        K 1 h22))))))))))))) : MD_takes g h x1 K := by
  refine rc_aload_n mq112 (mvDec_of cd112 rfl) rfl ?_
  refine rc_getI 21 mq112 (mvDec_of cd112 rfl) fl_10_109 mis68 rfl (by decide) (by decide) ?_
  refine rc_iconst mq112 (mvDec_of cd112 rfl) (by decide) ?_
  refine rc_icmp_eq (t := 40) mq112 (mvDec_of cd112 rfl) rfl (fun hc => ?_) (fun hc => ?_)
  · replace H := H.1 hc
    refine rc_iload_n mq112 (mvDec_of cd112 rfl) rfl ?_
    refine rc_bipush mq112 (mvDec_of cd112 rfl) (by decide) ?_
    refine rc_icmp_ne (t := 80) mq112 (mvDec_of cd112 rfl) rfl (fun hc => ?_) (fun hc => ?_)
    · replace H := H.1 hc
      refine rc_aload_n mq112 (mvDec_of cd112 rfl) rfl ?_
      refine rc_getR 77 mq112 (mvDec_of cd112 rfl) fl_10_34 mis68 rfl (gr_68_22 hG) (by decide) ?_
      refine rc_aload_n mq112 (mvDec_of cd112 rfl) rfl ?_
      refine rc_getI 19 mq112 (mvDec_of cd112 rfl) fl_10_103 mis68 rfl (by decide) (by decide) ?_
      refine rc_iconst mq112 (mvDec_of cd112 rfl) (by decide) ?_
      refine rc_isub mq112 (mvDec_of cd112 rfl) ?_
      obtain ⟨⟨hb0, hb1⟩, H⟩ := H
      refine rc_iald mq112 (mvDec_of cd112 rfl) mis77 hb0 hb1 ?_
      refine rc_bipush mq112 (mvDec_of cd112 rfl) (by decide) ?_
      refine rc_icmp_ge (t := 109) mq112 (mvDec_of cd112 rfl) rfl (fun hc => ?_) (fun hc => ?_)
      · replace H := H.1 hc
        refine rc_iconst mq112 (mvDec_of cd112 rfl) (by decide) ?_
        refine rc_istore_n [some (mvR 68), some (mvI x1), some (mvI 0)] mq112 (mvDec_of cd112 rfl) rfl ?_
        refine rc_iload_n mq112 (mvDec_of cd112 rfl) rfl ?_
        refine rc_bipush mq112 (mvDec_of cd112 rfl) (by decide) ?_
        refine rc_icmp_eq (t := 123) mq112 (mvDec_of cd112 rfl) rfl (fun hc => ?_) (fun hc => ?_)
        · replace H := H.1 hc
          refine rc_aload_n mq112 (mvDec_of cd112 rfl) rfl ?_
          refine rc_iload_n mq112 (mvDec_of cd112 rfl) rfl ?_
          refine rc_ifT (t := 142) mq112 (mvDec_of cd112 rfl) rfl rfl ?_
          refine rc_iconst mq112 (mvDec_of cd112 rfl) (by decide) ?_
          refine rc_putI 21 mq112 (mvDec_of cd112 rfl) fl_10_109 mis68 rfl (fun z => absurd z (by decide)) (Or.inl rfl) ?_
          refine rc_heap (fun h1 hh => ?_)
          replace H := H h1 hh
          refine rc_iload_n mq112 (mvDec_of cd112 rfl) rfl ?_
          exact rc_zret mq112 (mvDec_of cd112 rfl) (Or.inl rfl) ⟨_, _, rfl, rfl, H⟩
        · replace H := H.2 hc
          refine rc_iload_n mq112 (mvDec_of cd112 rfl) rfl ?_
          refine rc_bipush mq112 (mvDec_of cd112 rfl) (by decide) ?_
          refine rc_icmp_ne (t := 148) mq112 (mvDec_of cd112 rfl) rfl (fun hc => ?_) (fun hc => ?_)
          · replace H := H.1 hc
            refine rc_iload_n mq112 (mvDec_of cd112 rfl) rfl ?_
            refine rc_ifT (t := 179) mq112 (mvDec_of cd112 rfl) rfl rfl ?_
            refine rc_iconst mq112 (mvDec_of cd112 rfl) (by decide) ?_
            exact rc_zret mq112 (mvDec_of cd112 rfl) (Or.inl rfl) ⟨_, _, rfl, rfl, H⟩
          · replace H := H.2 hc
            refine rc_aload_n mq112 (mvDec_of cd112 rfl) rfl ?_
            refine rc_iload_n mq112 (mvDec_of cd112 rfl) rfl ?_
            refine rc_ifT (t := 142) mq112 (mvDec_of cd112 rfl) rfl rfl ?_
            refine rc_iconst mq112 (mvDec_of cd112 rfl) (by decide) ?_
            refine rc_putI 21 mq112 (mvDec_of cd112 rfl) fl_10_109 mis68 rfl (fun z => absurd z (by decide)) (Or.inl rfl) ?_
            refine rc_heap (fun h2 hh => ?_)
            replace H := H h2 hh
            refine rc_iload_n mq112 (mvDec_of cd112 rfl) rfl ?_
            exact rc_zret mq112 (mvDec_of cd112 rfl) (Or.inl rfl) ⟨_, _, rfl, rfl, H⟩
      · replace H := H.2 hc
        refine rc_aload_n mq112 (mvDec_of cd112 rfl) rfl ?_
        refine rc_getI 20 mq112 (mvDec_of cd112 rfl) fl_10_106 mis68 rfl (by decide) (by decide) ?_
        refine rc_bipush mq112 (mvDec_of cd112 rfl) (by decide) ?_
        refine rc_icmp_ge (t := 109) mq112 (mvDec_of cd112 rfl) rfl (fun hc => ?_) (fun hc => ?_)
        · replace H := H.1 hc
          refine rc_iconst mq112 (mvDec_of cd112 rfl) (by decide) ?_
          refine rc_istore_n [some (mvR 68), some (mvI x1), some (mvI 0)] mq112 (mvDec_of cd112 rfl) rfl ?_
          refine rc_iload_n mq112 (mvDec_of cd112 rfl) rfl ?_
          refine rc_bipush mq112 (mvDec_of cd112 rfl) (by decide) ?_
          refine rc_icmp_eq (t := 123) mq112 (mvDec_of cd112 rfl) rfl (fun hc => ?_) (fun hc => ?_)
          · replace H := H.1 hc
            refine rc_aload_n mq112 (mvDec_of cd112 rfl) rfl ?_
            refine rc_iload_n mq112 (mvDec_of cd112 rfl) rfl ?_
            refine rc_ifT (t := 142) mq112 (mvDec_of cd112 rfl) rfl rfl ?_
            refine rc_iconst mq112 (mvDec_of cd112 rfl) (by decide) ?_
            refine rc_putI 21 mq112 (mvDec_of cd112 rfl) fl_10_109 mis68 rfl (fun z => absurd z (by decide)) (Or.inl rfl) ?_
            refine rc_heap (fun h3 hh => ?_)
            replace H := H h3 hh
            refine rc_iload_n mq112 (mvDec_of cd112 rfl) rfl ?_
            exact rc_zret mq112 (mvDec_of cd112 rfl) (Or.inl rfl) ⟨_, _, rfl, rfl, H⟩
          · replace H := H.2 hc
            refine rc_iload_n mq112 (mvDec_of cd112 rfl) rfl ?_
            refine rc_bipush mq112 (mvDec_of cd112 rfl) (by decide) ?_
            refine rc_icmp_ne (t := 148) mq112 (mvDec_of cd112 rfl) rfl (fun hc => ?_) (fun hc => ?_)
            · replace H := H.1 hc
              refine rc_iload_n mq112 (mvDec_of cd112 rfl) rfl ?_
              refine rc_ifT (t := 179) mq112 (mvDec_of cd112 rfl) rfl rfl ?_
              refine rc_iconst mq112 (mvDec_of cd112 rfl) (by decide) ?_
              exact rc_zret mq112 (mvDec_of cd112 rfl) (Or.inl rfl) ⟨_, _, rfl, rfl, H⟩
            · replace H := H.2 hc
              refine rc_aload_n mq112 (mvDec_of cd112 rfl) rfl ?_
              refine rc_iload_n mq112 (mvDec_of cd112 rfl) rfl ?_
              refine rc_ifT (t := 142) mq112 (mvDec_of cd112 rfl) rfl rfl ?_
              refine rc_iconst mq112 (mvDec_of cd112 rfl) (by decide) ?_
              refine rc_putI 21 mq112 (mvDec_of cd112 rfl) fl_10_109 mis68 rfl (fun z => absurd z (by decide)) (Or.inl rfl) ?_
              refine rc_heap (fun h4 hh => ?_)
              replace H := H h4 hh
              refine rc_iload_n mq112 (mvDec_of cd112 rfl) rfl ?_
              exact rc_zret mq112 (mvDec_of cd112 rfl) (Or.inl rfl) ⟨_, _, rfl, rfl, H⟩
        · replace H := H.2 hc
          refine rc_iconst mq112 (mvDec_of cd112 rfl) (by decide) ?_
          refine rc_goto (t := 110) mq112 (mvDec_of cd112 rfl) rfl ?_
          refine rc_istore_n [some (mvR 68), some (mvI x1), some (mvI 1)] mq112 (mvDec_of cd112 rfl) rfl ?_
          refine rc_iload_n mq112 (mvDec_of cd112 rfl) rfl ?_
          refine rc_bipush mq112 (mvDec_of cd112 rfl) (by decide) ?_
          refine rc_icmp_eq (t := 123) mq112 (mvDec_of cd112 rfl) rfl (fun hc => ?_) (fun hc => ?_)
          · replace H := H.1 hc
            refine rc_aload_n mq112 (mvDec_of cd112 rfl) rfl ?_
            refine rc_iload_n mq112 (mvDec_of cd112 rfl) rfl ?_
            refine rc_ifF (t := 142) mq112 (mvDec_of cd112 rfl) rfl rfl ?_
            refine rc_iload_n mq112 (mvDec_of cd112 rfl) rfl ?_
            refine rc_bipush mq112 (mvDec_of cd112 rfl) (by decide) ?_
            refine rc_icmp_ne (t := 138) mq112 (mvDec_of cd112 rfl) rfl (fun hc => ?_) (fun hc => ?_)
            · replace H := H.1 hc
              refine rc_iconst mq112 (mvDec_of cd112 rfl) (by decide) ?_
              refine rc_goto (t := 143) mq112 (mvDec_of cd112 rfl) rfl ?_
              refine rc_putI 21 mq112 (mvDec_of cd112 rfl) fl_10_109 mis68 rfl (fun z => absurd z (by decide)) (Or.inl rfl) ?_
              refine rc_heap (fun h5 hh => ?_)
              replace H := H h5 hh
              refine rc_iload_n mq112 (mvDec_of cd112 rfl) rfl ?_
              exact rc_zret mq112 (mvDec_of cd112 rfl) (Or.inr rfl) ⟨_, _, rfl, rfl, H⟩
            · replace H := H.2 hc
              refine rc_iconst mq112 (mvDec_of cd112 rfl) (by decide) ?_
              refine rc_goto (t := 143) mq112 (mvDec_of cd112 rfl) rfl ?_
              refine rc_putI 21 mq112 (mvDec_of cd112 rfl) fl_10_109 mis68 rfl (fun z => absurd z (by decide)) (Or.inl rfl) ?_
              refine rc_heap (fun h6 hh => ?_)
              replace H := H h6 hh
              refine rc_iload_n mq112 (mvDec_of cd112 rfl) rfl ?_
              exact rc_zret mq112 (mvDec_of cd112 rfl) (Or.inr rfl) ⟨_, _, rfl, rfl, H⟩
          · replace H := H.2 hc
            refine rc_iload_n mq112 (mvDec_of cd112 rfl) rfl ?_
            refine rc_bipush mq112 (mvDec_of cd112 rfl) (by decide) ?_
            refine rc_icmp_ne (t := 148) mq112 (mvDec_of cd112 rfl) rfl (fun hc => ?_) (fun hc => ?_)
            · replace H := H.1 hc
              refine rc_iload_n mq112 (mvDec_of cd112 rfl) rfl ?_
              refine rc_ifF (t := 179) mq112 (mvDec_of cd112 rfl) rfl rfl ?_
              refine rc_iload_n mq112 (mvDec_of cd112 rfl) rfl ?_
              refine rc_bipush mq112 (mvDec_of cd112 rfl) (by decide) ?_
              refine rc_bipush mq112 (mvDec_of cd112 rfl) (by decide) ?_
              refine rc_callS [mvI x1, mvI 48, mvI 57] [] [some (mvI x1), some (mvI 48), some (mvI 57)] mq112 (mvDec_of cd112 rfl) lk_10_95 mq38 (by decide) rfl rfl (Nat.le_of_ble_eq_true rfl) (Nat.le_of_ble_eq_true rfl) (by decide) rfl ?_
              refine rc_iload_n mq38 (mvDec_of cd38 rfl) rfl ?_
              refine rc_iload_n mq38 (mvDec_of cd38 rfl) rfl ?_
              refine rc_icmp_lt (t := 14) mq38 (mvDec_of cd38 rfl) rfl (fun hc => ?_) (fun hc => ?_)
              · replace H := H.1 hc
                refine rc_iconst mq38 (mvDec_of cd38 rfl) (by decide) ?_
                refine rc_zret mq38 (mvDec_of cd38 rfl) (Or.inl rfl) ?_
                show Rch 112 160 [some (mvR 68), some (mvI x1), some (mvI 1)] [mvI 0] (97, g, h) _
                refine rc_ifT (t := 179) mq112 (mvDec_of cd112 rfl) rfl rfl ?_
                refine rc_iconst mq112 (mvDec_of cd112 rfl) (by decide) ?_
                exact rc_zret mq112 (mvDec_of cd112 rfl) (Or.inl rfl) ⟨_, _, rfl, rfl, H⟩
              · replace H := H.2 hc
                refine rc_iload_n mq38 (mvDec_of cd38 rfl) rfl ?_
                refine rc_iload_n mq38 (mvDec_of cd38 rfl) rfl ?_
                refine rc_icmp_gt (t := 14) mq38 (mvDec_of cd38 rfl) rfl (fun hc => ?_) (fun hc => ?_)
                · replace H := H.1 hc
                  refine rc_iconst mq38 (mvDec_of cd38 rfl) (by decide) ?_
                  refine rc_zret mq38 (mvDec_of cd38 rfl) (Or.inl rfl) ?_
                  show Rch 112 160 [some (mvR 68), some (mvI x1), some (mvI 1)] [mvI 0] (97, g, h) _
                  refine rc_ifT (t := 179) mq112 (mvDec_of cd112 rfl) rfl rfl ?_
                  refine rc_iconst mq112 (mvDec_of cd112 rfl) (by decide) ?_
                  exact rc_zret mq112 (mvDec_of cd112 rfl) (Or.inl rfl) ⟨_, _, rfl, rfl, H⟩
                · replace H := H.2 hc
                  refine rc_iconst mq38 (mvDec_of cd38 rfl) (by decide) ?_
                  refine rc_goto (t := 15) mq38 (mvDec_of cd38 rfl) rfl ?_
                  refine rc_zret mq38 (mvDec_of cd38 rfl) (Or.inr rfl) ?_
                  show Rch 112 160 [some (mvR 68), some (mvI x1), some (mvI 1)] [mvI 1] (97, g, h) _
                  refine rc_ifF (t := 179) mq112 (mvDec_of cd112 rfl) rfl rfl ?_
                  refine rc_aload_n mq112 (mvDec_of cd112 rfl) rfl ?_
                  refine rc_iconst mq112 (mvDec_of cd112 rfl) (by decide) ?_
                  refine rc_iload_n mq112 (mvDec_of cd112 rfl) rfl ?_
                  refine rc_bipush mq112 (mvDec_of cd112 rfl) (by decide) ?_
                  refine rc_isub mq112 (mvDec_of cd112 rfl) ?_
                  refine rc_callV [mvR 68, mvI 0, mvI (mw (x1 - 48))] [] [some (mvR 68), some (mvI 0), some (mvI (mw (x1 - 48))), none] mq112 (mvDec_of cd112 rfl) lk_10_112 mq40 (by decide) rfl rfl (Nat.le_of_ble_eq_true rfl) (Nat.le_of_ble_eq_true rfl) (by decide) rfl mis68 rfl ?_
                  refine rc_aload_n mq40 (mvDec_of cd40 rfl) rfl ?_
                  refine rc_getI 19 mq40 (mvDec_of cd40 rfl) fl_10_103 mis68 rfl (by decide) (by decide) ?_
                  refine rc_iconst mq40 (mvDec_of cd40 rfl) (by decide) ?_
                  refine rc_isub mq40 (mvDec_of cd40 rfl) ?_
                  refine rc_top (fun v7 hv => ?_)
                  replace H := H v7 hv
                  refine rc_istore_n [some (mvR 68), some (mvI 0), some (mvI (mw (x1 - 48))), some (mvI v7)] mq40 (mvDec_of cd40 rfl) rfl ?_
                  refine rc_aload_n mq40 (mvDec_of cd40 rfl) rfl ?_
                  refine rc_getR 78 mq40 (mvDec_of cd40 rfl) fl_10_37 mis68 rfl (gr_68_23 hG) (by decide) ?_
                  refine rc_bipush mq40 (mvDec_of cd40 rfl) (by decide) ?_
                  refine rc_iload_n mq40 (mvDec_of cd40 rfl) rfl ?_
                  refine rc_imul mq40 (mvDec_of cd40 rfl) ?_
                  refine rc_aload_n mq40 (mvDec_of cd40 rfl) rfl ?_
                  refine rc_getR 77 mq40 (mvDec_of cd40 rfl) fl_10_34 mis68 rfl (gr_68_22 hG) (by decide) ?_
                  refine rc_iload_n mq40 (mvDec_of cd40 rfl) rfl ?_
                  obtain ⟨⟨hb0, hb1⟩, H⟩ := H
                  refine rc_iald mq40 (mvDec_of cd40 rfl) mis77 hb0 hb1 ?_
                  refine rc_iadd mq40 (mvDec_of cd40 rfl) ?_
                  refine rc_iload_n mq40 (mvDec_of cd40 rfl) rfl ?_
                  obtain ⟨⟨hb0, hb1⟩, H⟩ := H
                  refine rc_iast mq40 (mvDec_of cd40 rfl) mis78 hb0 hb1 ?_
                  refine rc_heap (fun h8 hh => ?_)
                  replace H := H h8 hh
                  refine rc_aload_n mq40 (mvDec_of cd40 rfl) rfl ?_
                  refine rc_getR 79 mq40 (mvDec_of cd40 rfl) fl_10_40 mis68 rfl (gr_68_24 hG) (by decide) ?_
                  refine rc_bipush mq40 (mvDec_of cd40 rfl) (by decide) ?_
                  refine rc_iload_n mq40 (mvDec_of cd40 rfl) rfl ?_
                  refine rc_imul mq40 (mvDec_of cd40 rfl) ?_
                  refine rc_aload_n mq40 (mvDec_of cd40 rfl) rfl ?_
                  refine rc_getR 77 mq40 (mvDec_of cd40 rfl) fl_10_34 mis68 rfl (gr_68_22 hG) (by decide) ?_
                  refine rc_iload_n mq40 (mvDec_of cd40 rfl) rfl ?_
                  obtain ⟨⟨hb0, hb1⟩, H⟩ := H
                  refine rc_iald mq40 (mvDec_of cd40 rfl) mis77 hb0 hb1 ?_
                  refine rc_iadd mq40 (mvDec_of cd40 rfl) ?_
                  refine rc_iload_n mq40 (mvDec_of cd40 rfl) rfl ?_
                  obtain ⟨⟨hb0, hb1⟩, H⟩ := H
                  refine rc_iast mq40 (mvDec_of cd40 rfl) mis79 hb0 hb1 ?_
                  refine rc_heap (fun h9 hh => ?_)
                  replace H := H h9 hh
                  refine rc_aload_n mq40 (mvDec_of cd40 rfl) rfl ?_
                  refine rc_getR 77 mq40 (mvDec_of cd40 rfl) fl_10_34 mis68 rfl (gr_68_22 hG) (by decide) ?_
                  refine rc_iload_n mq40 (mvDec_of cd40 rfl) rfl ?_
                  refine rc_dup2 mq40 (mvDec_of cd40 rfl) rfl rfl ?_
                  obtain ⟨⟨hb0, hb1⟩, H⟩ := H
                  refine rc_iald mq40 (mvDec_of cd40 rfl) mis77 hb0 hb1 ?_
                  refine rc_iconst mq40 (mvDec_of cd40 rfl) (by decide) ?_
                  refine rc_iadd mq40 (mvDec_of cd40 rfl) ?_
                  obtain ⟨⟨hb0, hb1⟩, H⟩ := H
                  refine rc_iast mq40 (mvDec_of cd40 rfl) mis77 hb0 hb1 ?_
                  refine rc_heap (fun h10 hh => ?_)
                  replace H := H h10 hh
                  refine rc_aload_n mq40 (mvDec_of cd40 rfl) rfl ?_
                  refine rc_dup mq40 (mvDec_of cd40 rfl) rfl ?_
                  refine rc_getI 20 mq40 (mvDec_of cd40 rfl) fl_10_106 mis68 rfl (by decide) (by decide) ?_
                  refine rc_iconst mq40 (mvDec_of cd40 rfl) (by decide) ?_
                  refine rc_iadd mq40 (mvDec_of cd40 rfl) ?_
                  refine rc_putI 20 mq40 (mvDec_of cd40 rfl) fl_10_106 mis68 rfl (fun z => absurd z (by decide)) (Or.inl rfl) ?_
                  refine rc_heap (fun h11 hh => ?_)
                  replace H := H h11 hh
                  refine rc_aload_n mq40 (mvDec_of cd40 rfl) rfl ?_
                  refine rc_iconst mq40 (mvDec_of cd40 rfl) (by decide) ?_
                  refine rc_putI 21 mq40 (mvDec_of cd40 rfl) fl_10_109 mis68 rfl (fun z => absurd z (by decide)) (Or.inl rfl) ?_
                  refine rc_heap (fun h12 hh => ?_)
                  replace H := H h12 hh
                  refine rc_iconst mq40 (mvDec_of cd40 rfl) (by decide) ?_
                  refine rc_zret mq40 (mvDec_of cd40 rfl) (Or.inr rfl) ?_
                  show Rch 112 172 [some (mvR 68), some (mvI x1), some (mvI 1)] [mvI 1] (97, g, h12) _
                  refine rc_ifF (t := 179) mq112 (mvDec_of cd112 rfl) rfl rfl ?_
                  refine rc_iconst mq112 (mvDec_of cd112 rfl) (by decide) ?_
                  refine rc_goto (t := 180) mq112 (mvDec_of cd112 rfl) rfl ?_
                  exact rc_zret mq112 (mvDec_of cd112 rfl) (Or.inr rfl) ⟨_, _, rfl, rfl, H⟩
            · replace H := H.2 hc
              refine rc_aload_n mq112 (mvDec_of cd112 rfl) rfl ?_
              refine rc_iload_n mq112 (mvDec_of cd112 rfl) rfl ?_
              refine rc_ifF (t := 142) mq112 (mvDec_of cd112 rfl) rfl rfl ?_
              refine rc_iload_n mq112 (mvDec_of cd112 rfl) rfl ?_
              refine rc_bipush mq112 (mvDec_of cd112 rfl) (by decide) ?_
              refine rc_icmp_ne (t := 138) mq112 (mvDec_of cd112 rfl) rfl (fun hc => ?_) (fun hc => ?_)
              · replace H := H.1 hc
                refine rc_iconst mq112 (mvDec_of cd112 rfl) (by decide) ?_
                refine rc_goto (t := 143) mq112 (mvDec_of cd112 rfl) rfl ?_
                refine rc_putI 21 mq112 (mvDec_of cd112 rfl) fl_10_109 mis68 rfl (fun z => absurd z (by decide)) (Or.inl rfl) ?_
                refine rc_heap (fun h13 hh => ?_)
                replace H := H h13 hh
                refine rc_iload_n mq112 (mvDec_of cd112 rfl) rfl ?_
                exact rc_zret mq112 (mvDec_of cd112 rfl) (Or.inr rfl) ⟨_, _, rfl, rfl, H⟩
              · replace H := H.2 hc
                refine rc_iconst mq112 (mvDec_of cd112 rfl) (by decide) ?_
                refine rc_goto (t := 143) mq112 (mvDec_of cd112 rfl) rfl ?_
                refine rc_putI 21 mq112 (mvDec_of cd112 rfl) fl_10_109 mis68 rfl (fun z => absurd z (by decide)) (Or.inl rfl) ?_
                refine rc_heap (fun h14 hh => ?_)
                replace H := H h14 hh
                refine rc_iload_n mq112 (mvDec_of cd112 rfl) rfl ?_
                exact rc_zret mq112 (mvDec_of cd112 rfl) (Or.inr rfl) ⟨_, _, rfl, rfl, H⟩
    · replace H := H.2 hc
      refine rc_aload_n mq112 (mvDec_of cd112 rfl) rfl ?_
      refine rc_getI 19 mq112 (mvDec_of cd112 rfl) fl_10_103 mis68 rfl (by decide) (by decide) ?_
      refine rc_iconst mq112 (mvDec_of cd112 rfl) (by decide) ?_
      refine rc_icmp_ge (t := 58) mq112 (mvDec_of cd112 rfl) rfl (fun hc => ?_) (fun hc => ?_)
      · replace H := H.1 hc
        refine rc_iconst mq112 (mvDec_of cd112 rfl) (by decide) ?_
        refine rc_istore_n [some (mvR 68), some (mvI x1), some (mvI 0)] mq112 (mvDec_of cd112 rfl) rfl ?_
        refine rc_aload_n mq112 (mvDec_of cd112 rfl) rfl ?_
        refine rc_dup mq112 (mvDec_of cd112 rfl) rfl ?_
        refine rc_getI 19 mq112 (mvDec_of cd112 rfl) fl_10_103 mis68 rfl (by decide) (by decide) ?_
        refine rc_iload_n mq112 (mvDec_of cd112 rfl) rfl ?_
        refine rc_ifT (t := 73) mq112 (mvDec_of cd112 rfl) rfl rfl ?_
        refine rc_iconst mq112 (mvDec_of cd112 rfl) (by decide) ?_
        refine rc_iadd mq112 (mvDec_of cd112 rfl) ?_
        refine rc_putI 19 mq112 (mvDec_of cd112 rfl) fl_10_103 mis68 rfl (fun z => absurd z (by decide)) (Or.inl rfl) ?_
        refine rc_heap (fun h15 hh => ?_)
        replace H := H h15 hh
        refine rc_iload_n mq112 (mvDec_of cd112 rfl) rfl ?_
        exact rc_zret mq112 (mvDec_of cd112 rfl) (Or.inl rfl) ⟨_, _, rfl, rfl, H⟩
      · replace H := H.2 hc
        refine rc_iconst mq112 (mvDec_of cd112 rfl) (by decide) ?_
        refine rc_goto (t := 59) mq112 (mvDec_of cd112 rfl) rfl ?_
        refine rc_istore_n [some (mvR 68), some (mvI x1), some (mvI 1)] mq112 (mvDec_of cd112 rfl) rfl ?_
        refine rc_aload_n mq112 (mvDec_of cd112 rfl) rfl ?_
        refine rc_dup mq112 (mvDec_of cd112 rfl) rfl ?_
        refine rc_getI 19 mq112 (mvDec_of cd112 rfl) fl_10_103 mis68 rfl (by decide) (by decide) ?_
        refine rc_iload_n mq112 (mvDec_of cd112 rfl) rfl ?_
        refine rc_ifF (t := 73) mq112 (mvDec_of cd112 rfl) rfl rfl ?_
        refine rc_iconst mq112 (mvDec_of cd112 rfl) (by decide) ?_
        refine rc_goto (t := 74) mq112 (mvDec_of cd112 rfl) rfl ?_
        refine rc_iadd mq112 (mvDec_of cd112 rfl) ?_
        refine rc_putI 19 mq112 (mvDec_of cd112 rfl) fl_10_103 mis68 rfl (fun z => absurd z (by decide)) (Or.inl rfl) ?_
        refine rc_heap (fun h16 hh => ?_)
        replace H := H h16 hh
        refine rc_iload_n mq112 (mvDec_of cd112 rfl) rfl ?_
        exact rc_zret mq112 (mvDec_of cd112 rfl) (Or.inr rfl) ⟨_, _, rfl, rfl, H⟩
  · replace H := H.2 hc
    refine rc_iload_n mq112 (mvDec_of cd112 rfl) rfl ?_
    refine rc_bipush mq112 (mvDec_of cd112 rfl) (by decide) ?_
    refine rc_bipush mq112 (mvDec_of cd112 rfl) (by decide) ?_
    refine rc_callS [mvI x1, mvI 48, mvI 51] [] [some (mvI x1), some (mvI 48), some (mvI 51)] mq112 (mvDec_of cd112 rfl) lk_10_95 mq38 (by decide) rfl rfl (Nat.le_of_ble_eq_true rfl) (Nat.le_of_ble_eq_true rfl) (by decide) rfl ?_
    refine rc_iload_n mq38 (mvDec_of cd38 rfl) rfl ?_
    refine rc_iload_n mq38 (mvDec_of cd38 rfl) rfl ?_
    refine rc_icmp_lt (t := 14) mq38 (mvDec_of cd38 rfl) rfl (fun hc => ?_) (fun hc => ?_)
    · replace H := H.1 hc
      refine rc_iconst mq38 (mvDec_of cd38 rfl) (by decide) ?_
      refine rc_zret mq38 (mvDec_of cd38 rfl) (Or.inl rfl) ?_
      show Rch 112 16 [some (mvR 68), some (mvI x1), none] [mvI 0] (97, g, h) _
      refine rc_ifT (t := 38) mq112 (mvDec_of cd112 rfl) rfl rfl ?_
      refine rc_iconst mq112 (mvDec_of cd112 rfl) (by decide) ?_
      exact rc_zret mq112 (mvDec_of cd112 rfl) (Or.inl rfl) ⟨_, _, rfl, rfl, H⟩
    · replace H := H.2 hc
      refine rc_iload_n mq38 (mvDec_of cd38 rfl) rfl ?_
      refine rc_iload_n mq38 (mvDec_of cd38 rfl) rfl ?_
      refine rc_icmp_gt (t := 14) mq38 (mvDec_of cd38 rfl) rfl (fun hc => ?_) (fun hc => ?_)
      · replace H := H.1 hc
        refine rc_iconst mq38 (mvDec_of cd38 rfl) (by decide) ?_
        refine rc_zret mq38 (mvDec_of cd38 rfl) (Or.inl rfl) ?_
        show Rch 112 16 [some (mvR 68), some (mvI x1), none] [mvI 0] (97, g, h) _
        refine rc_ifT (t := 38) mq112 (mvDec_of cd112 rfl) rfl rfl ?_
        refine rc_iconst mq112 (mvDec_of cd112 rfl) (by decide) ?_
        exact rc_zret mq112 (mvDec_of cd112 rfl) (Or.inl rfl) ⟨_, _, rfl, rfl, H⟩
      · replace H := H.2 hc
        refine rc_iconst mq38 (mvDec_of cd38 rfl) (by decide) ?_
        refine rc_goto (t := 15) mq38 (mvDec_of cd38 rfl) rfl ?_
        refine rc_zret mq38 (mvDec_of cd38 rfl) (Or.inr rfl) ?_
        show Rch 112 16 [some (mvR 68), some (mvI x1), none] [mvI 1] (97, g, h) _
        refine rc_ifF (t := 38) mq112 (mvDec_of cd112 rfl) rfl rfl ?_
        refine rc_aload_n mq112 (mvDec_of cd112 rfl) rfl ?_
        refine rc_aload_n mq112 (mvDec_of cd112 rfl) rfl ?_
        refine rc_getI 21 mq112 (mvDec_of cd112 rfl) fl_10_109 mis68 rfl (by decide) (by decide) ?_
        refine rc_iload_n mq112 (mvDec_of cd112 rfl) rfl ?_
        refine rc_bipush mq112 (mvDec_of cd112 rfl) (by decide) ?_
        refine rc_isub mq112 (mvDec_of cd112 rfl) ?_
        refine rc_callV [mvR 68, mvI (h 68 21), mvI (mw (x1 - 48))] [] [some (mvR 68), some (mvI (h 68 21)), some (mvI (mw (x1 - 48))), none] mq112 (mvDec_of cd112 rfl) lk_10_112 mq40 (by decide) rfl rfl (Nat.le_of_ble_eq_true rfl) (Nat.le_of_ble_eq_true rfl) (by decide) rfl mis68 rfl ?_
        refine rc_aload_n mq40 (mvDec_of cd40 rfl) rfl ?_
        refine rc_getI 19 mq40 (mvDec_of cd40 rfl) fl_10_103 mis68 rfl (by decide) (by decide) ?_
        refine rc_iconst mq40 (mvDec_of cd40 rfl) (by decide) ?_
        refine rc_isub mq40 (mvDec_of cd40 rfl) ?_
        refine rc_top (fun v17 hv => ?_)
        replace H := H v17 hv
        refine rc_istore_n [some (mvR 68), some (mvI (h 68 21)), some (mvI (mw (x1 - 48))), some (mvI v17)] mq40 (mvDec_of cd40 rfl) rfl ?_
        refine rc_aload_n mq40 (mvDec_of cd40 rfl) rfl ?_
        refine rc_getR 78 mq40 (mvDec_of cd40 rfl) fl_10_37 mis68 rfl (gr_68_23 hG) (by decide) ?_
        refine rc_bipush mq40 (mvDec_of cd40 rfl) (by decide) ?_
        refine rc_iload_n mq40 (mvDec_of cd40 rfl) rfl ?_
        refine rc_imul mq40 (mvDec_of cd40 rfl) ?_
        refine rc_aload_n mq40 (mvDec_of cd40 rfl) rfl ?_
        refine rc_getR 77 mq40 (mvDec_of cd40 rfl) fl_10_34 mis68 rfl (gr_68_22 hG) (by decide) ?_
        refine rc_iload_n mq40 (mvDec_of cd40 rfl) rfl ?_
        obtain ⟨⟨hb0, hb1⟩, H⟩ := H
        refine rc_iald mq40 (mvDec_of cd40 rfl) mis77 hb0 hb1 ?_
        refine rc_iadd mq40 (mvDec_of cd40 rfl) ?_
        refine rc_iload_n mq40 (mvDec_of cd40 rfl) rfl ?_
        obtain ⟨⟨hb0, hb1⟩, H⟩ := H
        refine rc_iast mq40 (mvDec_of cd40 rfl) mis78 hb0 hb1 ?_
        refine rc_heap (fun h18 hh => ?_)
        replace H := H h18 hh
        refine rc_aload_n mq40 (mvDec_of cd40 rfl) rfl ?_
        refine rc_getR 79 mq40 (mvDec_of cd40 rfl) fl_10_40 mis68 rfl (gr_68_24 hG) (by decide) ?_
        refine rc_bipush mq40 (mvDec_of cd40 rfl) (by decide) ?_
        refine rc_iload_n mq40 (mvDec_of cd40 rfl) rfl ?_
        refine rc_imul mq40 (mvDec_of cd40 rfl) ?_
        refine rc_aload_n mq40 (mvDec_of cd40 rfl) rfl ?_
        refine rc_getR 77 mq40 (mvDec_of cd40 rfl) fl_10_34 mis68 rfl (gr_68_22 hG) (by decide) ?_
        refine rc_iload_n mq40 (mvDec_of cd40 rfl) rfl ?_
        obtain ⟨⟨hb0, hb1⟩, H⟩ := H
        refine rc_iald mq40 (mvDec_of cd40 rfl) mis77 hb0 hb1 ?_
        refine rc_iadd mq40 (mvDec_of cd40 rfl) ?_
        refine rc_iload_n mq40 (mvDec_of cd40 rfl) rfl ?_
        obtain ⟨⟨hb0, hb1⟩, H⟩ := H
        refine rc_iast mq40 (mvDec_of cd40 rfl) mis79 hb0 hb1 ?_
        refine rc_heap (fun h19 hh => ?_)
        replace H := H h19 hh
        refine rc_aload_n mq40 (mvDec_of cd40 rfl) rfl ?_
        refine rc_getR 77 mq40 (mvDec_of cd40 rfl) fl_10_34 mis68 rfl (gr_68_22 hG) (by decide) ?_
        refine rc_iload_n mq40 (mvDec_of cd40 rfl) rfl ?_
        refine rc_dup2 mq40 (mvDec_of cd40 rfl) rfl rfl ?_
        obtain ⟨⟨hb0, hb1⟩, H⟩ := H
        refine rc_iald mq40 (mvDec_of cd40 rfl) mis77 hb0 hb1 ?_
        refine rc_iconst mq40 (mvDec_of cd40 rfl) (by decide) ?_
        refine rc_iadd mq40 (mvDec_of cd40 rfl) ?_
        obtain ⟨⟨hb0, hb1⟩, H⟩ := H
        refine rc_iast mq40 (mvDec_of cd40 rfl) mis77 hb0 hb1 ?_
        refine rc_heap (fun h20 hh => ?_)
        replace H := H h20 hh
        refine rc_aload_n mq40 (mvDec_of cd40 rfl) rfl ?_
        refine rc_dup mq40 (mvDec_of cd40 rfl) rfl ?_
        refine rc_getI 20 mq40 (mvDec_of cd40 rfl) fl_10_106 mis68 rfl (by decide) (by decide) ?_
        refine rc_iconst mq40 (mvDec_of cd40 rfl) (by decide) ?_
        refine rc_iadd mq40 (mvDec_of cd40 rfl) ?_
        refine rc_putI 20 mq40 (mvDec_of cd40 rfl) fl_10_106 mis68 rfl (fun z => absurd z (by decide)) (Or.inl rfl) ?_
        refine rc_heap (fun h21 hh => ?_)
        replace H := H h21 hh
        refine rc_aload_n mq40 (mvDec_of cd40 rfl) rfl ?_
        refine rc_iconst mq40 (mvDec_of cd40 rfl) (by decide) ?_
        refine rc_putI 21 mq40 (mvDec_of cd40 rfl) fl_10_109 mis68 rfl (fun z => absurd z (by decide)) (Or.inl rfl) ?_
        refine rc_heap (fun h22 hh => ?_)
        replace H := H h22 hh
        refine rc_iconst mq40 (mvDec_of cd40 rfl) (by decide) ?_
        refine rc_zret mq40 (mvDec_of cd40 rfl) (Or.inr rfl) ?_
        show Rch 112 31 [some (mvR 68), some (mvI x1), none] [mvI 1] (97, g, h22) _
        refine rc_ifF (t := 38) mq112 (mvDec_of cd112 rfl) rfl rfl ?_
        refine rc_iconst mq112 (mvDec_of cd112 rfl) (by decide) ?_
        refine rc_goto (t := 39) mq112 (mvDec_of cd112 rfl) rfl ?_
        exact rc_zret mq112 (mvDec_of cd112 rfl) (Or.inr rfl) ⟨_, _, rfl, rfl, H⟩
abbrev MD_canComeNew (g : Nat → Nat → Nat) (h : Nat → Int → Int) (x1 : Int) (K : Int → (Nat → Int → Int) → Prop) : Prop := RI 113 0 [some (mvR 68), some (mvI x1), none, none] [] g h K
theorem MD_canComeNew_wp {sw : Bool} {g : Nat → Nat → Nat} {h : Nat → Int → Int} {x1 : Int} {K : Int → (Nat → Int → Int) → Prop} (hG : Gok sw g)  (H :
  (0 ≤ x1 ∧ x1 < 4) ∧
  (0 ≤ x1 ∧ x1 < 4) ∧
  ((¬ (h 80 x1) = (h 77 x1) →
    (0 ≤ x1 ∧ x1 < 4) ∧
    (∀ v1, v1 = (mw ((mw (9 * x1)) + (h 80 x1))) →
    (0 ≤ v1 ∧ v1 < 36) ∧
    (((h 78 v1) = 2 →
      (0 ≤ v1 ∧ v1 < 36) ∧
      (∀ v2, v2 = (h 79 v1) →
      (0 ≤ v2 ∧ v2 < 4) ∧
      MD_newOf g h v2 1 x1 (h 80 v2) (fun r4 h3 =>
        (0 ≤ x1 ∧ x1 < 4) ∧
        MD_newOf g h3 x1 2 v2 (h3 80 x1) (fun r6 h5 =>
          ((r4 ≤ r6 →
            K 0 h5) ∧
          (r6 < r4 →
            K 1 h5)))))) ∧
    (¬ (h 78 v1) = 2 →
      K 1 h)))) ∧
  ((h 80 x1) = (h 77 x1) →
    K 0 h))) : MD_canComeNew g h x1 K := by
  refine rc_aload_n mq113 (mvDec_of cd113 rfl) rfl ?_
  refine rc_getR 80 mq113 (mvDec_of cd113 rfl) fl_10_43 mis68 rfl (gr_68_25 hG) (by decide) ?_
  refine rc_iload_n mq113 (mvDec_of cd113 rfl) rfl ?_
  obtain ⟨⟨hb0, hb1⟩, H⟩ := H
  refine rc_iald mq113 (mvDec_of cd113 rfl) mis80 hb0 hb1 ?_
  refine rc_aload_n mq113 (mvDec_of cd113 rfl) rfl ?_
  refine rc_getR 77 mq113 (mvDec_of cd113 rfl) fl_10_34 mis68 rfl (gr_68_22 hG) (by decide) ?_
  refine rc_iload_n mq113 (mvDec_of cd113 rfl) rfl ?_
  obtain ⟨⟨hb0, hb1⟩, H⟩ := H
  refine rc_iald mq113 (mvDec_of cd113 rfl) mis77 hb0 hb1 ?_
  refine rc_icmp_ne (t := 17) mq113 (mvDec_of cd113 rfl) rfl (fun hc => ?_) (fun hc => ?_)
  · replace H := H.1 hc
    refine rc_bipush mq113 (mvDec_of cd113 rfl) (by decide) ?_
    refine rc_iload_n mq113 (mvDec_of cd113 rfl) rfl ?_
    refine rc_imul mq113 (mvDec_of cd113 rfl) ?_
    refine rc_aload_n mq113 (mvDec_of cd113 rfl) rfl ?_
    refine rc_getR 80 mq113 (mvDec_of cd113 rfl) fl_10_43 mis68 rfl (gr_68_25 hG) (by decide) ?_
    refine rc_iload_n mq113 (mvDec_of cd113 rfl) rfl ?_
    obtain ⟨⟨hb0, hb1⟩, H⟩ := H
    refine rc_iald mq113 (mvDec_of cd113 rfl) mis80 hb0 hb1 ?_
    refine rc_iadd mq113 (mvDec_of cd113 rfl) ?_
    refine rc_top (fun v1 hv => ?_)
    replace H := H v1 hv
    refine rc_istore_n [some (mvR 68), some (mvI x1), some (mvI v1), none] mq113 (mvDec_of cd113 rfl) rfl ?_
    refine rc_aload_n mq113 (mvDec_of cd113 rfl) rfl ?_
    refine rc_getR 78 mq113 (mvDec_of cd113 rfl) fl_10_37 mis68 rfl (gr_68_23 hG) (by decide) ?_
    refine rc_iload_n mq113 (mvDec_of cd113 rfl) rfl ?_
    obtain ⟨⟨hb0, hb1⟩, H⟩ := H
    refine rc_iald mq113 (mvDec_of cd113 rfl) mis78 hb0 hb1 ?_
    refine rc_iconst mq113 (mvDec_of cd113 rfl) (by decide) ?_
    refine rc_icmp_eq (t := 41) mq113 (mvDec_of cd113 rfl) rfl (fun hc => ?_) (fun hc => ?_)
    · replace H := H.1 hc
      refine rc_aload_n mq113 (mvDec_of cd113 rfl) rfl ?_
      refine rc_getR 79 mq113 (mvDec_of cd113 rfl) fl_10_40 mis68 rfl (gr_68_24 hG) (by decide) ?_
      refine rc_iload_n mq113 (mvDec_of cd113 rfl) rfl ?_
      obtain ⟨⟨hb0, hb1⟩, H⟩ := H
      refine rc_iald mq113 (mvDec_of cd113 rfl) mis79 hb0 hb1 ?_
      refine rc_top (fun v2 hv => ?_)
      replace H := H v2 hv
      refine rc_istore_n [some (mvR 68), some (mvI x1), some (mvI v1), some (mvI v2)] mq113 (mvDec_of cd113 rfl) rfl ?_
      refine rc_aload_n mq113 (mvDec_of cd113 rfl) rfl ?_
      refine rc_iload_n mq113 (mvDec_of cd113 rfl) rfl ?_
      refine rc_iconst mq113 (mvDec_of cd113 rfl) (by decide) ?_
      refine rc_iload_n mq113 (mvDec_of cd113 rfl) rfl ?_
      refine rc_aload_n mq113 (mvDec_of cd113 rfl) rfl ?_
      refine rc_getR 80 mq113 (mvDec_of cd113 rfl) fl_10_43 mis68 rfl (gr_68_25 hG) (by decide) ?_
      refine rc_iload_n mq113 (mvDec_of cd113 rfl) rfl ?_
      obtain ⟨⟨hb0, hb1⟩, H⟩ := H
      refine rc_iald mq113 (mvDec_of cd113 rfl) mis80 hb0 hb1 ?_
      refine rc_callV [mvR 68, mvI v2, mvI 1, mvI x1, mvI (h 80 v2)] [] [some (mvR 68), some (mvI v2), some (mvI 1), some (mvI x1), some (mvI (h 80 v2)), none, none, none] mq113 (mvDec_of cd113 rfl) lk_10_124 mq42 (by decide) rfl rfl (Nat.le_of_ble_eq_true rfl) (Nat.le_of_ble_eq_true rfl) (by decide) rfl mis68 rfl (ri_bind H (fun r4 h3 H => ?_))
      refine rc_aload_n mq113 (mvDec_of cd113 rfl) rfl ?_
      refine rc_iload_n mq113 (mvDec_of cd113 rfl) rfl ?_
      refine rc_iconst mq113 (mvDec_of cd113 rfl) (by decide) ?_
      refine rc_iload_n mq113 (mvDec_of cd113 rfl) rfl ?_
      refine rc_aload_n mq113 (mvDec_of cd113 rfl) rfl ?_
      refine rc_getR 80 mq113 (mvDec_of cd113 rfl) fl_10_43 mis68 rfl (gr_68_25 hG) (by decide) ?_
      refine rc_iload_n mq113 (mvDec_of cd113 rfl) rfl ?_
      obtain ⟨⟨hb0, hb1⟩, H⟩ := H
      refine rc_iald mq113 (mvDec_of cd113 rfl) mis80 hb0 hb1 ?_
      refine rc_callV [mvR 68, mvI x1, mvI 2, mvI v2, mvI (h3 80 x1)] [mvI r4] [some (mvR 68), some (mvI x1), some (mvI 2), some (mvI v2), some (mvI (h3 80 x1)), none, none, none] mq113 (mvDec_of cd113 rfl) lk_10_124 mq42 (by decide) rfl rfl (Nat.le_of_ble_eq_true rfl) (Nat.le_of_ble_eq_true rfl) (by decide) rfl mis68 rfl (ri_bind H (fun r6 h5 H => ?_))
      refine rc_icmp_le (t := 81) mq113 (mvDec_of cd113 rfl) rfl (fun hc => ?_) (fun hc => ?_)
      · replace H := H.1 hc
        refine rc_iconst mq113 (mvDec_of cd113 rfl) (by decide) ?_
        exact rc_zret mq113 (mvDec_of cd113 rfl) (Or.inl rfl) ⟨_, _, rfl, rfl, H⟩
      · replace H := H.2 hc
        refine rc_iconst mq113 (mvDec_of cd113 rfl) (by decide) ?_
        refine rc_goto (t := 82) mq113 (mvDec_of cd113 rfl) rfl ?_
        exact rc_zret mq113 (mvDec_of cd113 rfl) (Or.inr rfl) ⟨_, _, rfl, rfl, H⟩
    · replace H := H.2 hc
      refine rc_iconst mq113 (mvDec_of cd113 rfl) (by decide) ?_
      exact rc_zret mq113 (mvDec_of cd113 rfl) (Or.inr rfl) ⟨_, _, rfl, rfl, H⟩
  · replace H := H.2 hc
    refine rc_iconst mq113 (mvDec_of cd113 rfl) (by decide) ?_
    exact rc_zret mq113 (mvDec_of cd113 rfl) (Or.inl rfl) ⟨_, _, rfl, rfl, H⟩
abbrev MD_nthOf (g : Nat → Nat → Nat) (h : Nat → Int → Int) (x1 : Int) (x2 : Int) (x3 : Int) (x4 : Int) (K : Int → (Nat → Int → Int) → Prop) : Prop := RI 114 0 [some (mvR 68), some (mvI x1), some (mvI x2), some (mvI x3), some (mvI x4), none, none] [] g h K
abbrev MD_nthOf_3 (g : Nat → Nat → Nat) (h : Nat → Int → Int) (l1 : Int) (l2 : Int) (l3 : Int) (l4 : Int) (l5 : Int) (u6 : Option Int) (K : Int → (Nat → Int → Int) → Prop) : Prop := RI 114 3 [some (mvR 68), some (mvI l1), some (mvI l2), some (mvI l3), some (mvI l4), some (mvI l5), u6.map mvI] [] g h K
theorem MD_nthOf_wp {sw : Bool} {g : Nat → Nat → Nat} {h : Nat → Int → Int} {x1 : Int} {x2 : Int} {x3 : Int} {x4 : Int} {K : Int → (Nat → Int → Int) → Prop} (hG : Gok sw g)  (H :
  MD_nthOf_3 g h x1 x2 x3 x4 0 none K) : MD_nthOf g h x1 x2 x3 x4 K := by
  refine rc_iconst mq114 (mvDec_of cd114 rfl) (by decide) ?_
  refine rc_istore [some (mvR 68), some (mvI x1), some (mvI x2), some (mvI x3), some (mvI x4), some (mvI 0), none] mq114 (mvDec_of cd114 rfl) rfl ?_
  exact H
theorem MD_nthOf_3_wp {sw : Bool} {g : Nat → Nat → Nat} {h : Nat → Int → Int} {l1 : Int} {l2 : Int} {l3 : Int} {l4 : Int} {l5 : Int} {u6 : Option Int} {K : Int → (Nat → Int → Int) → Prop} (hG : Gok sw g)  (H :
  (0 ≤ l1 ∧ l1 < 4) ∧
  (((h 69 l1) ≤ l5 →
    K (-1) h) ∧
  (l5 < (h 69 l1) →
    (∀ v1, v1 = (mw ((mw (9 * l1)) + l5)) →
    (0 ≤ v1 ∧ v1 < 36) ∧
    ((¬ (h 70 v1) = l2 →
      MD_nthOf_3 g h l1 l2 l3 l4 (mw (l5 + 1)) (some v1) K) ∧
    ((h 70 v1) = l2 →
      (0 ≤ v1 ∧ v1 < 36) ∧
      ((¬ (h 71 v1) = l3 →
        MD_nthOf_3 g h l1 l2 l3 l4 (mw (l5 + 1)) (some v1) K) ∧
      ((h 71 v1) = l3 →
        MD_of g h l1 l2 l3 l5 (fun r3 h2 =>
          ((¬ r3 = l4 →
            MD_nthOf_3 g h2 l1 l2 l3 l4 (mw (l5 + 1)) (some v1) K) ∧
          (r3 = l4 →
            K l5 h2))))))))))) : MD_nthOf_3 g h l1 l2 l3 l4 l5 u6 K := by
  refine rc_iload mq114 (mvDec_of cd114 rfl) rfl ?_
  refine rc_aload_n mq114 (mvDec_of cd114 rfl) rfl ?_
  refine rc_getR 69 mq114 (mvDec_of cd114 rfl) fl_10_7 mis68 rfl (gr_68_1 hG) (by decide) ?_
  refine rc_iload_n mq114 (mvDec_of cd114 rfl) rfl ?_
  obtain ⟨⟨hb0, hb1⟩, H⟩ := H
  refine rc_iald mq114 (mvDec_of cd114 rfl) mis69 hb0 hb1 ?_
  refine rc_icmp_ge (t := 68) mq114 (mvDec_of cd114 rfl) rfl (fun hc => ?_) (fun hc => ?_)
  · replace H := H.1 hc
    refine rc_iconst mq114 (mvDec_of cd114 rfl) (by decide) ?_
    exact rc_iret mq114 (mvDec_of cd114 rfl) ⟨_, _, rfl, rfl, H⟩
  · replace H := H.2 hc
    refine rc_bipush mq114 (mvDec_of cd114 rfl) (by decide) ?_
    refine rc_iload_n mq114 (mvDec_of cd114 rfl) rfl ?_
    refine rc_imul mq114 (mvDec_of cd114 rfl) ?_
    refine rc_iload mq114 (mvDec_of cd114 rfl) rfl ?_
    refine rc_iadd mq114 (mvDec_of cd114 rfl) ?_
    refine rc_top (fun v1 hv => ?_)
    replace H := H v1 hv
    refine rc_istore [some (mvR 68), some (mvI l1), some (mvI l2), some (mvI l3), some (mvI l4), some (mvI l5), some (mvI v1)] mq114 (mvDec_of cd114 rfl) rfl ?_
    refine rc_aload_n mq114 (mvDec_of cd114 rfl) rfl ?_
    refine rc_getR 70 mq114 (mvDec_of cd114 rfl) fl_10_13 mis68 rfl (gr_68_2 hG) (by decide) ?_
    refine rc_iload mq114 (mvDec_of cd114 rfl) rfl ?_
    obtain ⟨⟨hb0, hb1⟩, H⟩ := H
    refine rc_iald mq114 (mvDec_of cd114 rfl) mis70 hb0 hb1 ?_
    refine rc_iload_n mq114 (mvDec_of cd114 rfl) rfl ?_
    refine rc_icmp_ne (t := 62) mq114 (mvDec_of cd114 rfl) rfl (fun hc => ?_) (fun hc => ?_)
    · replace H := H.1 hc
      refine rc_iinc [some (mvR 68), some (mvI l1), some (mvI l2), some (mvI l3), some (mvI l4), some (mvI (mw (l5 + 1))), some (mvI v1)] mq114 (mvDec_of cd114 rfl) rfl rfl ?_
      refine rc_goto (t := 3) mq114 (mvDec_of cd114 rfl) rfl ?_
      exact H
    · replace H := H.2 hc
      refine rc_aload_n mq114 (mvDec_of cd114 rfl) rfl ?_
      refine rc_getR 71 mq114 (mvDec_of cd114 rfl) fl_10_16 mis68 rfl (gr_68_3 hG) (by decide) ?_
      refine rc_iload mq114 (mvDec_of cd114 rfl) rfl ?_
      obtain ⟨⟨hb0, hb1⟩, H⟩ := H
      refine rc_iald mq114 (mvDec_of cd114 rfl) mis71 hb0 hb1 ?_
      refine rc_iload_n mq114 (mvDec_of cd114 rfl) rfl ?_
      refine rc_icmp_ne (t := 62) mq114 (mvDec_of cd114 rfl) rfl (fun hc => ?_) (fun hc => ?_)
      · replace H := H.1 hc
        refine rc_iinc [some (mvR 68), some (mvI l1), some (mvI l2), some (mvI l3), some (mvI l4), some (mvI (mw (l5 + 1))), some (mvI v1)] mq114 (mvDec_of cd114 rfl) rfl rfl ?_
        refine rc_goto (t := 3) mq114 (mvDec_of cd114 rfl) rfl ?_
        exact H
      · replace H := H.2 hc
        refine rc_aload_n mq114 (mvDec_of cd114 rfl) rfl ?_
        refine rc_iload_n mq114 (mvDec_of cd114 rfl) rfl ?_
        refine rc_iload_n mq114 (mvDec_of cd114 rfl) rfl ?_
        refine rc_iload_n mq114 (mvDec_of cd114 rfl) rfl ?_
        refine rc_iload mq114 (mvDec_of cd114 rfl) rfl ?_
        refine rc_callV [mvR 68, mvI l1, mvI l2, mvI l3, mvI l5] [] [some (mvR 68), some (mvI l1), some (mvI l2), some (mvI l3), some (mvI l5), none, none, none] mq114 (mvDec_of cd114 rfl) lk_10_160 mq44 (by decide) rfl rfl (Nat.le_of_ble_eq_true rfl) (Nat.le_of_ble_eq_true rfl) (by decide) rfl mis68 rfl (ri_bind H (fun r3 h2 H => ?_))
        refine rc_iload mq114 (mvDec_of cd114 rfl) rfl ?_
        refine rc_icmp_ne (t := 62) mq114 (mvDec_of cd114 rfl) rfl (fun hc => ?_) (fun hc => ?_)
        · replace H := H.1 hc
          refine rc_iinc [some (mvR 68), some (mvI l1), some (mvI l2), some (mvI l3), some (mvI l4), some (mvI (mw (l5 + 1))), some (mvI v1)] mq114 (mvDec_of cd114 rfl) rfl rfl ?_
          refine rc_goto (t := 3) mq114 (mvDec_of cd114 rfl) rfl ?_
          exact H
        · replace H := H.2 hc
          refine rc_iload mq114 (mvDec_of cd114 rfl) rfl ?_
          exact rc_iret mq114 (mvDec_of cd114 rfl) ⟨_, _, rfl, rfl, H⟩
abbrev MD_layVectors (g : Nat → Nat → Nat) (h : Nat → Int → Int)  (K : (Nat → Int → Int) → Prop) : Prop := RV 115 0 [some (mvR 68), none, none, none] [] g h K
abbrev MD_layVectors_2 (g : Nat → Nat → Nat) (h : Nat → Int → Int) (l1 : Int) (u2 : Option Int) (u3 : Option Int) (K : (Nat → Int → Int) → Prop) : Prop := RV 115 2 [some (mvR 68), some (mvI l1), u2.map mvI, u3.map mvI] [] g h K
abbrev MD_layVectors_24 (g : Nat → Nat → Nat) (h : Nat → Int → Int) (l1 : Int) (u2 : Option Int) (u3 : Option Int) (K : (Nat → Int → Int) → Prop) : Prop := RV 115 24 [some (mvR 68), some (mvI l1), u2.map mvI, u3.map mvI] [] g h K
abbrev MD_layVectors_32 (g : Nat → Nat → Nat) (h : Nat → Int → Int) (l1 : Int) (l2 : Int) (u3 : Option Int) (K : (Nat → Int → Int) → Prop) : Prop := RV 115 32 [some (mvR 68), some (mvI l1), some (mvI l2), u3.map mvI] [] g h K
abbrev MD_layVectors_42 (g : Nat → Nat → Nat) (h : Nat → Int → Int) (l1 : Int) (l2 : Int) (l3 : Int) (K : (Nat → Int → Int) → Prop) : Prop := RV 115 42 [some (mvR 68), some (mvI l1), some (mvI l2), some (mvI l3)] [] g h K
theorem MD_layVectors_wp {sw : Bool} {g : Nat → Nat → Nat} {h : Nat → Int → Int}  {K : (Nat → Int → Int) → Prop} (hG : Gok sw g)  (H :
  MD_layVectors_2 g h 0 none none K) : MD_layVectors g h  K := by
  refine rc_iconst mq115 (mvDec_of cd115 rfl) (by decide) ?_
  refine rc_istore_n [some (mvR 68), some (mvI 0), none, none] mq115 (mvDec_of cd115 rfl) rfl ?_
  exact H
theorem MD_layVectors_2_wp {sw : Bool} {g : Nat → Nat → Nat} {h : Nat → Int → Int} {l1 : Int} {u2 : Option Int} {u3 : Option Int} {K : (Nat → Int → Int) → Prop} (hG : Gok sw g)  (H :
  ((144 ≤ l1 →
    MD_layVectors_24 g h 0 u2 u3 K) ∧
  (l1 < 144 →
    (0 ≤ l1 ∧ l1 < 144) ∧
    (∀ h1, h1 = mvUpd h 73 l1 0 →
    MD_layVectors_2 g h1 (mw (l1 + 1)) u2 u3 K)))) : MD_layVectors_2 g h l1 u2 u3 K := by
  refine rc_iload_n mq115 (mvDec_of cd115 rfl) rfl ?_
  refine rc_sipush mq115 (mvDec_of cd115 rfl) (by decide) ?_
  refine rc_icmp_ge (t := 22) mq115 (mvDec_of cd115 rfl) rfl (fun hc => ?_) (fun hc => ?_)
  · replace H := H.1 hc
    refine rc_iconst mq115 (mvDec_of cd115 rfl) (by decide) ?_
    refine rc_istore_n [some (mvR 68), some (mvI 0), u2.map mvI, u3.map mvI] mq115 (mvDec_of cd115 rfl) rfl ?_
    exact H
  · replace H := H.2 hc
    refine rc_aload_n mq115 (mvDec_of cd115 rfl) rfl ?_
    refine rc_getR 73 mq115 (mvDec_of cd115 rfl) fl_10_22 mis68 rfl (gr_68_5 hG) (by decide) ?_
    refine rc_iload_n mq115 (mvDec_of cd115 rfl) rfl ?_
    refine rc_iconst mq115 (mvDec_of cd115 rfl) (by decide) ?_
    obtain ⟨⟨hb0, hb1⟩, H⟩ := H
    refine rc_iast mq115 (mvDec_of cd115 rfl) mis73 hb0 hb1 ?_
    refine rc_heap (fun h1 hh => ?_)
    replace H := H h1 hh
    refine rc_iinc [some (mvR 68), some (mvI (mw (l1 + 1))), u2.map mvI, u3.map mvI] mq115 (mvDec_of cd115 rfl) rfl rfl ?_
    refine rc_goto (t := 2) mq115 (mvDec_of cd115 rfl) rfl ?_
    exact H
theorem MD_layVectors_24_wp {sw : Bool} {g : Nat → Nat → Nat} {h : Nat → Int → Int} {l1 : Int} {u2 : Option Int} {u3 : Option Int} {K : (Nat → Int → Int) → Prop} (hG : Gok sw g)  (H :
  ((16 < l1 →
    K h) ∧
  (l1 ≤ 16 →
    MD_layVectors_32 g h l1 0 u3 K))) : MD_layVectors_24 g h l1 u2 u3 K := by
  refine rc_iload_n mq115 (mvDec_of cd115 rfl) rfl ?_
  refine rc_bipush mq115 (mvDec_of cd115 rfl) (by decide) ?_
  refine rc_icmp_gt (t := 76) mq115 (mvDec_of cd115 rfl) rfl (fun hc => ?_) (fun hc => ?_)
  · replace H := H.1 hc
    exact rc_vret mq115 (mvDec_of cd115 rfl) ⟨_, rfl, rfl, H⟩
  · replace H := H.2 hc
    refine rc_iconst mq115 (mvDec_of cd115 rfl) (by decide) ?_
    refine rc_istore_n [some (mvR 68), some (mvI l1), some (mvI 0), u3.map mvI] mq115 (mvDec_of cd115 rfl) rfl ?_
    exact H
theorem MD_layVectors_32_wp {sw : Bool} {g : Nat → Nat → Nat} {h : Nat → Int → Int} {l1 : Int} {l2 : Int} {u3 : Option Int} {K : (Nat → Int → Int) → Prop} (hG : Gok sw g)  (H :
  (((h 68 0) ≤ l2 →
    MD_layVectors_24 g h (mw (l1 + 1)) (some l2) u3 K) ∧
  (l2 < (h 68 0) →
    MD_layVectors_42 g h l1 l2 0 K))) : MD_layVectors_32 g h l1 l2 u3 K := by
  refine rc_iload_n mq115 (mvDec_of cd115 rfl) rfl ?_
  refine rc_aload_n mq115 (mvDec_of cd115 rfl) rfl ?_
  refine rc_getI 0 mq115 (mvDec_of cd115 rfl) fl_10_138 mis68 rfl (by decide) (by decide) ?_
  refine rc_icmp_ge (t := 70) mq115 (mvDec_of cd115 rfl) rfl (fun hc => ?_) (fun hc => ?_)
  · replace H := H.1 hc
    refine rc_iinc [some (mvR 68), some (mvI (mw (l1 + 1))), some (mvI l2), u3.map mvI] mq115 (mvDec_of cd115 rfl) rfl rfl ?_
    refine rc_goto (t := 24) mq115 (mvDec_of cd115 rfl) rfl ?_
    exact H
  · replace H := H.2 hc
    refine rc_iconst mq115 (mvDec_of cd115 rfl) (by decide) ?_
    refine rc_istore_n [some (mvR 68), some (mvI l1), some (mvI l2), some (mvI 0)] mq115 (mvDec_of cd115 rfl) rfl ?_
    exact H
theorem MD_layVectors_42_wp {sw : Bool} {g : Nat → Nat → Nat} {h : Nat → Int → Int} {l1 : Int} {l2 : Int} {l3 : Int} {K : (Nat → Int → Int) → Prop} (hG : Gok sw g)  (H :
  (0 ≤ l2 ∧ l2 < 4) ∧
  (((h 69 l2) ≤ l3 →
    MD_layVectors_32 g h l1 (mw (l2 + 1)) (some l3) K) ∧
  (l3 < (h 69 l2) →
    MD_layVector g h l2 l3 (fun h1 =>
      MD_layVectors_42 g h1 l1 l2 (mw (l3 + 1)) K)))) : MD_layVectors_42 g h l1 l2 l3 K := by
  refine rc_iload_n mq115 (mvDec_of cd115 rfl) rfl ?_
  refine rc_aload_n mq115 (mvDec_of cd115 rfl) rfl ?_
  refine rc_getR 69 mq115 (mvDec_of cd115 rfl) fl_10_7 mis68 rfl (gr_68_1 hG) (by decide) ?_
  refine rc_iload_n mq115 (mvDec_of cd115 rfl) rfl ?_
  obtain ⟨⟨hb0, hb1⟩, H⟩ := H
  refine rc_iald mq115 (mvDec_of cd115 rfl) mis69 hb0 hb1 ?_
  refine rc_icmp_ge (t := 64) mq115 (mvDec_of cd115 rfl) rfl (fun hc => ?_) (fun hc => ?_)
  · replace H := H.1 hc
    refine rc_iinc [some (mvR 68), some (mvI l1), some (mvI (mw (l2 + 1))), some (mvI l3)] mq115 (mvDec_of cd115 rfl) rfl rfl ?_
    refine rc_goto (t := 32) mq115 (mvDec_of cd115 rfl) rfl ?_
    exact H
  · replace H := H.2 hc
    refine rc_aload_n mq115 (mvDec_of cd115 rfl) rfl ?_
    refine rc_iload_n mq115 (mvDec_of cd115 rfl) rfl ?_
    refine rc_iload_n mq115 (mvDec_of cd115 rfl) rfl ?_
    refine rc_callV [mvR 68, mvI l2, mvI l3] [] [some (mvR 68), some (mvI l2), some (mvI l3), none, none, none, none, none] mq115 (mvDec_of cd115 rfl) lk_10_166 mq45 (by decide) rfl rfl (Nat.le_of_ble_eq_true rfl) (Nat.le_of_ble_eq_true rfl) (by decide) rfl mis68 rfl (rv_bind H (fun h1 H => ?_))
    refine rc_iinc [some (mvR 68), some (mvI l1), some (mvI l2), some (mvI (mw (l3 + 1)))] mq115 (mvDec_of cd115 rfl) rfl rfl ?_
    refine rc_goto (t := 42) mq115 (mvDec_of cd115 rfl) rfl ?_
    exact H
abbrev MD_isFull (g : Nat → Nat → Nat) (h : Nat → Int → Int) (x1 : Int) (K : Int → (Nat → Int → Int) → Prop) : Prop := RI 117 0 [some (mvR 68), some (mvI x1)] [] g h K
theorem MD_isFull_wp {sw : Bool} {g : Nat → Nat → Nat} {h : Nat → Int → Int} {x1 : Int} {K : Int → (Nat → Int → Int) → Prop} (hG : Gok sw g)  (H :
  (0 ≤ x1 ∧ x1 < 4) ∧
  (((h 69 x1) = 9 →
    K 1 h) ∧
  (¬ (h 69 x1) = 9 →
    MD_eventsAll g h (fun r2 h1 =>
      ((¬ r2 = 16 →
        K 0 h1) ∧
      (r2 = 16 →
        K 1 h1)))))) : MD_isFull g h x1 K := by
  refine rc_aload_n mq117 (mvDec_of cd117 rfl) rfl ?_
  refine rc_getR 69 mq117 (mvDec_of cd117 rfl) fl_10_7 mis68 rfl (gr_68_1 hG) (by decide) ?_
  refine rc_iload_n mq117 (mvDec_of cd117 rfl) rfl ?_
  obtain ⟨⟨hb0, hb1⟩, H⟩ := H
  refine rc_iald mq117 (mvDec_of cd117 rfl) mis69 hb0 hb1 ?_
  refine rc_bipush mq117 (mvDec_of cd117 rfl) (by decide) ?_
  refine rc_icmp_eq (t := 20) mq117 (mvDec_of cd117 rfl) rfl (fun hc => ?_) (fun hc => ?_)
  · replace H := H.1 hc
    refine rc_iconst mq117 (mvDec_of cd117 rfl) (by decide) ?_
    refine rc_goto (t := 25) mq117 (mvDec_of cd117 rfl) rfl ?_
    exact rc_zret mq117 (mvDec_of cd117 rfl) (Or.inr rfl) ⟨_, _, rfl, rfl, H⟩
  · replace H := H.2 hc
    refine rc_aload_n mq117 (mvDec_of cd117 rfl) rfl ?_
    refine rc_callV [mvR 68] [] [some (mvR 68), none, none] mq117 (mvDec_of cd117 rfl) lk_10_173 mq46 (by decide) rfl rfl (Nat.le_of_ble_eq_true rfl) (Nat.le_of_ble_eq_true rfl) (by decide) rfl mis68 rfl (ri_bind H (fun r2 h1 H => ?_))
    refine rc_bipush mq117 (mvDec_of cd117 rfl) (by decide) ?_
    refine rc_icmp_ne (t := 24) mq117 (mvDec_of cd117 rfl) rfl (fun hc => ?_) (fun hc => ?_)
    · replace H := H.1 hc
      refine rc_iconst mq117 (mvDec_of cd117 rfl) (by decide) ?_
      exact rc_zret mq117 (mvDec_of cd117 rfl) (Or.inl rfl) ⟨_, _, rfl, rfl, H⟩
    · replace H := H.2 hc
      refine rc_iconst mq117 (mvDec_of cd117 rfl) (by decide) ?_
      refine rc_goto (t := 25) mq117 (mvDec_of cd117 rfl) rfl ?_
      exact rc_zret mq117 (mvDec_of cd117 rfl) (Or.inr rfl) ⟨_, _, rfl, rfl, H⟩
abbrev MD_orderNow (g : Nat → Nat → Nat) (h : Nat → Int → Int) (x1 : Int) (x2 : Int) (x3 : Int) (x4 : Int) (K : Int → (Nat → Int → Int) → Prop) : Prop := RI 118 0 [some (mvR 68), some (mvI x1), some (mvI x2), some (mvI x3), some (mvI x4)] [] g h K
theorem MD_orderNow_wp {sw : Bool} {g : Nat → Nat → Nat} {h : Nat → Int → Int} {x1 : Int} {x2 : Int} {x3 : Int} {x4 : Int} {K : Int → (Nat → Int → Int) → Prop} (hG : Gok sw g)  (H :
  ((¬ x1 = x3 →
    MD_isAhead g h x1 x2 x3 x4 (fun r2 h1 =>
      ((r2 = 0 →
        MD_isAhead g h1 x3 x4 x1 x2 (fun r4 h3 =>
          ((r4 = 0 →
            K 0 h3) ∧
          (¬ r4 = 0 →
            K (-1) h3)))) ∧
      (¬ r2 = 0 →
        K 1 h1)))) ∧
  (x1 = x3 →
    ((¬ x2 = x4 →
      MD_isAhead g h x1 x2 x3 x4 (fun r6 h5 =>
        ((r6 = 0 →
          MD_isAhead g h5 x3 x4 x1 x2 (fun r8 h7 =>
            ((r8 = 0 →
              K 0 h7) ∧
            (¬ r8 = 0 →
              K (-1) h7)))) ∧
        (¬ r6 = 0 →
          K 1 h5)))) ∧
    (x2 = x4 →
      K 2 h))))) : MD_orderNow g h x1 x2 x3 x4 K := by
  refine rc_iload_n mq118 (mvDec_of cd118 rfl) rfl ?_
  refine rc_iload_n mq118 (mvDec_of cd118 rfl) rfl ?_
  refine rc_icmp_ne (t := 13) mq118 (mvDec_of cd118 rfl) rfl (fun hc => ?_) (fun hc => ?_)
  · replace H := H.1 hc
    refine rc_aload_n mq118 (mvDec_of cd118 rfl) rfl ?_
    refine rc_iload_n mq118 (mvDec_of cd118 rfl) rfl ?_
    refine rc_iload_n mq118 (mvDec_of cd118 rfl) rfl ?_
    refine rc_iload_n mq118 (mvDec_of cd118 rfl) rfl ?_
    refine rc_iload mq118 (mvDec_of cd118 rfl) rfl ?_
    refine rc_callV [mvR 68, mvI x1, mvI x2, mvI x3, mvI x4] [] [some (mvR 68), some (mvI x1), some (mvI x2), some (mvI x3), some (mvI x4)] mq118 (mvDec_of cd118 rfl) lk_10_189 mq48 (by decide) rfl rfl (Nat.le_of_ble_eq_true rfl) (Nat.le_of_ble_eq_true rfl) (by decide) rfl mis68 rfl (ri_bind H (fun r2 h1 H => ?_))
    refine rc_if_eq (t := 29) mq118 (mvDec_of cd118 rfl) rfl (fun hc => ?_) (fun hc => ?_)
    · replace H := H.1 hc
      refine rc_aload_n mq118 (mvDec_of cd118 rfl) rfl ?_
      refine rc_iload_n mq118 (mvDec_of cd118 rfl) rfl ?_
      refine rc_iload mq118 (mvDec_of cd118 rfl) rfl ?_
      refine rc_iload_n mq118 (mvDec_of cd118 rfl) rfl ?_
      refine rc_iload_n mq118 (mvDec_of cd118 rfl) rfl ?_
      refine rc_callV [mvR 68, mvI x3, mvI x4, mvI x1, mvI x2] [] [some (mvR 68), some (mvI x3), some (mvI x4), some (mvI x1), some (mvI x2)] mq118 (mvDec_of cd118 rfl) lk_10_189 mq48 (by decide) rfl rfl (Nat.le_of_ble_eq_true rfl) (Nat.le_of_ble_eq_true rfl) (by decide) rfl mis68 rfl (ri_bind H (fun r4 h3 H => ?_))
      refine rc_if_eq (t := 45) mq118 (mvDec_of cd118 rfl) rfl (fun hc => ?_) (fun hc => ?_)
      · replace H := H.1 hc
        refine rc_iconst mq118 (mvDec_of cd118 rfl) (by decide) ?_
        exact rc_iret mq118 (mvDec_of cd118 rfl) ⟨_, _, rfl, rfl, H⟩
      · replace H := H.2 hc
        refine rc_iconst mq118 (mvDec_of cd118 rfl) (by decide) ?_
        refine rc_goto (t := 46) mq118 (mvDec_of cd118 rfl) rfl ?_
        exact rc_iret mq118 (mvDec_of cd118 rfl) ⟨_, _, rfl, rfl, H⟩
    · replace H := H.2 hc
      refine rc_iconst mq118 (mvDec_of cd118 rfl) (by decide) ?_
      refine rc_goto (t := 46) mq118 (mvDec_of cd118 rfl) rfl ?_
      exact rc_iret mq118 (mvDec_of cd118 rfl) ⟨_, _, rfl, rfl, H⟩
  · replace H := H.2 hc
    refine rc_iload_n mq118 (mvDec_of cd118 rfl) rfl ?_
    refine rc_iload mq118 (mvDec_of cd118 rfl) rfl ?_
    refine rc_icmp_ne (t := 13) mq118 (mvDec_of cd118 rfl) rfl (fun hc => ?_) (fun hc => ?_)
    · replace H := H.1 hc
      refine rc_aload_n mq118 (mvDec_of cd118 rfl) rfl ?_
      refine rc_iload_n mq118 (mvDec_of cd118 rfl) rfl ?_
      refine rc_iload_n mq118 (mvDec_of cd118 rfl) rfl ?_
      refine rc_iload_n mq118 (mvDec_of cd118 rfl) rfl ?_
      refine rc_iload mq118 (mvDec_of cd118 rfl) rfl ?_
      refine rc_callV [mvR 68, mvI x1, mvI x2, mvI x3, mvI x4] [] [some (mvR 68), some (mvI x1), some (mvI x2), some (mvI x3), some (mvI x4)] mq118 (mvDec_of cd118 rfl) lk_10_189 mq48 (by decide) rfl rfl (Nat.le_of_ble_eq_true rfl) (Nat.le_of_ble_eq_true rfl) (by decide) rfl mis68 rfl (ri_bind H (fun r6 h5 H => ?_))
      refine rc_if_eq (t := 29) mq118 (mvDec_of cd118 rfl) rfl (fun hc => ?_) (fun hc => ?_)
      · replace H := H.1 hc
        refine rc_aload_n mq118 (mvDec_of cd118 rfl) rfl ?_
        refine rc_iload_n mq118 (mvDec_of cd118 rfl) rfl ?_
        refine rc_iload mq118 (mvDec_of cd118 rfl) rfl ?_
        refine rc_iload_n mq118 (mvDec_of cd118 rfl) rfl ?_
        refine rc_iload_n mq118 (mvDec_of cd118 rfl) rfl ?_
        refine rc_callV [mvR 68, mvI x3, mvI x4, mvI x1, mvI x2] [] [some (mvR 68), some (mvI x3), some (mvI x4), some (mvI x1), some (mvI x2)] mq118 (mvDec_of cd118 rfl) lk_10_189 mq48 (by decide) rfl rfl (Nat.le_of_ble_eq_true rfl) (Nat.le_of_ble_eq_true rfl) (by decide) rfl mis68 rfl (ri_bind H (fun r8 h7 H => ?_))
        refine rc_if_eq (t := 45) mq118 (mvDec_of cd118 rfl) rfl (fun hc => ?_) (fun hc => ?_)
        · replace H := H.1 hc
          refine rc_iconst mq118 (mvDec_of cd118 rfl) (by decide) ?_
          exact rc_iret mq118 (mvDec_of cd118 rfl) ⟨_, _, rfl, rfl, H⟩
        · replace H := H.2 hc
          refine rc_iconst mq118 (mvDec_of cd118 rfl) (by decide) ?_
          refine rc_goto (t := 46) mq118 (mvDec_of cd118 rfl) rfl ?_
          exact rc_iret mq118 (mvDec_of cd118 rfl) ⟨_, _, rfl, rfl, H⟩
      · replace H := H.2 hc
        refine rc_iconst mq118 (mvDec_of cd118 rfl) (by decide) ?_
        refine rc_goto (t := 46) mq118 (mvDec_of cd118 rfl) rfl ?_
        exact rc_iret mq118 (mvDec_of cd118 rfl) ⟨_, _, rfl, rfl, H⟩
    · replace H := H.2 hc
      refine rc_iconst mq118 (mvDec_of cd118 rfl) (by decide) ?_
      exact rc_iret mq118 (mvDec_of cd118 rfl) ⟨_, _, rfl, rfl, H⟩
abbrev MD_underAll (g : Nat → Nat → Nat) (h : Nat → Int → Int)  (K : Int → (Nat → Int → Int) → Prop) : Prop := RI 120 0 [some (mvR 68), none, none, none, none] [] g h K
abbrev MD_underAll_4 (g : Nat → Nat → Nat) (h : Nat → Int → Int) (l1 : Int) (l2 : Int) (u3 : Option Int) (u4 : Option Int) (K : Int → (Nat → Int → Int) → Prop) : Prop := RI 120 4 [some (mvR 68), some (mvI l1), some (mvI l2), u3.map mvI, u4.map mvI] [] g h K
theorem MD_underAll_wp {sw : Bool} {g : Nat → Nat → Nat} {h : Nat → Int → Int}  {K : Int → (Nat → Int → Int) → Prop} (hG : Gok sw g)  (H :
  MD_underAll_4 g h 0 0 none none K) : MD_underAll g h  K := by
  refine rc_iconst mq120 (mvDec_of cd120 rfl) (by decide) ?_
  refine rc_istore_n [some (mvR 68), some (mvI 0), none, none, none] mq120 (mvDec_of cd120 rfl) rfl ?_
  refine rc_iconst mq120 (mvDec_of cd120 rfl) (by decide) ?_
  refine rc_istore_n [some (mvR 68), some (mvI 0), some (mvI 0), none, none] mq120 (mvDec_of cd120 rfl) rfl ?_
  exact H
theorem MD_underAll_4_wp {sw : Bool} {g : Nat → Nat → Nat} {h : Nat → Int → Int} {l1 : Int} {l2 : Int} {u3 : Option Int} {u4 : Option Int} {K : Int → (Nat → Int → Int) → Prop} (hG : Gok sw g)  (H :
  ((16 ≤ l2 →
    K l1 h) ∧
  (l2 < 16 →
    (∀ v1, v1 = (mw (l2.tdiv 4)) →
    (∀ v2, v2 = (l2.tmod 4) →
    ((v1 = v2 →
      (∀ v3, v3 = (mw (l1 + 0)) →
      MD_underAll_4 g h v3 (mw (l2 + 1)) (some v1) (some v2) K)) ∧
    (¬ v1 = v2 →
      (((h 68 0) ≤ v1 →
        (∀ v4, v4 = (mw (l1 + 0)) →
        MD_underAll_4 g h v4 (mw (l2 + 1)) (some v1) (some v2) K)) ∧
      (v1 < (h 68 0) →
        (((h 68 0) ≤ v2 →
          (∀ v5, v5 = (mw (l1 + 0)) →
          MD_underAll_4 g h v5 (mw (l2 + 1)) (some v1) (some v2) K)) ∧
        (v2 < (h 68 0) →
          MD_underOf g h v1 v2 (fun r7 h6 =>
            (∀ v8, v8 = (mw (l1 + r7)) →
            MD_underAll_4 g h6 v8 (mw (l2 + 1)) (some v1) (some v2) K))))))))))))) : MD_underAll_4 g h l1 l2 u3 u4 K := by
  refine rc_iload_n mq120 (mvDec_of cd120 rfl) rfl ?_
  refine rc_bipush mq120 (mvDec_of cd120 rfl) (by decide) ?_
  refine rc_icmp_ge (t := 62) mq120 (mvDec_of cd120 rfl) rfl (fun hc => ?_) (fun hc => ?_)
  · replace H := H.1 hc
    refine rc_iload_n mq120 (mvDec_of cd120 rfl) rfl ?_
    exact rc_iret mq120 (mvDec_of cd120 rfl) ⟨_, _, rfl, rfl, H⟩
  · replace H := H.2 hc
    refine rc_iload_n mq120 (mvDec_of cd120 rfl) rfl ?_
    refine rc_iconst mq120 (mvDec_of cd120 rfl) (by decide) ?_
    refine rc_idiv mq120 (mvDec_of cd120 rfl) (by decide) ?_
    refine rc_top (fun v1 hv => ?_)
    replace H := H v1 hv
    refine rc_istore_n [some (mvR 68), some (mvI l1), some (mvI l2), some (mvI v1), u4.map mvI] mq120 (mvDec_of cd120 rfl) rfl ?_
    refine rc_iload_n mq120 (mvDec_of cd120 rfl) rfl ?_
    refine rc_iconst mq120 (mvDec_of cd120 rfl) (by decide) ?_
    refine rc_irem mq120 (mvDec_of cd120 rfl) (by decide) ?_
    refine rc_top (fun v2 hv => ?_)
    replace H := H v2 hv
    refine rc_istore [some (mvR 68), some (mvI l1), some (mvI l2), some (mvI v1), some (mvI v2)] mq120 (mvDec_of cd120 rfl) rfl ?_
    refine rc_iload_n mq120 (mvDec_of cd120 rfl) rfl ?_
    refine rc_iload_n mq120 (mvDec_of cd120 rfl) rfl ?_
    refine rc_iload mq120 (mvDec_of cd120 rfl) rfl ?_
    refine rc_icmp_eq (t := 53) mq120 (mvDec_of cd120 rfl) rfl (fun hc => ?_) (fun hc => ?_)
    · replace H := H.1 hc
      refine rc_iconst mq120 (mvDec_of cd120 rfl) (by decide) ?_
      refine rc_iadd mq120 (mvDec_of cd120 rfl) ?_
      refine rc_top (fun v3 hv => ?_)
      replace H := H v3 hv
      refine rc_istore_n [some (mvR 68), some (mvI v3), some (mvI l2), some (mvI v1), some (mvI v2)] mq120 (mvDec_of cd120 rfl) rfl ?_
      refine rc_iinc [some (mvR 68), some (mvI v3), some (mvI (mw (l2 + 1))), some (mvI v1), some (mvI v2)] mq120 (mvDec_of cd120 rfl) rfl rfl ?_
      refine rc_goto (t := 4) mq120 (mvDec_of cd120 rfl) rfl ?_
      exact H
    · replace H := H.2 hc
      refine rc_iload_n mq120 (mvDec_of cd120 rfl) rfl ?_
      refine rc_aload_n mq120 (mvDec_of cd120 rfl) rfl ?_
      refine rc_getI 0 mq120 (mvDec_of cd120 rfl) fl_10_138 mis68 rfl (by decide) (by decide) ?_
      refine rc_icmp_ge (t := 53) mq120 (mvDec_of cd120 rfl) rfl (fun hc => ?_) (fun hc => ?_)
      · replace H := H.1 hc
        refine rc_iconst mq120 (mvDec_of cd120 rfl) (by decide) ?_
        refine rc_iadd mq120 (mvDec_of cd120 rfl) ?_
        refine rc_top (fun v4 hv => ?_)
        replace H := H v4 hv
        refine rc_istore_n [some (mvR 68), some (mvI v4), some (mvI l2), some (mvI v1), some (mvI v2)] mq120 (mvDec_of cd120 rfl) rfl ?_
        refine rc_iinc [some (mvR 68), some (mvI v4), some (mvI (mw (l2 + 1))), some (mvI v1), some (mvI v2)] mq120 (mvDec_of cd120 rfl) rfl rfl ?_
        refine rc_goto (t := 4) mq120 (mvDec_of cd120 rfl) rfl ?_
        exact H
      · replace H := H.2 hc
        refine rc_iload mq120 (mvDec_of cd120 rfl) rfl ?_
        refine rc_aload_n mq120 (mvDec_of cd120 rfl) rfl ?_
        refine rc_getI 0 mq120 (mvDec_of cd120 rfl) fl_10_138 mis68 rfl (by decide) (by decide) ?_
        refine rc_icmp_ge (t := 53) mq120 (mvDec_of cd120 rfl) rfl (fun hc => ?_) (fun hc => ?_)
        · replace H := H.1 hc
          refine rc_iconst mq120 (mvDec_of cd120 rfl) (by decide) ?_
          refine rc_iadd mq120 (mvDec_of cd120 rfl) ?_
          refine rc_top (fun v5 hv => ?_)
          replace H := H v5 hv
          refine rc_istore_n [some (mvR 68), some (mvI v5), some (mvI l2), some (mvI v1), some (mvI v2)] mq120 (mvDec_of cd120 rfl) rfl ?_
          refine rc_iinc [some (mvR 68), some (mvI v5), some (mvI (mw (l2 + 1))), some (mvI v1), some (mvI v2)] mq120 (mvDec_of cd120 rfl) rfl rfl ?_
          refine rc_goto (t := 4) mq120 (mvDec_of cd120 rfl) rfl ?_
          exact H
        · replace H := H.2 hc
          refine rc_aload_n mq120 (mvDec_of cd120 rfl) rfl ?_
          refine rc_iload_n mq120 (mvDec_of cd120 rfl) rfl ?_
          refine rc_iload mq120 (mvDec_of cd120 rfl) rfl ?_
          refine rc_callV [mvR 68, mvI v1, mvI v2] [mvI l1] [some (mvR 68), some (mvI v1), some (mvI v2), none, none, none, none] mq120 (mvDec_of cd120 rfl) lk_10_203 mq58 (by decide) rfl rfl (Nat.le_of_ble_eq_true rfl) (Nat.le_of_ble_eq_true rfl) (by decide) rfl mis68 rfl (ri_bind H (fun r7 h6 H => ?_))
          refine rc_goto (t := 54) mq120 (mvDec_of cd120 rfl) rfl ?_
          refine rc_iadd mq120 (mvDec_of cd120 rfl) ?_
          refine rc_top (fun v8 hv => ?_)
          replace H := H v8 hv
          refine rc_istore_n [some (mvR 68), some (mvI v8), some (mvI l2), some (mvI v1), some (mvI v2)] mq120 (mvDec_of cd120 rfl) rfl ?_
          refine rc_iinc [some (mvR 68), some (mvI v8), some (mvI (mw (l2 + 1))), some (mvI v1), some (mvI v2)] mq120 (mvDec_of cd120 rfl) rfl rfl ?_
          refine rc_goto (t := 4) mq120 (mvDec_of cd120 rfl) rfl ?_
          exact H
abbrev MD_isAllowed (g : Nat → Nat → Nat) (h : Nat → Int → Int) (x1 : Int) (x2 : Int) (K : Int → (Nat → Int → Int) → Prop) : Prop := RI 121 0 [some (mvR 68), some (mvI x1), some (mvI x2)] [] g h K
theorem MD_isAllowed_wp {sw : Bool} {g : Nat → Nat → Nat} {h : Nat → Int → Int} {x1 : Int} {x2 : Int} {K : Int → (Nat → Int → Int) → Prop} (hG : Gok sw g)  (H :
  (0 ≤ x1 ∧ x1 < 4) ∧
  MD_valueOf g h x1 x2 (fun r2 h1 =>
    ((¬ (mvAnd (mvShr (h 74 x1) r2) 1) = 1 →
      K 0 h1) ∧
    ((mvAnd (mvShr (h 74 x1) r2) 1) = 1 →
      K 1 h1)))) : MD_isAllowed g h x1 x2 K := by
  refine rc_aload_n mq121 (mvDec_of cd121 rfl) rfl ?_
  refine rc_getR 74 mq121 (mvDec_of cd121 rfl) fl_10_25 mis68 rfl (gr_68_6 hG) (by decide) ?_
  refine rc_iload_n mq121 (mvDec_of cd121 rfl) rfl ?_
  obtain ⟨⟨hb0, hb1⟩, H⟩ := H
  refine rc_iald mq121 (mvDec_of cd121 rfl) mis74 hb0 hb1 ?_
  refine rc_aload_n mq121 (mvDec_of cd121 rfl) rfl ?_
  refine rc_iload_n mq121 (mvDec_of cd121 rfl) rfl ?_
  refine rc_iload_n mq121 (mvDec_of cd121 rfl) rfl ?_
  refine rc_callV [mvR 68, mvI x1, mvI x2] [mvI (h 74 x1)] [some (mvR 68), some (mvI x1), some (mvI x2), none, none, none] mq121 (mvDec_of cd121 rfl) lk_10_207 mq57 (by decide) rfl rfl (Nat.le_of_ble_eq_true rfl) (Nat.le_of_ble_eq_true rfl) (by decide) rfl mis68 rfl (ri_bind H (fun r2 h1 H => ?_))
  refine rc_ishr mq121 (mvDec_of cd121 rfl) ?_
  refine rc_iconst mq121 (mvDec_of cd121 rfl) (by decide) ?_
  refine rc_iand mq121 (mvDec_of cd121 rfl) ?_
  refine rc_iconst mq121 (mvDec_of cd121 rfl) (by decide) ?_
  refine rc_icmp_ne (t := 23) mq121 (mvDec_of cd121 rfl) rfl (fun hc => ?_) (fun hc => ?_)
  · replace H := H.1 hc
    refine rc_iconst mq121 (mvDec_of cd121 rfl) (by decide) ?_
    exact rc_zret mq121 (mvDec_of cd121 rfl) (Or.inl rfl) ⟨_, _, rfl, rfl, H⟩
  · replace H := H.2 hc
    refine rc_iconst mq121 (mvDec_of cd121 rfl) (by decide) ?_
    refine rc_goto (t := 24) mq121 (mvDec_of cd121 rfl) rfl ?_
    exact rc_zret mq121 (mvDec_of cd121 rfl) (Or.inr rfl) ⟨_, _, rfl, rfl, H⟩
abbrev MD_sumOfValues (g : Nat → Nat → Nat) (h : Nat → Int → Int)  (K : Int → (Nat → Int → Int) → Prop) : Prop := RI 122 0 [some (mvR 68), none, none] [] g h K
abbrev MD_sumOfValues_4 (g : Nat → Nat → Nat) (h : Nat → Int → Int) (l1 : Int) (l2 : Int) (K : Int → (Nat → Int → Int) → Prop) : Prop := RI 122 4 [some (mvR 68), some (mvI l1), some (mvI l2)] [] g h K
theorem MD_sumOfValues_wp {sw : Bool} {g : Nat → Nat → Nat} {h : Nat → Int → Int}  {K : Int → (Nat → Int → Int) → Prop} (hG : Gok sw g)  (H :
  MD_sumOfValues_4 g h 0 0 K) : MD_sumOfValues g h  K := by
  refine rc_iconst mq122 (mvDec_of cd122 rfl) (by decide) ?_
  refine rc_istore_n [some (mvR 68), some (mvI 0), none] mq122 (mvDec_of cd122 rfl) rfl ?_
  refine rc_iconst mq122 (mvDec_of cd122 rfl) (by decide) ?_
  refine rc_istore_n [some (mvR 68), some (mvI 0), some (mvI 0)] mq122 (mvDec_of cd122 rfl) rfl ?_
  exact H
theorem MD_sumOfValues_4_wp {sw : Bool} {g : Nat → Nat → Nat} {h : Nat → Int → Int} {l1 : Int} {l2 : Int} {K : Int → (Nat → Int → Int) → Prop} (hG : Gok sw g)  (H :
  (((h 68 0) ≤ l2 →
    K l1 h) ∧
  (l2 < (h 68 0) →
    (0 ≤ l2 ∧ l2 < 4) ∧
    MD_valueOf g h l2 (h 81 l2) (fun r2 h1 =>
      (∀ v3, v3 = (mw (l1 + r2)) →
      MD_sumOfValues_4 g h1 v3 (mw (l2 + 1)) K))))) : MD_sumOfValues_4 g h l1 l2 K := by
  refine rc_iload_n mq122 (mvDec_of cd122 rfl) rfl ?_
  refine rc_aload_n mq122 (mvDec_of cd122 rfl) rfl ?_
  refine rc_getI 0 mq122 (mvDec_of cd122 rfl) fl_10_138 mis68 rfl (by decide) (by decide) ?_
  refine rc_icmp_ge (t := 32) mq122 (mvDec_of cd122 rfl) rfl (fun hc => ?_) (fun hc => ?_)
  · replace H := H.1 hc
    refine rc_iload_n mq122 (mvDec_of cd122 rfl) rfl ?_
    exact rc_iret mq122 (mvDec_of cd122 rfl) ⟨_, _, rfl, rfl, H⟩
  · replace H := H.2 hc
    refine rc_iload_n mq122 (mvDec_of cd122 rfl) rfl ?_
    refine rc_aload_n mq122 (mvDec_of cd122 rfl) rfl ?_
    refine rc_iload_n mq122 (mvDec_of cd122 rfl) rfl ?_
    refine rc_aload_n mq122 (mvDec_of cd122 rfl) rfl ?_
    refine rc_getR 81 mq122 (mvDec_of cd122 rfl) fl_10_46 mis68 rfl (gr_68_26 hG) (by decide) ?_
    refine rc_iload_n mq122 (mvDec_of cd122 rfl) rfl ?_
    obtain ⟨⟨hb0, hb1⟩, H⟩ := H
    refine rc_iald mq122 (mvDec_of cd122 rfl) mis81 hb0 hb1 ?_
    refine rc_callV [mvR 68, mvI l2, mvI (h 81 l2)] [mvI l1] [some (mvR 68), some (mvI l2), some (mvI (h 81 l2)), none, none, none] mq122 (mvDec_of cd122 rfl) lk_10_207 mq57 (by decide) rfl rfl (Nat.le_of_ble_eq_true rfl) (Nat.le_of_ble_eq_true rfl) (by decide) rfl mis68 rfl (ri_bind H (fun r2 h1 H => ?_))
    refine rc_iadd mq122 (mvDec_of cd122 rfl) ?_
    refine rc_top (fun v3 hv => ?_)
    replace H := H v3 hv
    refine rc_istore_n [some (mvR 68), some (mvI v3), some (mvI l2)] mq122 (mvDec_of cd122 rfl) rfl ?_
    refine rc_iinc [some (mvR 68), some (mvI v3), some (mvI (mw (l2 + 1)))] mq122 (mvDec_of cd122 rfl) rfl rfl ?_
    refine rc_goto (t := 4) mq122 (mvDec_of cd122 rfl) rfl ?_
    exact H
abbrev MD_spreadNow (g : Nat → Nat → Nat) (h : Nat → Int → Int)  (K : Int → (Nat → Int → Int) → Prop) : Prop := RI 123 0 [some (mvR 68), none, none, none, none] [] g h K
abbrev MD_spreadNow_16 (g : Nat → Nat → Nat) (h : Nat → Int → Int) (l1 : Int) (l2 : Int) (l3 : Int) (u4 : Option Int) (K : Int → (Nat → Int → Int) → Prop) : Prop := RI 123 16 [some (mvR 68), some (mvI l1), some (mvI l2), some (mvI l3), u4.map mvI] [] g h K
theorem MD_spreadNow_wp {sw : Bool} {g : Nat → Nat → Nat} {h : Nat → Int → Int}  {K : Int → (Nat → Int → Int) → Prop} (hG : Gok sw g)  (H :
  MD_valueOf g h 0 (h 81 0) (fun r2 h1 =>
    MD_spreadNow_16 g h1 r2 r2 1 none K)) : MD_spreadNow g h  K := by
  refine rc_aload_n mq123 (mvDec_of cd123 rfl) rfl ?_
  refine rc_iconst mq123 (mvDec_of cd123 rfl) (by decide) ?_
  refine rc_aload_n mq123 (mvDec_of cd123 rfl) rfl ?_
  refine rc_getR 81 mq123 (mvDec_of cd123 rfl) fl_10_46 mis68 rfl (gr_68_26 hG) (by decide) ?_
  refine rc_iconst mq123 (mvDec_of cd123 rfl) (by decide) ?_
  refine rc_iald mq123 (mvDec_of cd123 rfl) mis81 (by decide) (by decide) ?_
  refine rc_callV [mvR 68, mvI 0, mvI (h 81 0)] [] [some (mvR 68), some (mvI 0), some (mvI (h 81 0)), none, none, none] mq123 (mvDec_of cd123 rfl) lk_10_207 mq57 (by decide) rfl rfl (Nat.le_of_ble_eq_true rfl) (Nat.le_of_ble_eq_true rfl) (by decide) rfl mis68 rfl (ri_bind H (fun r2 h1 H => ?_))
  refine rc_istore_n [some (mvR 68), some (mvI r2), none, none, none] mq123 (mvDec_of cd123 rfl) rfl ?_
  refine rc_iload_n mq123 (mvDec_of cd123 rfl) rfl ?_
  refine rc_istore_n [some (mvR 68), some (mvI r2), some (mvI r2), none, none] mq123 (mvDec_of cd123 rfl) rfl ?_
  refine rc_iconst mq123 (mvDec_of cd123 rfl) (by decide) ?_
  refine rc_istore_n [some (mvR 68), some (mvI r2), some (mvI r2), some (mvI 1), none] mq123 (mvDec_of cd123 rfl) rfl ?_
  exact H
theorem MD_spreadNow_16_wp {sw : Bool} {g : Nat → Nat → Nat} {h : Nat → Int → Int} {l1 : Int} {l2 : Int} {l3 : Int} {u4 : Option Int} {K : Int → (Nat → Int → Int) → Prop} (hG : Gok sw g)  (H :
  (((h 68 0) ≤ l3 →
    K (mw (l1 - l2)) h) ∧
  (l3 < (h 68 0) →
    (0 ≤ l3 ∧ l3 < 4) ∧
    MD_valueOf g h l3 (h 81 l3) (fun r2 h1 =>
      ((r2 ≤ l1 →
        ((l2 ≤ r2 →
          MD_spreadNow_16 g h1 l1 l2 (mw (l3 + 1)) (some r2) K) ∧
        (r2 < l2 →
          MD_spreadNow_16 g h1 l1 r2 (mw (l3 + 1)) (some r2) K))) ∧
      (l1 < r2 →
        ((l2 ≤ r2 →
          MD_spreadNow_16 g h1 r2 l2 (mw (l3 + 1)) (some r2) K) ∧
        (r2 < l2 →
          MD_spreadNow_16 g h1 r2 r2 (mw (l3 + 1)) (some r2) K)))))))) : MD_spreadNow_16 g h l1 l2 l3 u4 K := by
  refine rc_iload_n mq123 (mvDec_of cd123 rfl) rfl ?_
  refine rc_aload_n mq123 (mvDec_of cd123 rfl) rfl ?_
  refine rc_getI 0 mq123 (mvDec_of cd123 rfl) fl_10_138 mis68 rfl (by decide) (by decide) ?_
  refine rc_icmp_ge (t := 69) mq123 (mvDec_of cd123 rfl) rfl (fun hc => ?_) (fun hc => ?_)
  · replace H := H.1 hc
    refine rc_iload_n mq123 (mvDec_of cd123 rfl) rfl ?_
    refine rc_iload_n mq123 (mvDec_of cd123 rfl) rfl ?_
    refine rc_isub mq123 (mvDec_of cd123 rfl) ?_
    exact rc_iret mq123 (mvDec_of cd123 rfl) ⟨_, _, rfl, rfl, H⟩
  · replace H := H.2 hc
    refine rc_aload_n mq123 (mvDec_of cd123 rfl) rfl ?_
    refine rc_iload_n mq123 (mvDec_of cd123 rfl) rfl ?_
    refine rc_aload_n mq123 (mvDec_of cd123 rfl) rfl ?_
    refine rc_getR 81 mq123 (mvDec_of cd123 rfl) fl_10_46 mis68 rfl (gr_68_26 hG) (by decide) ?_
    refine rc_iload_n mq123 (mvDec_of cd123 rfl) rfl ?_
    obtain ⟨⟨hb0, hb1⟩, H⟩ := H
    refine rc_iald mq123 (mvDec_of cd123 rfl) mis81 hb0 hb1 ?_
    refine rc_callV [mvR 68, mvI l3, mvI (h 81 l3)] [] [some (mvR 68), some (mvI l3), some (mvI (h 81 l3)), none, none, none] mq123 (mvDec_of cd123 rfl) lk_10_207 mq57 (by decide) rfl rfl (Nat.le_of_ble_eq_true rfl) (Nat.le_of_ble_eq_true rfl) (by decide) rfl mis68 rfl (ri_bind H (fun r2 h1 H => ?_))
    refine rc_istore [some (mvR 68), some (mvI l1), some (mvI l2), some (mvI l3), some (mvI r2)] mq123 (mvDec_of cd123 rfl) rfl ?_
    refine rc_iload mq123 (mvDec_of cd123 rfl) rfl ?_
    refine rc_iload_n mq123 (mvDec_of cd123 rfl) rfl ?_
    refine rc_icmp_le (t := 48) mq123 (mvDec_of cd123 rfl) rfl (fun hc => ?_) (fun hc => ?_)
    · replace H := H.1 hc
      refine rc_iload_n mq123 (mvDec_of cd123 rfl) rfl ?_
      refine rc_istore_n [some (mvR 68), some (mvI l1), some (mvI l2), some (mvI l3), some (mvI r2)] mq123 (mvDec_of cd123 rfl) rfl ?_
      refine rc_iload mq123 (mvDec_of cd123 rfl) rfl ?_
      refine rc_iload_n mq123 (mvDec_of cd123 rfl) rfl ?_
      refine rc_icmp_ge (t := 61) mq123 (mvDec_of cd123 rfl) rfl (fun hc => ?_) (fun hc => ?_)
      · replace H := H.1 hc
        refine rc_iload_n mq123 (mvDec_of cd123 rfl) rfl ?_
        refine rc_istore_n [some (mvR 68), some (mvI l1), some (mvI l2), some (mvI l3), some (mvI r2)] mq123 (mvDec_of cd123 rfl) rfl ?_
        refine rc_iinc [some (mvR 68), some (mvI l1), some (mvI l2), some (mvI (mw (l3 + 1))), some (mvI r2)] mq123 (mvDec_of cd123 rfl) rfl rfl ?_
        refine rc_goto (t := 16) mq123 (mvDec_of cd123 rfl) rfl ?_
        exact H
      · replace H := H.2 hc
        refine rc_iload mq123 (mvDec_of cd123 rfl) rfl ?_
        refine rc_goto (t := 62) mq123 (mvDec_of cd123 rfl) rfl ?_
        refine rc_istore_n [some (mvR 68), some (mvI l1), some (mvI r2), some (mvI l3), some (mvI r2)] mq123 (mvDec_of cd123 rfl) rfl ?_
        refine rc_iinc [some (mvR 68), some (mvI l1), some (mvI r2), some (mvI (mw (l3 + 1))), some (mvI r2)] mq123 (mvDec_of cd123 rfl) rfl rfl ?_
        refine rc_goto (t := 16) mq123 (mvDec_of cd123 rfl) rfl ?_
        exact H
    · replace H := H.2 hc
      refine rc_iload mq123 (mvDec_of cd123 rfl) rfl ?_
      refine rc_goto (t := 49) mq123 (mvDec_of cd123 rfl) rfl ?_
      refine rc_istore_n [some (mvR 68), some (mvI r2), some (mvI l2), some (mvI l3), some (mvI r2)] mq123 (mvDec_of cd123 rfl) rfl ?_
      refine rc_iload mq123 (mvDec_of cd123 rfl) rfl ?_
      refine rc_iload_n mq123 (mvDec_of cd123 rfl) rfl ?_
      refine rc_icmp_ge (t := 61) mq123 (mvDec_of cd123 rfl) rfl (fun hc => ?_) (fun hc => ?_)
      · replace H := H.1 hc
        refine rc_iload_n mq123 (mvDec_of cd123 rfl) rfl ?_
        refine rc_istore_n [some (mvR 68), some (mvI r2), some (mvI l2), some (mvI l3), some (mvI r2)] mq123 (mvDec_of cd123 rfl) rfl ?_
        refine rc_iinc [some (mvR 68), some (mvI r2), some (mvI l2), some (mvI (mw (l3 + 1))), some (mvI r2)] mq123 (mvDec_of cd123 rfl) rfl rfl ?_
        refine rc_goto (t := 16) mq123 (mvDec_of cd123 rfl) rfl ?_
        exact H
      · replace H := H.2 hc
        refine rc_iload mq123 (mvDec_of cd123 rfl) rfl ?_
        refine rc_goto (t := 62) mq123 (mvDec_of cd123 rfl) rfl ?_
        refine rc_istore_n [some (mvR 68), some (mvI r2), some (mvI r2), some (mvI l3), some (mvI r2)] mq123 (mvDec_of cd123 rfl) rfl ?_
        refine rc_iinc [some (mvR 68), some (mvI r2), some (mvI r2), some (mvI (mw (l3 + 1))), some (mvI r2)] mq123 (mvDec_of cd123 rfl) rfl rfl ?_
        refine rc_goto (t := 16) mq123 (mvDec_of cd123 rfl) rfl ?_
        exact H
abbrev MD_canGoOn (g : Nat → Nat → Nat) (h : Nat → Int → Int) (x1 : Int) (x2 : Int) (K : Int → (Nat → Int → Int) → Prop) : Prop := RI 124 0 [some (mvR 68), some (mvI x1), some (mvI x2)] [] g h K
theorem MD_canGoOn_wp {sw : Bool} {g : Nat → Nat → Nat} {h : Nat → Int → Int} {x1 : Int} {x2 : Int} {K : Int → (Nat → Int → Int) → Prop} (hG : Gok sw g)  (H :
  MD_take g h x1 (fun h1 =>
    (0 ≤ x2 ∧ x2 < 4) ∧
    (0 ≤ x2 ∧ x2 < 4) ∧
    (((h1 69 x2) ≤ (h1 81 x2) →
      K 0 h1) ∧
    ((h1 81 x2) < (h1 69 x2) →
      MD_stride g h1 x2 (fun r3 h2 =>
        (0 ≤ (mw (x1 + r3)) ∧ (mw (x1 + r3)) < 640) ∧
        (((h2 82 (mw (x1 + r3))) = 0 →
          K 0 h2) ∧
        (¬ (h2 82 (mw (x1 + r3))) = 0 →
          K 1 h2))))))) : MD_canGoOn g h x1 x2 K := by
  refine rc_aload_n mq124 (mvDec_of cd124 rfl) rfl ?_
  refine rc_iload_n mq124 (mvDec_of cd124 rfl) rfl ?_
  refine rc_callV [mvR 68, mvI x1] [] [some (mvR 68), some (mvI x1), none, none] mq124 (mvDec_of cd124 rfl) lk_10_196 mq50 (by decide) rfl rfl (Nat.le_of_ble_eq_true rfl) (Nat.le_of_ble_eq_true rfl) (by decide) rfl mis68 rfl (rv_bind H (fun h1 H => ?_))
  refine rc_aload_n mq124 (mvDec_of cd124 rfl) rfl ?_
  refine rc_getR 81 mq124 (mvDec_of cd124 rfl) fl_10_46 mis68 rfl (gr_68_26 hG) (by decide) ?_
  refine rc_iload_n mq124 (mvDec_of cd124 rfl) rfl ?_
  obtain ⟨⟨hb0, hb1⟩, H⟩ := H
  refine rc_iald mq124 (mvDec_of cd124 rfl) mis81 hb0 hb1 ?_
  refine rc_aload_n mq124 (mvDec_of cd124 rfl) rfl ?_
  refine rc_getR 69 mq124 (mvDec_of cd124 rfl) fl_10_7 mis68 rfl (gr_68_1 hG) (by decide) ?_
  refine rc_iload_n mq124 (mvDec_of cd124 rfl) rfl ?_
  obtain ⟨⟨hb0, hb1⟩, H⟩ := H
  refine rc_iald mq124 (mvDec_of cd124 rfl) mis69 hb0 hb1 ?_
  refine rc_icmp_ge (t := 39) mq124 (mvDec_of cd124 rfl) rfl (fun hc => ?_) (fun hc => ?_)
  · replace H := H.1 hc
    refine rc_iconst mq124 (mvDec_of cd124 rfl) (by decide) ?_
    exact rc_zret mq124 (mvDec_of cd124 rfl) (Or.inl rfl) ⟨_, _, rfl, rfl, H⟩
  · replace H := H.2 hc
    refine rc_aload_n mq124 (mvDec_of cd124 rfl) rfl ?_
    refine rc_getR 82 mq124 (mvDec_of cd124 rfl) fl_10_49 mis68 rfl (gr_68_27 hG) (by decide) ?_
    refine rc_iload_n mq124 (mvDec_of cd124 rfl) rfl ?_
    refine rc_aload_n mq124 (mvDec_of cd124 rfl) rfl ?_
    refine rc_iload_n mq124 (mvDec_of cd124 rfl) rfl ?_
    refine rc_callV [mvR 68, mvI x2] [mvI x1, mvR 82] [some (mvR 68), some (mvI x2), none, none] mq124 (mvDec_of cd124 rfl) lk_10_246 mq51 (by decide) rfl rfl (Nat.le_of_ble_eq_true rfl) (Nat.le_of_ble_eq_true rfl) (by decide) rfl mis68 rfl (ri_bind H (fun r3 h2 H => ?_))
    refine rc_iadd mq124 (mvDec_of cd124 rfl) ?_
    obtain ⟨⟨hb0, hb1⟩, H⟩ := H
    refine rc_bald mq124 (mvDec_of cd124 rfl) mis82 hb0 hb1 ?_
    refine rc_if_eq (t := 39) mq124 (mvDec_of cd124 rfl) rfl (fun hc => ?_) (fun hc => ?_)
    · replace H := H.1 hc
      refine rc_iconst mq124 (mvDec_of cd124 rfl) (by decide) ?_
      exact rc_zret mq124 (mvDec_of cd124 rfl) (Or.inl rfl) ⟨_, _, rfl, rfl, H⟩
    · replace H := H.2 hc
      refine rc_iconst mq124 (mvDec_of cd124 rfl) (by decide) ?_
      refine rc_goto (t := 40) mq124 (mvDec_of cd124 rfl) rfl ?_
      exact rc_zret mq124 (mvDec_of cd124 rfl) (Or.inr rfl) ⟨_, _, rfl, rfl, H⟩
abbrev MD_mixed (g : Nat → Nat → Nat) (h : Nat → Int → Int) (x1 : Int) (x2 : Int) (x3 : Int) (K : Int → (Nat → Int → Int) → Prop) : Prop := RI 125 0 [some (mvR 68), some (mvI x1), some (mvI x2), some (mvI x3), none, none, none] [] g h K
abbrev MD_mixed_26 (g : Nat → Nat → Nat) (h : Nat → Int → Int) (u1 : Option Int) (l2 : Int) (l3 : Int) (l4 : Int) (l5 : Int) (l6 : Int) (K : Int → (Nat → Int → Int) → Prop) : Prop := RI 125 26 [some (mvR 68), u1.map mvI, some (mvI l2), some (mvI l3), some (mvI l4), some (mvI l5), some (mvI l6)] [] g h K
abbrev MD_mixed_86 (g : Nat → Nat → Nat) (h : Nat → Int → Int) (u1 : Option Int) (u2 : Option Int) (l3 : Int) (u4 : Option Int) (u5 : Option Int) (l6 : Int) (K : Int → (Nat → Int → Int) → Prop) : Prop := RI 125 86 [some (mvR 68), u1.map mvI, u2.map mvI, some (mvI l3), u4.map mvI, u5.map mvI, some (mvI l6)] [] g h K
theorem MD_mixed_wp {sw : Bool} {g : Nat → Nat → Nat} {h : Nat → Int → Int} {x1 : Int} {x2 : Int} {x3 : Int} {K : Int → (Nat → Int → Int) → Prop} (hG : Gok sw g)  (H :
  (((h 68 0) ≤ 0 →
    K (-103) h) ∧
  (0 < (h 68 0) →
    MD_takesTold g h x1 (fun r2 h1 =>
      MD_isConsistent g h1 (fun r4 h3 =>
        MD_mixed_26 g h3 (some x1) x2 x3 r2 r4 0 K))))) : MD_mixed g h x1 x2 x3 K := by
  refine rc_aload_n mq125 (mvDec_of cd125 rfl) rfl ?_
  refine rc_callV [mvR 68] [] [some (mvR 68)] mq125 (mvDec_of cd125 rfl) lk_10_262 mq43 (by decide) rfl rfl (Nat.le_of_ble_eq_true rfl) (Nat.le_of_ble_eq_true rfl) (by decide) rfl mis68 rfl ?_
  refine rc_aload_n mq43 (mvDec_of cd43 rfl) rfl ?_
  refine rc_getI 0 mq43 (mvDec_of cd43 rfl) fl_10_138 mis68 rfl (by decide) (by decide) ?_
  refine rc_if_le (t := 11) mq43 (mvDec_of cd43 rfl) rfl (fun hc => ?_) (fun hc => ?_)
  · replace H := H.1 hc
    refine rc_iconst mq43 (mvDec_of cd43 rfl) (by decide) ?_
    refine rc_zret mq43 (mvDec_of cd43 rfl) (Or.inl rfl) ?_
    show Rch 125 4 [some (mvR 68), some (mvI x1), some (mvI x2), some (mvI x3), none, none, none] [mvI 0] (97, g, h) _
    refine rc_ifF (t := 10) mq125 (mvDec_of cd125 rfl) rfl rfl ?_
    refine rc_bipush mq125 (mvDec_of cd125 rfl) (by decide) ?_
    exact rc_iret mq125 (mvDec_of cd125 rfl) ⟨_, _, rfl, rfl, H⟩
  · replace H := H.2 hc
    refine rc_iconst mq43 (mvDec_of cd43 rfl) (by decide) ?_
    refine rc_goto (t := 12) mq43 (mvDec_of cd43 rfl) rfl ?_
    refine rc_zret mq43 (mvDec_of cd43 rfl) (Or.inr rfl) ?_
    show Rch 125 4 [some (mvR 68), some (mvI x1), some (mvI x2), some (mvI x3), none, none, none] [mvI 1] (97, g, h) _
    refine rc_ifT (t := 10) mq125 (mvDec_of cd125 rfl) rfl rfl ?_
    refine rc_aload_n mq125 (mvDec_of cd125 rfl) rfl ?_
    refine rc_iload_n mq125 (mvDec_of cd125 rfl) rfl ?_
    refine rc_callV [mvR 68, mvI x1] [] [some (mvR 68), some (mvI x1), none, none, none] mq125 (mvDec_of cd125 rfl) lk_10_265 mq54 (by decide) rfl rfl (Nat.le_of_ble_eq_true rfl) (Nat.le_of_ble_eq_true rfl) (by decide) rfl mis68 rfl (ri_bind H (fun r2 h1 H => ?_))
    refine rc_istore [some (mvR 68), some (mvI x1), some (mvI x2), some (mvI x3), some (mvI r2), none, none] mq125 (mvDec_of cd125 rfl) rfl ?_
    refine rc_aload_n mq125 (mvDec_of cd125 rfl) rfl ?_
    refine rc_callV [mvR 68] [] [some (mvR 68), none, none, none] mq125 (mvDec_of cd125 rfl) lk_10_234 mq55 (by decide) rfl rfl (Nat.le_of_ble_eq_true rfl) (Nat.le_of_ble_eq_true rfl) (by decide) rfl mis68 rfl (ri_bind H (fun r4 h3 H => ?_))
    refine rc_istore [some (mvR 68), some (mvI x1), some (mvI x2), some (mvI x3), some (mvI r2), some (mvI r4), none] mq125 (mvDec_of cd125 rfl) rfl ?_
    refine rc_iconst mq125 (mvDec_of cd125 rfl) (by decide) ?_
    refine rc_istore [some (mvR 68), some (mvI x1), some (mvI x2), some (mvI x3), some (mvI r2), some (mvI r4), some (mvI 0)] mq125 (mvDec_of cd125 rfl) rfl ?_
    exact H
theorem MD_mixed_26_wp {sw : Bool} {g : Nat → Nat → Nat} {h : Nat → Int → Int} {u1 : Option Int} {l2 : Int} {l3 : Int} {l4 : Int} {l5 : Int} {l6 : Int} {K : Int → (Nat → Int → Int) → Prop} (hG : Gok sw g)  (H :
  ((4 ≤ l6 →
    MD_takesTold g h l2 (fun r2 h1 =>
      ((r2 = 0 →
        K (-101) h1) ∧
      (¬ r2 = 0 →
        ((¬ l4 = 0 →
          ((l5 = 0 →
            K (-103) h1) ∧
          (¬ l5 = 0 →
            MD_isConsistent g h1 (fun r4 h3 =>
              ((¬ r4 = 0 →
                MD_mixed_86 g h3 u1 (some l2) l3 (some l4) (some l5) 0 K) ∧
              (r4 = 0 →
                K (-103) h3)))))) ∧
        (l4 = 0 →
          K (-101) h1)))))) ∧
  (l6 < 4 →
    (0 ≤ l6 ∧ l6 < 4) ∧
    (0 ≤ l6 ∧ l6 < 4) ∧
    (∀ h5, h5 = mvUpd h 88 l6 (h 81 l6) →
    MD_mixed_26 g h5 u1 l2 l3 l4 l5 (mw (l6 + 1)) K)))) : MD_mixed_26 g h u1 l2 l3 l4 l5 l6 K := by
  refine rc_iload mq125 (mvDec_of cd125 rfl) rfl ?_
  refine rc_iconst mq125 (mvDec_of cd125 rfl) (by decide) ?_
  refine rc_icmp_ge (t := 52) mq125 (mvDec_of cd125 rfl) rfl (fun hc => ?_) (fun hc => ?_)
  · replace H := H.1 hc
    refine rc_aload_n mq125 (mvDec_of cd125 rfl) rfl ?_
    refine rc_iload_n mq125 (mvDec_of cd125 rfl) rfl ?_
    refine rc_callV [mvR 68, mvI l2] [] [some (mvR 68), some (mvI l2), none, none, none] mq125 (mvDec_of cd125 rfl) lk_10_265 mq54 (by decide) rfl rfl (Nat.le_of_ble_eq_true rfl) (Nat.le_of_ble_eq_true rfl) (by decide) rfl mis68 rfl (ri_bind H (fun r2 h1 H => ?_))
    refine rc_if_eq (t := 65) mq125 (mvDec_of cd125 rfl) rfl (fun hc => ?_) (fun hc => ?_)
    · replace H := H.1 hc
      refine rc_bipush mq125 (mvDec_of cd125 rfl) (by decide) ?_
      exact rc_iret mq125 (mvDec_of cd125 rfl) ⟨_, _, rfl, rfl, H⟩
    · replace H := H.2 hc
      refine rc_iload mq125 (mvDec_of cd125 rfl) rfl ?_
      refine rc_if_ne (t := 68) mq125 (mvDec_of cd125 rfl) rfl (fun hc => ?_) (fun hc => ?_)
      · replace H := H.1 hc
        refine rc_iload mq125 (mvDec_of cd125 rfl) rfl ?_
        refine rc_if_eq (t := 80) mq125 (mvDec_of cd125 rfl) rfl (fun hc => ?_) (fun hc => ?_)
        · replace H := H.1 hc
          refine rc_bipush mq125 (mvDec_of cd125 rfl) (by decide) ?_
          exact rc_iret mq125 (mvDec_of cd125 rfl) ⟨_, _, rfl, rfl, H⟩
        · replace H := H.2 hc
          refine rc_aload_n mq125 (mvDec_of cd125 rfl) rfl ?_
          refine rc_callV [mvR 68] [] [some (mvR 68), none, none, none] mq125 (mvDec_of cd125 rfl) lk_10_234 mq55 (by decide) rfl rfl (Nat.le_of_ble_eq_true rfl) (Nat.le_of_ble_eq_true rfl) (by decide) rfl mis68 rfl (ri_bind H (fun r4 h3 H => ?_))
          refine rc_if_ne (t := 83) mq125 (mvDec_of cd125 rfl) rfl (fun hc => ?_) (fun hc => ?_)
          · replace H := H.1 hc
            refine rc_iconst mq125 (mvDec_of cd125 rfl) (by decide) ?_
            refine rc_istore [some (mvR 68), u1.map mvI, some (mvI l2), some (mvI l3), some (mvI l4), some (mvI l5), some (mvI 0)] mq125 (mvDec_of cd125 rfl) rfl ?_
            exact H
          · replace H := H.2 hc
            refine rc_bipush mq125 (mvDec_of cd125 rfl) (by decide) ?_
            exact rc_iret mq125 (mvDec_of cd125 rfl) ⟨_, _, rfl, rfl, H⟩
      · replace H := H.2 hc
        refine rc_bipush mq125 (mvDec_of cd125 rfl) (by decide) ?_
        exact rc_iret mq125 (mvDec_of cd125 rfl) ⟨_, _, rfl, rfl, H⟩
  · replace H := H.2 hc
    refine rc_aload_n mq125 (mvDec_of cd125 rfl) rfl ?_
    refine rc_getR 88 mq125 (mvDec_of cd125 rfl) fl_10_68 mis68 rfl (gr_68_33 hG) (by decide) ?_
    refine rc_iload mq125 (mvDec_of cd125 rfl) rfl ?_
    refine rc_aload_n mq125 (mvDec_of cd125 rfl) rfl ?_
    refine rc_getR 81 mq125 (mvDec_of cd125 rfl) fl_10_46 mis68 rfl (gr_68_26 hG) (by decide) ?_
    refine rc_iload mq125 (mvDec_of cd125 rfl) rfl ?_
    obtain ⟨⟨hb0, hb1⟩, H⟩ := H
    refine rc_iald mq125 (mvDec_of cd125 rfl) mis81 hb0 hb1 ?_
    obtain ⟨⟨hb0, hb1⟩, H⟩ := H
    refine rc_iast mq125 (mvDec_of cd125 rfl) mis88 hb0 hb1 ?_
    refine rc_heap (fun h5 hh => ?_)
    replace H := H h5 hh
    refine rc_iinc [some (mvR 68), u1.map mvI, some (mvI l2), some (mvI l3), some (mvI l4), some (mvI l5), some (mvI (mw (l6 + 1)))] mq125 (mvDec_of cd125 rfl) rfl rfl ?_
    refine rc_goto (t := 26) mq125 (mvDec_of cd125 rfl) rfl ?_
    exact H
theorem MD_mixed_86_wp {sw : Bool} {g : Nat → Nat → Nat} {h : Nat → Int → Int} {u1 : Option Int} {u2 : Option Int} {l3 : Int} {u4 : Option Int} {u5 : Option Int} {l6 : Int} {K : Int → (Nat → Int → Int) → Prop} (hG : Gok sw g)  (H :
  (((h 68 0) ≤ l6 →
    MD_toldNow g h (fun r2 h1 =>
      K r2 h1)) ∧
  (l6 < (h 68 0) →
    (0 ≤ l6 ∧ l6 < 4) ∧
    (0 ≤ l6 ∧ l6 < 4) ∧
    (((h 88 l6) ≤ (h 81 l6) →
      ((¬ 0 = l3 →
        (0 ≤ l6 ∧ l6 < 4) ∧
        (0 ≤ l6 ∧ l6 < 4) ∧
        (∀ h3, h3 = mvUpd h 81 l6 (h 81 l6) →
        MD_mixed_86 g h3 u1 u2 l3 u4 u5 (mw (l6 + 1)) K)) ∧
      (0 = l3 →
        (0 ≤ l6 ∧ l6 < 4) ∧
        (0 ≤ l6 ∧ l6 < 4) ∧
        (∀ h4, h4 = mvUpd h 81 l6 (h 88 l6) →
        MD_mixed_86 g h4 u1 u2 l3 u4 u5 (mw (l6 + 1)) K)))) ∧
    ((h 81 l6) < (h 88 l6) →
      ((¬ 1 = l3 →
        (0 ≤ l6 ∧ l6 < 4) ∧
        (0 ≤ l6 ∧ l6 < 4) ∧
        (∀ h5, h5 = mvUpd h 81 l6 (h 81 l6) →
        MD_mixed_86 g h5 u1 u2 l3 u4 u5 (mw (l6 + 1)) K)) ∧
      (1 = l3 →
        (0 ≤ l6 ∧ l6 < 4) ∧
        (0 ≤ l6 ∧ l6 < 4) ∧
        (∀ h6, h6 = mvUpd h 81 l6 (h 88 l6) →
        MD_mixed_86 g h6 u1 u2 l3 u4 u5 (mw (l6 + 1)) K)))))))) : MD_mixed_86 g h u1 u2 l3 u4 u5 l6 K := by
  refine rc_iload mq125 (mvDec_of cd125 rfl) rfl ?_
  refine rc_aload_n mq125 (mvDec_of cd125 rfl) rfl ?_
  refine rc_getI 0 mq125 (mvDec_of cd125 rfl) fl_10_138 mis68 rfl (by decide) (by decide) ?_
  refine rc_icmp_ge (t := 151) mq125 (mvDec_of cd125 rfl) rfl (fun hc => ?_) (fun hc => ?_)
  · replace H := H.1 hc
    refine rc_aload_n mq125 (mvDec_of cd125 rfl) rfl ?_
    refine rc_callV [mvR 68] [] [some (mvR 68), none, none] mq125 (mvDec_of cd125 rfl) lk_10_200 mq53 (by decide) rfl rfl (Nat.le_of_ble_eq_true rfl) (Nat.le_of_ble_eq_true rfl) (by decide) rfl mis68 rfl (ri_bind H (fun r2 h1 H => ?_))
    exact rc_iret mq125 (mvDec_of cd125 rfl) ⟨_, _, rfl, rfl, H⟩
  · replace H := H.2 hc
    refine rc_aload_n mq125 (mvDec_of cd125 rfl) rfl ?_
    refine rc_getR 81 mq125 (mvDec_of cd125 rfl) fl_10_46 mis68 rfl (gr_68_26 hG) (by decide) ?_
    refine rc_iload mq125 (mvDec_of cd125 rfl) rfl ?_
    refine rc_aload_n mq125 (mvDec_of cd125 rfl) rfl ?_
    refine rc_getR 88 mq125 (mvDec_of cd125 rfl) fl_10_68 mis68 rfl (gr_68_33 hG) (by decide) ?_
    refine rc_iload mq125 (mvDec_of cd125 rfl) rfl ?_
    obtain ⟨⟨hb0, hb1⟩, H⟩ := H
    refine rc_iald mq125 (mvDec_of cd125 rfl) mis88 hb0 hb1 ?_
    refine rc_aload_n mq125 (mvDec_of cd125 rfl) rfl ?_
    refine rc_getR 81 mq125 (mvDec_of cd125 rfl) fl_10_46 mis68 rfl (gr_68_26 hG) (by decide) ?_
    refine rc_iload mq125 (mvDec_of cd125 rfl) rfl ?_
    obtain ⟨⟨hb0, hb1⟩, H⟩ := H
    refine rc_iald mq125 (mvDec_of cd125 rfl) mis81 hb0 hb1 ?_
    refine rc_icmp_le (t := 122) mq125 (mvDec_of cd125 rfl) rfl (fun hc => ?_) (fun hc => ?_)
    · replace H := H.1 hc
      refine rc_iconst mq125 (mvDec_of cd125 rfl) (by decide) ?_
      refine rc_iload_n mq125 (mvDec_of cd125 rfl) rfl ?_
      refine rc_icmp_ne (t := 137) mq125 (mvDec_of cd125 rfl) rfl (fun hc => ?_) (fun hc => ?_)
      · replace H := H.1 hc
        refine rc_aload_n mq125 (mvDec_of cd125 rfl) rfl ?_
        refine rc_getR 81 mq125 (mvDec_of cd125 rfl) fl_10_46 mis68 rfl (gr_68_26 hG) (by decide) ?_
        refine rc_iload mq125 (mvDec_of cd125 rfl) rfl ?_
        obtain ⟨⟨hb0, hb1⟩, H⟩ := H
        refine rc_iald mq125 (mvDec_of cd125 rfl) mis81 hb0 hb1 ?_
        obtain ⟨⟨hb0, hb1⟩, H⟩ := H
        refine rc_iast mq125 (mvDec_of cd125 rfl) mis81 hb0 hb1 ?_
        refine rc_heap (fun h3 hh => ?_)
        replace H := H h3 hh
        refine rc_iinc [some (mvR 68), u1.map mvI, u2.map mvI, some (mvI l3), u4.map mvI, u5.map mvI, some (mvI (mw (l6 + 1)))] mq125 (mvDec_of cd125 rfl) rfl (by cases u5 <;> rfl) ?_
        refine rc_goto (t := 86) mq125 (mvDec_of cd125 rfl) rfl ?_
        exact H
      · replace H := H.2 hc
        refine rc_aload_n mq125 (mvDec_of cd125 rfl) rfl ?_
        refine rc_getR 88 mq125 (mvDec_of cd125 rfl) fl_10_68 mis68 rfl (gr_68_33 hG) (by decide) ?_
        refine rc_iload mq125 (mvDec_of cd125 rfl) rfl ?_
        obtain ⟨⟨hb0, hb1⟩, H⟩ := H
        refine rc_iald mq125 (mvDec_of cd125 rfl) mis88 hb0 hb1 ?_
        refine rc_goto (t := 144) mq125 (mvDec_of cd125 rfl) rfl ?_
        obtain ⟨⟨hb0, hb1⟩, H⟩ := H
        refine rc_iast mq125 (mvDec_of cd125 rfl) mis81 hb0 hb1 ?_
        refine rc_heap (fun h4 hh => ?_)
        replace H := H h4 hh
        refine rc_iinc [some (mvR 68), u1.map mvI, u2.map mvI, some (mvI l3), u4.map mvI, u5.map mvI, some (mvI (mw (l6 + 1)))] mq125 (mvDec_of cd125 rfl) rfl (by cases u5 <;> rfl) ?_
        refine rc_goto (t := 86) mq125 (mvDec_of cd125 rfl) rfl ?_
        exact H
    · replace H := H.2 hc
      refine rc_iconst mq125 (mvDec_of cd125 rfl) (by decide) ?_
      refine rc_goto (t := 123) mq125 (mvDec_of cd125 rfl) rfl ?_
      refine rc_iload_n mq125 (mvDec_of cd125 rfl) rfl ?_
      refine rc_icmp_ne (t := 137) mq125 (mvDec_of cd125 rfl) rfl (fun hc => ?_) (fun hc => ?_)
      · replace H := H.1 hc
        refine rc_aload_n mq125 (mvDec_of cd125 rfl) rfl ?_
        refine rc_getR 81 mq125 (mvDec_of cd125 rfl) fl_10_46 mis68 rfl (gr_68_26 hG) (by decide) ?_
        refine rc_iload mq125 (mvDec_of cd125 rfl) rfl ?_
        obtain ⟨⟨hb0, hb1⟩, H⟩ := H
        refine rc_iald mq125 (mvDec_of cd125 rfl) mis81 hb0 hb1 ?_
        obtain ⟨⟨hb0, hb1⟩, H⟩ := H
        refine rc_iast mq125 (mvDec_of cd125 rfl) mis81 hb0 hb1 ?_
        refine rc_heap (fun h5 hh => ?_)
        replace H := H h5 hh
        refine rc_iinc [some (mvR 68), u1.map mvI, u2.map mvI, some (mvI l3), u4.map mvI, u5.map mvI, some (mvI (mw (l6 + 1)))] mq125 (mvDec_of cd125 rfl) rfl (by cases u5 <;> rfl) ?_
        refine rc_goto (t := 86) mq125 (mvDec_of cd125 rfl) rfl ?_
        exact H
      · replace H := H.2 hc
        refine rc_aload_n mq125 (mvDec_of cd125 rfl) rfl ?_
        refine rc_getR 88 mq125 (mvDec_of cd125 rfl) fl_10_68 mis68 rfl (gr_68_33 hG) (by decide) ?_
        refine rc_iload mq125 (mvDec_of cd125 rfl) rfl ?_
        obtain ⟨⟨hb0, hb1⟩, H⟩ := H
        refine rc_iald mq125 (mvDec_of cd125 rfl) mis88 hb0 hb1 ?_
        refine rc_goto (t := 144) mq125 (mvDec_of cd125 rfl) rfl ?_
        obtain ⟨⟨hb0, hb1⟩, H⟩ := H
        refine rc_iast mq125 (mvDec_of cd125 rfl) mis81 hb0 hb1 ?_
        refine rc_heap (fun h6 hh => ?_)
        replace H := H h6 hh
        refine rc_iinc [some (mvR 68), u1.map mvI, u2.map mvI, some (mvI l3), u4.map mvI, u5.map mvI, some (mvI (mw (l6 + 1)))] mq125 (mvDec_of cd125 rfl) rfl (by cases u5 <;> rfl) ?_
        refine rc_goto (t := 86) mq125 (mvDec_of cd125 rfl) rfl ?_
        exact H
abbrev MD_cutsOf (g : Nat → Nat → Nat) (h : Nat → Int → Int) (x1 : Int) (K : Int → (Nat → Int → Int) → Prop) : Prop := RI 126 0 [some (mvR 68), some (mvI x1), none, none] [] g h K
abbrev MD_cutsOf_4 (g : Nat → Nat → Nat) (h : Nat → Int → Int) (l1 : Int) (l2 : Int) (l3 : Int) (K : Int → (Nat → Int → Int) → Prop) : Prop := RI 126 4 [some (mvR 68), some (mvI l1), some (mvI l2), some (mvI l3)] [] g h K
theorem MD_cutsOf_wp {sw : Bool} {g : Nat → Nat → Nat} {h : Nat → Int → Int} {x1 : Int} {K : Int → (Nat → Int → Int) → Prop} (hG : Gok sw g)  (H :
  MD_cutsOf_4 g h x1 0 0 K) : MD_cutsOf g h x1 K := by
  refine rc_iconst mq126 (mvDec_of cd126 rfl) (by decide) ?_
  refine rc_istore_n [some (mvR 68), some (mvI x1), some (mvI 0), none] mq126 (mvDec_of cd126 rfl) rfl ?_
  refine rc_iconst mq126 (mvDec_of cd126 rfl) (by decide) ?_
  refine rc_istore_n [some (mvR 68), some (mvI x1), some (mvI 0), some (mvI 0)] mq126 (mvDec_of cd126 rfl) rfl ?_
  exact H
theorem MD_cutsOf_4_wp {sw : Bool} {g : Nat → Nat → Nat} {h : Nat → Int → Int} {l1 : Int} {l2 : Int} {l3 : Int} {K : Int → (Nat → Int → Int) → Prop} (hG : Gok sw g)  (H :
  MD_cutsAll g h (fun r2 h1 =>
    ((r2 ≤ l3 →
      K l2 h1) ∧
    (l3 < r2 →
      (0 ≤ l3 ∧ l3 < 640) ∧
      (((h1 82 l3) = 0 →
        (∀ v3, v3 = (mw (l2 + 0)) →
        MD_cutsOf_4 g h1 l1 v3 (mw (l3 + 1)) K)) ∧
      (¬ (h1 82 l3) = 0 →
        (0 ≤ l3 ∧ l3 < 640) ∧
        ((¬ (h1 87 l3) = l1 →
          (∀ v4, v4 = (mw (l2 + 0)) →
          MD_cutsOf_4 g h1 l1 v4 (mw (l3 + 1)) K)) ∧
        ((h1 87 l3) = l1 →
          (∀ v5, v5 = (mw (l2 + 1)) →
          MD_cutsOf_4 g h1 l1 v5 (mw (l3 + 1)) K))))))))) : MD_cutsOf_4 g h l1 l2 l3 K := by
  refine rc_iload_n mq126 (mvDec_of cd126 rfl) rfl ?_
  refine rc_aload_n mq126 (mvDec_of cd126 rfl) rfl ?_
  refine rc_callV [mvR 68] [mvI l3] [some (mvR 68), none, none] mq126 (mvDec_of cd126 rfl) lk_10_231 mq49 (by decide) rfl rfl (Nat.le_of_ble_eq_true rfl) (Nat.le_of_ble_eq_true rfl) (by decide) rfl mis68 rfl (ri_bind H (fun r2 h1 H => ?_))
  refine rc_icmp_ge (t := 45) mq126 (mvDec_of cd126 rfl) rfl (fun hc => ?_) (fun hc => ?_)
  · replace H := H.1 hc
    refine rc_iload_n mq126 (mvDec_of cd126 rfl) rfl ?_
    exact rc_iret mq126 (mvDec_of cd126 rfl) ⟨_, _, rfl, rfl, H⟩
  · replace H := H.2 hc
    refine rc_iload_n mq126 (mvDec_of cd126 rfl) rfl ?_
    refine rc_aload_n mq126 (mvDec_of cd126 rfl) rfl ?_
    refine rc_getR 82 mq126 (mvDec_of cd126 rfl) fl_10_49 mis68 rfl (gr_68_27 hG) (by decide) ?_
    refine rc_iload_n mq126 (mvDec_of cd126 rfl) rfl ?_
    obtain ⟨⟨hb0, hb1⟩, H⟩ := H
    refine rc_bald mq126 (mvDec_of cd126 rfl) mis82 hb0 hb1 ?_
    refine rc_if_eq (t := 36) mq126 (mvDec_of cd126 rfl) rfl (fun hc => ?_) (fun hc => ?_)
    · replace H := H.1 hc
      refine rc_iconst mq126 (mvDec_of cd126 rfl) (by decide) ?_
      refine rc_iadd mq126 (mvDec_of cd126 rfl) ?_
      refine rc_top (fun v3 hv => ?_)
      replace H := H v3 hv
      refine rc_istore_n [some (mvR 68), some (mvI l1), some (mvI v3), some (mvI l3)] mq126 (mvDec_of cd126 rfl) rfl ?_
      refine rc_iinc [some (mvR 68), some (mvI l1), some (mvI v3), some (mvI (mw (l3 + 1)))] mq126 (mvDec_of cd126 rfl) rfl rfl ?_
      refine rc_goto (t := 4) mq126 (mvDec_of cd126 rfl) rfl ?_
      exact H
    · replace H := H.2 hc
      refine rc_aload_n mq126 (mvDec_of cd126 rfl) rfl ?_
      refine rc_getR 87 mq126 (mvDec_of cd126 rfl) fl_10_65 mis68 rfl (gr_68_32 hG) (by decide) ?_
      refine rc_iload_n mq126 (mvDec_of cd126 rfl) rfl ?_
      obtain ⟨⟨hb0, hb1⟩, H⟩ := H
      refine rc_iald mq126 (mvDec_of cd126 rfl) mis87 hb0 hb1 ?_
      refine rc_iload_n mq126 (mvDec_of cd126 rfl) rfl ?_
      refine rc_icmp_ne (t := 36) mq126 (mvDec_of cd126 rfl) rfl (fun hc => ?_) (fun hc => ?_)
      · replace H := H.1 hc
        refine rc_iconst mq126 (mvDec_of cd126 rfl) (by decide) ?_
        refine rc_iadd mq126 (mvDec_of cd126 rfl) ?_
        refine rc_top (fun v4 hv => ?_)
        replace H := H v4 hv
        refine rc_istore_n [some (mvR 68), some (mvI l1), some (mvI v4), some (mvI l3)] mq126 (mvDec_of cd126 rfl) rfl ?_
        refine rc_iinc [some (mvR 68), some (mvI l1), some (mvI v4), some (mvI (mw (l3 + 1)))] mq126 (mvDec_of cd126 rfl) rfl rfl ?_
        refine rc_goto (t := 4) mq126 (mvDec_of cd126 rfl) rfl ?_
        exact H
      · replace H := H.2 hc
        refine rc_iconst mq126 (mvDec_of cd126 rfl) (by decide) ?_
        refine rc_goto (t := 37) mq126 (mvDec_of cd126 rfl) rfl ?_
        refine rc_iadd mq126 (mvDec_of cd126 rfl) ?_
        refine rc_top (fun v5 hv => ?_)
        replace H := H v5 hv
        refine rc_istore_n [some (mvR 68), some (mvI l1), some (mvI v5), some (mvI l3)] mq126 (mvDec_of cd126 rfl) rfl ?_
        refine rc_iinc [some (mvR 68), some (mvI l1), some (mvI v5), some (mvI (mw (l3 + 1)))] mq126 (mvDec_of cd126 rfl) rfl rfl ?_
        refine rc_goto (t := 4) mq126 (mvDec_of cd126 rfl) rfl ?_
        exact H
abbrev MD_cutsMany (g : Nat → Nat → Nat) (h : Nat → Int → Int)  (K : Int → (Nat → Int → Int) → Prop) : Prop := RI 127 0 [some (mvR 68), none, none] [] g h K
abbrev MD_cutsMany_4 (g : Nat → Nat → Nat) (h : Nat → Int → Int) (l1 : Int) (l2 : Int) (K : Int → (Nat → Int → Int) → Prop) : Prop := RI 127 4 [some (mvR 68), some (mvI l1), some (mvI l2)] [] g h K
theorem MD_cutsMany_wp {sw : Bool} {g : Nat → Nat → Nat} {h : Nat → Int → Int}  {K : Int → (Nat → Int → Int) → Prop} (hG : Gok sw g)  (H :
  MD_cutsMany_4 g h 0 0 K) : MD_cutsMany g h  K := by
  refine rc_iconst mq127 (mvDec_of cd127 rfl) (by decide) ?_
  refine rc_istore_n [some (mvR 68), some (mvI 0), none] mq127 (mvDec_of cd127 rfl) rfl ?_
  refine rc_iconst mq127 (mvDec_of cd127 rfl) (by decide) ?_
  refine rc_istore_n [some (mvR 68), some (mvI 0), some (mvI 0)] mq127 (mvDec_of cd127 rfl) rfl ?_
  exact H
theorem MD_cutsMany_4_wp {sw : Bool} {g : Nat → Nat → Nat} {h : Nat → Int → Int} {l1 : Int} {l2 : Int} {K : Int → (Nat → Int → Int) → Prop} (hG : Gok sw g)  (H :
  MD_cutsAll g h (fun r2 h1 =>
    ((r2 ≤ l2 →
      K l1 h1) ∧
    (l2 < r2 →
      (0 ≤ l2 ∧ l2 < 640) ∧
      (((h1 82 l2) = 0 →
        (∀ v3, v3 = (mw (l1 + 0)) →
        MD_cutsMany_4 g h1 v3 (mw (l2 + 1)) K)) ∧
      (¬ (h1 82 l2) = 0 →
        (∀ v4, v4 = (mw (l1 + 1)) →
        MD_cutsMany_4 g h1 v4 (mw (l2 + 1)) K))))))) : MD_cutsMany_4 g h l1 l2 K := by
  refine rc_iload_n mq127 (mvDec_of cd127 rfl) rfl ?_
  refine rc_aload_n mq127 (mvDec_of cd127 rfl) rfl ?_
  refine rc_callV [mvR 68] [mvI l2] [some (mvR 68), none, none] mq127 (mvDec_of cd127 rfl) lk_10_231 mq49 (by decide) rfl rfl (Nat.le_of_ble_eq_true rfl) (Nat.le_of_ble_eq_true rfl) (by decide) rfl mis68 rfl (ri_bind H (fun r2 h1 H => ?_))
  refine rc_icmp_ge (t := 35) mq127 (mvDec_of cd127 rfl) rfl (fun hc => ?_) (fun hc => ?_)
  · replace H := H.1 hc
    refine rc_iload_n mq127 (mvDec_of cd127 rfl) rfl ?_
    exact rc_iret mq127 (mvDec_of cd127 rfl) ⟨_, _, rfl, rfl, H⟩
  · replace H := H.2 hc
    refine rc_iload_n mq127 (mvDec_of cd127 rfl) rfl ?_
    refine rc_aload_n mq127 (mvDec_of cd127 rfl) rfl ?_
    refine rc_getR 82 mq127 (mvDec_of cd127 rfl) fl_10_49 mis68 rfl (gr_68_27 hG) (by decide) ?_
    refine rc_iload_n mq127 (mvDec_of cd127 rfl) rfl ?_
    obtain ⟨⟨hb0, hb1⟩, H⟩ := H
    refine rc_bald mq127 (mvDec_of cd127 rfl) mis82 hb0 hb1 ?_
    refine rc_if_eq (t := 26) mq127 (mvDec_of cd127 rfl) rfl (fun hc => ?_) (fun hc => ?_)
    · replace H := H.1 hc
      refine rc_iconst mq127 (mvDec_of cd127 rfl) (by decide) ?_
      refine rc_iadd mq127 (mvDec_of cd127 rfl) ?_
      refine rc_top (fun v3 hv => ?_)
      replace H := H v3 hv
      refine rc_istore_n [some (mvR 68), some (mvI v3), some (mvI l2)] mq127 (mvDec_of cd127 rfl) rfl ?_
      refine rc_iinc [some (mvR 68), some (mvI v3), some (mvI (mw (l2 + 1)))] mq127 (mvDec_of cd127 rfl) rfl rfl ?_
      refine rc_goto (t := 4) mq127 (mvDec_of cd127 rfl) rfl ?_
      exact H
    · replace H := H.2 hc
      refine rc_iconst mq127 (mvDec_of cd127 rfl) (by decide) ?_
      refine rc_goto (t := 27) mq127 (mvDec_of cd127 rfl) rfl ?_
      refine rc_iadd mq127 (mvDec_of cd127 rfl) ?_
      refine rc_top (fun v4 hv => ?_)
      replace H := H v4 hv
      refine rc_istore_n [some (mvR 68), some (mvI v4), some (mvI l2)] mq127 (mvDec_of cd127 rfl) rfl ?_
      refine rc_iinc [some (mvR 68), some (mvI v4), some (mvI (mw (l2 + 1)))] mq127 (mvDec_of cd127 rfl) rfl rfl ?_
      refine rc_goto (t := 4) mq127 (mvDec_of cd127 rfl) rfl ?_
      exact H
abbrev MD_cutAt (g : Nat → Nat → Nat) (h : Nat → Int → Int) (x1 : Int) (x2 : Int) (K : Int → (Nat → Int → Int) → Prop) : Prop := RI 128 0 [some (mvR 68), some (mvI x1), some (mvI x2), none, none] [] g h K
abbrev MD_cutAt_5 (g : Nat → Nat → Nat) (h : Nat → Int → Int) (l1 : Int) (l2 : Int) (l3 : Int) (l4 : Int) (K : Int → (Nat → Int → Int) → Prop) : Prop := RI 128 5 [some (mvR 68), some (mvI l1), some (mvI l2), some (mvI l3), some (mvI l4)] [] g h K
theorem MD_cutAt_wp {sw : Bool} {g : Nat → Nat → Nat} {h : Nat → Int → Int} {x1 : Int} {x2 : Int} {K : Int → (Nat → Int → Int) → Prop} (hG : Gok sw g)  (H :
  MD_cutAt_5 g h x1 x2 x2 0 K) : MD_cutAt g h x1 x2 K := by
  refine rc_iload_n mq128 (mvDec_of cd128 rfl) rfl ?_
  refine rc_istore_n [some (mvR 68), some (mvI x1), some (mvI x2), some (mvI x2), none] mq128 (mvDec_of cd128 rfl) rfl ?_
  refine rc_iconst mq128 (mvDec_of cd128 rfl) (by decide) ?_
  refine rc_istore [some (mvR 68), some (mvI x1), some (mvI x2), some (mvI x2), some (mvI 0)] mq128 (mvDec_of cd128 rfl) rfl ?_
  exact H
theorem MD_cutAt_5_wp {sw : Bool} {g : Nat → Nat → Nat} {h : Nat → Int → Int} {l1 : Int} {l2 : Int} {l3 : Int} {l4 : Int} {K : Int → (Nat → Int → Int) → Prop} (hG : Gok sw g)  (H :
  MD_cutsAll g h (fun r2 h1 =>
    ((r2 ≤ l4 →
      K (-1) h1) ∧
    (l4 < r2 →
      ((l2 < 0 →
        K (-1) h1) ∧
      (0 ≤ l2 →
        (0 ≤ l4 ∧ l4 < 640) ∧
        (((h1 82 l4) = 0 →
          MD_cutAt_5 g h1 l1 l2 l3 (mw (l4 + 1)) K) ∧
        (¬ (h1 82 l4) = 0 →
          (0 ≤ l4 ∧ l4 < 640) ∧
          ((¬ (h1 87 l4) = l1 →
            MD_cutAt_5 g h1 l1 l2 l3 (mw (l4 + 1)) K) ∧
          ((h1 87 l4) = l1 →
            ((¬ l3 = 0 →
              MD_cutAt_5 g h1 l1 l2 (mw (l3 + (-1))) (mw (l4 + 1)) K) ∧
            (l3 = 0 →
              K l4 h1)))))))))))) : MD_cutAt_5 g h l1 l2 l3 l4 K := by
  refine rc_iload mq128 (mvDec_of cd128 rfl) rfl ?_
  refine rc_aload_n mq128 (mvDec_of cd128 rfl) rfl ?_
  refine rc_callV [mvR 68] [mvI l4] [some (mvR 68), none, none] mq128 (mvDec_of cd128 rfl) lk_10_231 mq49 (by decide) rfl rfl (Nat.le_of_ble_eq_true rfl) (Nat.le_of_ble_eq_true rfl) (by decide) rfl mis68 rfl (ri_bind H (fun r2 h1 H => ?_))
  refine rc_icmp_ge (t := 55) mq128 (mvDec_of cd128 rfl) rfl (fun hc => ?_) (fun hc => ?_)
  · replace H := H.1 hc
    refine rc_iconst mq128 (mvDec_of cd128 rfl) (by decide) ?_
    exact rc_iret mq128 (mvDec_of cd128 rfl) ⟨_, _, rfl, rfl, H⟩
  · replace H := H.2 hc
    refine rc_iload_n mq128 (mvDec_of cd128 rfl) rfl ?_
    refine rc_if_lt (t := 55) mq128 (mvDec_of cd128 rfl) rfl (fun hc => ?_) (fun hc => ?_)
    · replace H := H.1 hc
      refine rc_iconst mq128 (mvDec_of cd128 rfl) (by decide) ?_
      exact rc_iret mq128 (mvDec_of cd128 rfl) ⟨_, _, rfl, rfl, H⟩
    · replace H := H.2 hc
      refine rc_aload_n mq128 (mvDec_of cd128 rfl) rfl ?_
      refine rc_getR 82 mq128 (mvDec_of cd128 rfl) fl_10_49 mis68 rfl (gr_68_27 hG) (by decide) ?_
      refine rc_iload mq128 (mvDec_of cd128 rfl) rfl ?_
      obtain ⟨⟨hb0, hb1⟩, H⟩ := H
      refine rc_bald mq128 (mvDec_of cd128 rfl) mis82 hb0 hb1 ?_
      refine rc_if_eq (t := 49) mq128 (mvDec_of cd128 rfl) rfl (fun hc => ?_) (fun hc => ?_)
      · replace H := H.1 hc
        refine rc_iinc [some (mvR 68), some (mvI l1), some (mvI l2), some (mvI l3), some (mvI (mw (l4 + 1)))] mq128 (mvDec_of cd128 rfl) rfl rfl ?_
        refine rc_goto (t := 5) mq128 (mvDec_of cd128 rfl) rfl ?_
        exact H
      · replace H := H.2 hc
        refine rc_aload_n mq128 (mvDec_of cd128 rfl) rfl ?_
        refine rc_getR 87 mq128 (mvDec_of cd128 rfl) fl_10_65 mis68 rfl (gr_68_32 hG) (by decide) ?_
        refine rc_iload mq128 (mvDec_of cd128 rfl) rfl ?_
        obtain ⟨⟨hb0, hb1⟩, H⟩ := H
        refine rc_iald mq128 (mvDec_of cd128 rfl) mis87 hb0 hb1 ?_
        refine rc_iload_n mq128 (mvDec_of cd128 rfl) rfl ?_
        refine rc_icmp_ne (t := 49) mq128 (mvDec_of cd128 rfl) rfl (fun hc => ?_) (fun hc => ?_)
        · replace H := H.1 hc
          refine rc_iinc [some (mvR 68), some (mvI l1), some (mvI l2), some (mvI l3), some (mvI (mw (l4 + 1)))] mq128 (mvDec_of cd128 rfl) rfl rfl ?_
          refine rc_goto (t := 5) mq128 (mvDec_of cd128 rfl) rfl ?_
          exact H
        · replace H := H.2 hc
          refine rc_iload_n mq128 (mvDec_of cd128 rfl) rfl ?_
          refine rc_if_ne (t := 46) mq128 (mvDec_of cd128 rfl) rfl (fun hc => ?_) (fun hc => ?_)
          · replace H := H.1 hc
            refine rc_iinc [some (mvR 68), some (mvI l1), some (mvI l2), some (mvI (mw (l3 + (-1)))), some (mvI l4)] mq128 (mvDec_of cd128 rfl) rfl rfl ?_
            refine rc_iinc [some (mvR 68), some (mvI l1), some (mvI l2), some (mvI (mw (l3 + (-1)))), some (mvI (mw (l4 + 1)))] mq128 (mvDec_of cd128 rfl) rfl rfl ?_
            refine rc_goto (t := 5) mq128 (mvDec_of cd128 rfl) rfl ?_
            exact H
          · replace H := H.2 hc
            refine rc_iload mq128 (mvDec_of cd128 rfl) rfl ?_
            exact rc_iret mq128 (mvDec_of cd128 rfl) ⟨_, _, rfl, rfl, H⟩
abbrev MD_wish (g : Nat → Nat → Nat) (h : Nat → Int → Int) (x1 : Int) (x2 : Int) (K : Int → (Nat → Int → Int) → Prop) : Prop := RI 129 0 [some (mvR 68), some (mvI x1), some (mvI x2), none] [] g h K
theorem MD_wish_wp {sw : Bool} {g : Nat → Nat → Nat} {h : Nat → Int → Int} {x1 : Int} {x2 : Int} {K : Int → (Nat → Int → Int) → Prop} (hG : Gok sw g)  (H :
  ((x1 < 0 →
    K (-102) h) ∧
  (0 ≤ x1 →
    ((3 < x1 →
      K (-102) h) ∧
    (x1 ≤ 3 →
      ((x2 < 0 →
        K (-102) h) ∧
      (0 ≤ x2 →
        ((36 < x2 →
          K (-102) h) ∧
        (x2 ≤ 36 →
          (∀ v1, v1 = (h 68 7) →
          (∀ h2, h2 = mvUpd h 68 7 x1 →
          (∀ h3, h3 = mvUpd h2 68 8 x2 →
          K v1 h3)))))))))))) : MD_wish g h x1 x2 K := by
  refine rc_iload_n mq129 (mvDec_of cd129 rfl) rfl ?_
  refine rc_iconst mq129 (mvDec_of cd129 rfl) (by decide) ?_
  refine rc_iconst mq129 (mvDec_of cd129 rfl) (by decide) ?_
  refine rc_callS [mvI x1, mvI 0, mvI 3] [] [some (mvI x1), some (mvI 0), some (mvI 3)] mq129 (mvDec_of cd129 rfl) lk_10_95 mq38 (by decide) rfl rfl (Nat.le_of_ble_eq_true rfl) (Nat.le_of_ble_eq_true rfl) (by decide) rfl ?_
  refine rc_iload_n mq38 (mvDec_of cd38 rfl) rfl ?_
  refine rc_iload_n mq38 (mvDec_of cd38 rfl) rfl ?_
  refine rc_icmp_lt (t := 14) mq38 (mvDec_of cd38 rfl) rfl (fun hc => ?_) (fun hc => ?_)
  · replace H := H.1 hc
    refine rc_iconst mq38 (mvDec_of cd38 rfl) (by decide) ?_
    refine rc_zret mq38 (mvDec_of cd38 rfl) (Or.inl rfl) ?_
    show Rch 129 6 [some (mvR 68), some (mvI x1), some (mvI x2), none] [mvI 0] (97, g, h) _
    refine rc_ifT (t := 19) mq129 (mvDec_of cd129 rfl) rfl rfl ?_
    refine rc_bipush mq129 (mvDec_of cd129 rfl) (by decide) ?_
    exact rc_iret mq129 (mvDec_of cd129 rfl) ⟨_, _, rfl, rfl, H⟩
  · replace H := H.2 hc
    refine rc_iload_n mq38 (mvDec_of cd38 rfl) rfl ?_
    refine rc_iload_n mq38 (mvDec_of cd38 rfl) rfl ?_
    refine rc_icmp_gt (t := 14) mq38 (mvDec_of cd38 rfl) rfl (fun hc => ?_) (fun hc => ?_)
    · replace H := H.1 hc
      refine rc_iconst mq38 (mvDec_of cd38 rfl) (by decide) ?_
      refine rc_zret mq38 (mvDec_of cd38 rfl) (Or.inl rfl) ?_
      show Rch 129 6 [some (mvR 68), some (mvI x1), some (mvI x2), none] [mvI 0] (97, g, h) _
      refine rc_ifT (t := 19) mq129 (mvDec_of cd129 rfl) rfl rfl ?_
      refine rc_bipush mq129 (mvDec_of cd129 rfl) (by decide) ?_
      exact rc_iret mq129 (mvDec_of cd129 rfl) ⟨_, _, rfl, rfl, H⟩
    · replace H := H.2 hc
      refine rc_iconst mq38 (mvDec_of cd38 rfl) (by decide) ?_
      refine rc_goto (t := 15) mq38 (mvDec_of cd38 rfl) rfl ?_
      refine rc_zret mq38 (mvDec_of cd38 rfl) (Or.inr rfl) ?_
      show Rch 129 6 [some (mvR 68), some (mvI x1), some (mvI x2), none] [mvI 1] (97, g, h) _
      refine rc_ifF (t := 19) mq129 (mvDec_of cd129 rfl) rfl rfl ?_
      refine rc_iload_n mq129 (mvDec_of cd129 rfl) rfl ?_
      refine rc_iconst mq129 (mvDec_of cd129 rfl) (by decide) ?_
      refine rc_bipush mq129 (mvDec_of cd129 rfl) (by decide) ?_
      refine rc_callS [mvI x2, mvI 0, mvI 36] [] [some (mvI x2), some (mvI 0), some (mvI 36)] mq129 (mvDec_of cd129 rfl) lk_10_95 mq38 (by decide) rfl rfl (Nat.le_of_ble_eq_true rfl) (Nat.le_of_ble_eq_true rfl) (by decide) rfl ?_
      refine rc_iload_n mq38 (mvDec_of cd38 rfl) rfl ?_
      refine rc_iload_n mq38 (mvDec_of cd38 rfl) rfl ?_
      refine rc_icmp_lt (t := 14) mq38 (mvDec_of cd38 rfl) rfl (fun hc => ?_) (fun hc => ?_)
      · replace H := H.1 hc
        refine rc_iconst mq38 (mvDec_of cd38 rfl) (by decide) ?_
        refine rc_zret mq38 (mvDec_of cd38 rfl) (Or.inl rfl) ?_
        show Rch 129 16 [some (mvR 68), some (mvI x1), some (mvI x2), none] [mvI 0] (97, g, h) _
        refine rc_ifF (t := 22) mq129 (mvDec_of cd129 rfl) rfl rfl ?_
        refine rc_bipush mq129 (mvDec_of cd129 rfl) (by decide) ?_
        exact rc_iret mq129 (mvDec_of cd129 rfl) ⟨_, _, rfl, rfl, H⟩
      · replace H := H.2 hc
        refine rc_iload_n mq38 (mvDec_of cd38 rfl) rfl ?_
        refine rc_iload_n mq38 (mvDec_of cd38 rfl) rfl ?_
        refine rc_icmp_gt (t := 14) mq38 (mvDec_of cd38 rfl) rfl (fun hc => ?_) (fun hc => ?_)
        · replace H := H.1 hc
          refine rc_iconst mq38 (mvDec_of cd38 rfl) (by decide) ?_
          refine rc_zret mq38 (mvDec_of cd38 rfl) (Or.inl rfl) ?_
          show Rch 129 16 [some (mvR 68), some (mvI x1), some (mvI x2), none] [mvI 0] (97, g, h) _
          refine rc_ifF (t := 22) mq129 (mvDec_of cd129 rfl) rfl rfl ?_
          refine rc_bipush mq129 (mvDec_of cd129 rfl) (by decide) ?_
          exact rc_iret mq129 (mvDec_of cd129 rfl) ⟨_, _, rfl, rfl, H⟩
        · replace H := H.2 hc
          refine rc_iconst mq38 (mvDec_of cd38 rfl) (by decide) ?_
          refine rc_goto (t := 15) mq38 (mvDec_of cd38 rfl) rfl ?_
          refine rc_zret mq38 (mvDec_of cd38 rfl) (Or.inr rfl) ?_
          show Rch 129 16 [some (mvR 68), some (mvI x1), some (mvI x2), none] [mvI 1] (97, g, h) _
          refine rc_ifT (t := 22) mq129 (mvDec_of cd129 rfl) rfl rfl ?_
          refine rc_aload_n mq129 (mvDec_of cd129 rfl) rfl ?_
          refine rc_getI 7 mq129 (mvDec_of cd129 rfl) fl_10_213 mis68 rfl (by decide) (by decide) ?_
          refine rc_top (fun v1 hv => ?_)
          replace H := H v1 hv
          refine rc_istore_n [some (mvR 68), some (mvI x1), some (mvI x2), some (mvI v1)] mq129 (mvDec_of cd129 rfl) rfl ?_
          refine rc_aload_n mq129 (mvDec_of cd129 rfl) rfl ?_
          refine rc_iload_n mq129 (mvDec_of cd129 rfl) rfl ?_
          refine rc_putI 7 mq129 (mvDec_of cd129 rfl) fl_10_213 mis68 rfl (fun z => absurd z (by decide)) (Or.inl rfl) ?_
          refine rc_heap (fun h2 hh => ?_)
          replace H := H h2 hh
          refine rc_aload_n mq129 (mvDec_of cd129 rfl) rfl ?_
          refine rc_iload_n mq129 (mvDec_of cd129 rfl) rfl ?_
          refine rc_putI 8 mq129 (mvDec_of cd129 rfl) fl_10_222 mis68 rfl (fun z => absurd z (by decide)) (Or.inl rfl) ?_
          refine rc_heap (fun h3 hh => ?_)
          replace H := H h3 hh
          refine rc_iload_n mq129 (mvDec_of cd129 rfl) rfl ?_
          exact rc_iret mq129 (mvDec_of cd129 rfl) ⟨_, _, rfl, rfl, H⟩
abbrev MD_heldMany (g : Nat → Nat → Nat) (h : Nat → Int → Int)  (K : Int → (Nat → Int → Int) → Prop) : Prop := RI 130 0 [some (mvR 68), none, none] [] g h K
abbrev MD_heldMany_4 (g : Nat → Nat → Nat) (h : Nat → Int → Int) (l1 : Int) (l2 : Int) (K : Int → (Nat → Int → Int) → Prop) : Prop := RI 130 4 [some (mvR 68), some (mvI l1), some (mvI l2)] [] g h K
theorem MD_heldMany_wp {sw : Bool} {g : Nat → Nat → Nat} {h : Nat → Int → Int}  {K : Int → (Nat → Int → Int) → Prop} (hG : Gok sw g)  (H :
  MD_heldMany_4 g h 0 0 K) : MD_heldMany g h  K := by
  refine rc_iconst mq130 (mvDec_of cd130 rfl) (by decide) ?_
  refine rc_istore_n [some (mvR 68), some (mvI 0), none] mq130 (mvDec_of cd130 rfl) rfl ?_
  refine rc_iconst mq130 (mvDec_of cd130 rfl) (by decide) ?_
  refine rc_istore_n [some (mvR 68), some (mvI 0), some (mvI 0)] mq130 (mvDec_of cd130 rfl) rfl ?_
  exact H
theorem MD_heldMany_4_wp {sw : Bool} {g : Nat → Nat → Nat} {h : Nat → Int → Int} {l1 : Int} {l2 : Int} {K : Int → (Nat → Int → Int) → Prop} (hG : Gok sw g)  (H :
  MD_cutsAll g h (fun r2 h1 =>
    ((r2 ≤ l2 →
      K l1 h1) ∧
    (l2 < r2 →
      (0 ≤ l2 ∧ l2 < 640) ∧
      (((h1 83 l2) = 0 →
        (∀ v3, v3 = (mw (l1 + 0)) →
        MD_heldMany_4 g h1 v3 (mw (l2 + 1)) K)) ∧
      (¬ (h1 83 l2) = 0 →
        (∀ v4, v4 = (mw (l1 + 1)) →
        MD_heldMany_4 g h1 v4 (mw (l2 + 1)) K))))))) : MD_heldMany_4 g h l1 l2 K := by
  refine rc_iload_n mq130 (mvDec_of cd130 rfl) rfl ?_
  refine rc_aload_n mq130 (mvDec_of cd130 rfl) rfl ?_
  refine rc_callV [mvR 68] [mvI l2] [some (mvR 68), none, none] mq130 (mvDec_of cd130 rfl) lk_10_231 mq49 (by decide) rfl rfl (Nat.le_of_ble_eq_true rfl) (Nat.le_of_ble_eq_true rfl) (by decide) rfl mis68 rfl (ri_bind H (fun r2 h1 H => ?_))
  refine rc_icmp_ge (t := 35) mq130 (mvDec_of cd130 rfl) rfl (fun hc => ?_) (fun hc => ?_)
  · replace H := H.1 hc
    refine rc_iload_n mq130 (mvDec_of cd130 rfl) rfl ?_
    exact rc_iret mq130 (mvDec_of cd130 rfl) ⟨_, _, rfl, rfl, H⟩
  · replace H := H.2 hc
    refine rc_iload_n mq130 (mvDec_of cd130 rfl) rfl ?_
    refine rc_aload_n mq130 (mvDec_of cd130 rfl) rfl ?_
    refine rc_getR 83 mq130 (mvDec_of cd130 rfl) fl_10_53 mis68 rfl (gr_68_28 hG) (by decide) ?_
    refine rc_iload_n mq130 (mvDec_of cd130 rfl) rfl ?_
    obtain ⟨⟨hb0, hb1⟩, H⟩ := H
    refine rc_bald mq130 (mvDec_of cd130 rfl) mis83 hb0 hb1 ?_
    refine rc_if_eq (t := 26) mq130 (mvDec_of cd130 rfl) rfl (fun hc => ?_) (fun hc => ?_)
    · replace H := H.1 hc
      refine rc_iconst mq130 (mvDec_of cd130 rfl) (by decide) ?_
      refine rc_iadd mq130 (mvDec_of cd130 rfl) ?_
      refine rc_top (fun v3 hv => ?_)
      replace H := H v3 hv
      refine rc_istore_n [some (mvR 68), some (mvI v3), some (mvI l2)] mq130 (mvDec_of cd130 rfl) rfl ?_
      refine rc_iinc [some (mvR 68), some (mvI v3), some (mvI (mw (l2 + 1)))] mq130 (mvDec_of cd130 rfl) rfl rfl ?_
      refine rc_goto (t := 4) mq130 (mvDec_of cd130 rfl) rfl ?_
      exact H
    · replace H := H.2 hc
      refine rc_iconst mq130 (mvDec_of cd130 rfl) (by decide) ?_
      refine rc_goto (t := 27) mq130 (mvDec_of cd130 rfl) rfl ?_
      refine rc_iadd mq130 (mvDec_of cd130 rfl) ?_
      refine rc_top (fun v4 hv => ?_)
      replace H := H v4 hv
      refine rc_istore_n [some (mvR 68), some (mvI v4), some (mvI l2)] mq130 (mvDec_of cd130 rfl) rfl ?_
      refine rc_iinc [some (mvR 68), some (mvI v4), some (mvI (mw (l2 + 1)))] mq130 (mvDec_of cd130 rfl) rfl rfl ?_
      refine rc_goto (t := 4) mq130 (mvDec_of cd130 rfl) rfl ?_
      exact H
abbrev MD_isOverlap (g : Nat → Nat → Nat) (h : Nat → Int → Int)  (K : Int → (Nat → Int → Int) → Prop) : Prop := RI 132 0 [some (mvR 68), none, none, none, none, none] [] g h K
abbrev MD_isOverlap_4 (g : Nat → Nat → Nat) (h : Nat → Int → Int) (l1 : Int) (l2 : Int) (u3 : Option Int) (u4 : Option Int) (u5 : Option Int) (K : Int → (Nat → Int → Int) → Prop) : Prop := RI 132 4 [some (mvR 68), some (mvI l1), some (mvI l2), u3.map mvI, u4.map mvI, u5.map mvI] [] g h K
abbrev MD_isOverlap_75 (g : Nat → Nat → Nat) (h : Nat → Int → Int) (l1 : Int) (l2 : Int) (l3 : Int) (l4 : Int) (l5 : Int) (K : Int → (Nat → Int → Int) → Prop) : Prop := RI 132 75 [some (mvR 68), some (mvI l1), some (mvI l2), some (mvI l3), some (mvI l4), some (mvI l5)] [] g h K
theorem MD_isOverlap_wp {sw : Bool} {g : Nat → Nat → Nat} {h : Nat → Int → Int}  {K : Int → (Nat → Int → Int) → Prop} (hG : Gok sw g)  (H :
  MD_isOverlap_4 g h 1 0 none none none K) : MD_isOverlap g h  K := by
  refine rc_iconst mq132 (mvDec_of cd132 rfl) (by decide) ?_
  refine rc_istore_n [some (mvR 68), some (mvI 1), none, none, none, none] mq132 (mvDec_of cd132 rfl) rfl ?_
  refine rc_iconst mq132 (mvDec_of cd132 rfl) (by decide) ?_
  refine rc_istore_n [some (mvR 68), some (mvI 1), some (mvI 0), none, none, none] mq132 (mvDec_of cd132 rfl) rfl ?_
  exact H
theorem MD_isOverlap_4_wp {sw : Bool} {g : Nat → Nat → Nat} {h : Nat → Int → Int} {l1 : Int} {l2 : Int} {u3 : Option Int} {u4 : Option Int} {u5 : Option Int} {K : Int → (Nat → Int → Int) → Prop} (hG : Gok sw g)  (H :
  ((16 ≤ l2 →
    (l1 = 0 ∨ l1 = 1) ∧ K l1 h) ∧
  (l2 < 16 →
    (∀ v1, v1 = (mw (l2.tdiv 4)) →
    (∀ v2, v2 = (l2.tmod 4) →
    ((v1 = v2 →
      MD_isOverlap_75 g h l1 l2 v1 v2 0 K) ∧
    (¬ v1 = v2 →
      (((h 68 0) ≤ v1 →
        MD_isOverlap_75 g h l1 l2 v1 v2 0 K) ∧
      (v1 < (h 68 0) →
        (((h 68 0) ≤ v2 →
          MD_isOverlap_75 g h l1 l2 v1 v2 0 K) ∧
        (v2 < (h 68 0) →
          (0 ≤ v1 ∧ v1 < 4) ∧
          (((h 89 v1) ≤ 0 →
            MD_isOverlap_75 g h l1 l2 v1 v2 0 K) ∧
          (0 < (h 89 v1) →
            (0 ≤ v2 ∧ v2 < 4) ∧
            (0 ≤ v2 ∧ v2 < 4) ∧
            (((h 69 v2) ≤ (h 90 v2) →
              MD_isOverlap_75 g h l1 l2 v1 v2 0 K) ∧
            ((h 90 v2) < (h 69 v2) →
              MD_isOverlap_75 g h l1 l2 v1 v2 1 K))))))))))))))) : MD_isOverlap_4 g h l1 l2 u3 u4 u5 K := by
  refine rc_iload_n mq132 (mvDec_of cd132 rfl) rfl ?_
  refine rc_bipush mq132 (mvDec_of cd132 rfl) (by decide) ?_
  refine rc_icmp_ge (t := 121) mq132 (mvDec_of cd132 rfl) rfl (fun hc => ?_) (fun hc => ?_)
  · replace H := H.1 hc
    refine rc_iload_n mq132 (mvDec_of cd132 rfl) rfl ?_
    exact rc_zret mq132 (mvDec_of cd132 rfl) H.1 ⟨_, _, rfl, rfl, H.2⟩
  · replace H := H.2 hc
    refine rc_iload_n mq132 (mvDec_of cd132 rfl) rfl ?_
    refine rc_iconst mq132 (mvDec_of cd132 rfl) (by decide) ?_
    refine rc_idiv mq132 (mvDec_of cd132 rfl) (by decide) ?_
    refine rc_top (fun v1 hv => ?_)
    replace H := H v1 hv
    refine rc_istore_n [some (mvR 68), some (mvI l1), some (mvI l2), some (mvI v1), u4.map mvI, u5.map mvI] mq132 (mvDec_of cd132 rfl) rfl ?_
    refine rc_iload_n mq132 (mvDec_of cd132 rfl) rfl ?_
    refine rc_iconst mq132 (mvDec_of cd132 rfl) (by decide) ?_
    refine rc_irem mq132 (mvDec_of cd132 rfl) (by decide) ?_
    refine rc_top (fun v2 hv => ?_)
    replace H := H v2 hv
    refine rc_istore [some (mvR 68), some (mvI l1), some (mvI l2), some (mvI v1), some (mvI v2), u5.map mvI] mq132 (mvDec_of cd132 rfl) rfl ?_
    refine rc_iload_n mq132 (mvDec_of cd132 rfl) rfl ?_
    refine rc_iload mq132 (mvDec_of cd132 rfl) rfl ?_
    refine rc_icmp_eq (t := 72) mq132 (mvDec_of cd132 rfl) rfl (fun hc => ?_) (fun hc => ?_)
    · replace H := H.1 hc
      refine rc_iconst mq132 (mvDec_of cd132 rfl) (by decide) ?_
      refine rc_istore [some (mvR 68), some (mvI l1), some (mvI l2), some (mvI v1), some (mvI v2), some (mvI 0)] mq132 (mvDec_of cd132 rfl) rfl ?_
      exact H
    · replace H := H.2 hc
      refine rc_iload_n mq132 (mvDec_of cd132 rfl) rfl ?_
      refine rc_aload_n mq132 (mvDec_of cd132 rfl) rfl ?_
      refine rc_getI 0 mq132 (mvDec_of cd132 rfl) fl_10_138 mis68 rfl (by decide) (by decide) ?_
      refine rc_icmp_ge (t := 72) mq132 (mvDec_of cd132 rfl) rfl (fun hc => ?_) (fun hc => ?_)
      · replace H := H.1 hc
        refine rc_iconst mq132 (mvDec_of cd132 rfl) (by decide) ?_
        refine rc_istore [some (mvR 68), some (mvI l1), some (mvI l2), some (mvI v1), some (mvI v2), some (mvI 0)] mq132 (mvDec_of cd132 rfl) rfl ?_
        exact H
      · replace H := H.2 hc
        refine rc_iload mq132 (mvDec_of cd132 rfl) rfl ?_
        refine rc_aload_n mq132 (mvDec_of cd132 rfl) rfl ?_
        refine rc_getI 0 mq132 (mvDec_of cd132 rfl) fl_10_138 mis68 rfl (by decide) (by decide) ?_
        refine rc_icmp_ge (t := 72) mq132 (mvDec_of cd132 rfl) rfl (fun hc => ?_) (fun hc => ?_)
        · replace H := H.1 hc
          refine rc_iconst mq132 (mvDec_of cd132 rfl) (by decide) ?_
          refine rc_istore [some (mvR 68), some (mvI l1), some (mvI l2), some (mvI v1), some (mvI v2), some (mvI 0)] mq132 (mvDec_of cd132 rfl) rfl ?_
          exact H
        · replace H := H.2 hc
          refine rc_aload_n mq132 (mvDec_of cd132 rfl) rfl ?_
          refine rc_getR 89 mq132 (mvDec_of cd132 rfl) fl_10_71 mis68 rfl (gr_68_34 hG) (by decide) ?_
          refine rc_iload_n mq132 (mvDec_of cd132 rfl) rfl ?_
          obtain ⟨⟨hb0, hb1⟩, H⟩ := H
          refine rc_iald mq132 (mvDec_of cd132 rfl) mis89 hb0 hb1 ?_
          refine rc_if_le (t := 72) mq132 (mvDec_of cd132 rfl) rfl (fun hc => ?_) (fun hc => ?_)
          · replace H := H.1 hc
            refine rc_iconst mq132 (mvDec_of cd132 rfl) (by decide) ?_
            refine rc_istore [some (mvR 68), some (mvI l1), some (mvI l2), some (mvI v1), some (mvI v2), some (mvI 0)] mq132 (mvDec_of cd132 rfl) rfl ?_
            exact H
          · replace H := H.2 hc
            refine rc_aload_n mq132 (mvDec_of cd132 rfl) rfl ?_
            refine rc_getR 90 mq132 (mvDec_of cd132 rfl) fl_10_74 mis68 rfl (gr_68_35 hG) (by decide) ?_
            refine rc_iload mq132 (mvDec_of cd132 rfl) rfl ?_
            obtain ⟨⟨hb0, hb1⟩, H⟩ := H
            refine rc_iald mq132 (mvDec_of cd132 rfl) mis90 hb0 hb1 ?_
            refine rc_aload_n mq132 (mvDec_of cd132 rfl) rfl ?_
            refine rc_getR 69 mq132 (mvDec_of cd132 rfl) fl_10_7 mis68 rfl (gr_68_1 hG) (by decide) ?_
            refine rc_iload mq132 (mvDec_of cd132 rfl) rfl ?_
            obtain ⟨⟨hb0, hb1⟩, H⟩ := H
            refine rc_iald mq132 (mvDec_of cd132 rfl) mis69 hb0 hb1 ?_
            refine rc_icmp_ge (t := 72) mq132 (mvDec_of cd132 rfl) rfl (fun hc => ?_) (fun hc => ?_)
            · replace H := H.1 hc
              refine rc_iconst mq132 (mvDec_of cd132 rfl) (by decide) ?_
              refine rc_istore [some (mvR 68), some (mvI l1), some (mvI l2), some (mvI v1), some (mvI v2), some (mvI 0)] mq132 (mvDec_of cd132 rfl) rfl ?_
              exact H
            · replace H := H.2 hc
              refine rc_iconst mq132 (mvDec_of cd132 rfl) (by decide) ?_
              refine rc_goto (t := 73) mq132 (mvDec_of cd132 rfl) rfl ?_
              refine rc_istore [some (mvR 68), some (mvI l1), some (mvI l2), some (mvI v1), some (mvI v2), some (mvI 1)] mq132 (mvDec_of cd132 rfl) rfl ?_
              exact H
theorem MD_isOverlap_75_wp {sw : Bool} {g : Nat → Nat → Nat} {h : Nat → Int → Int} {l1 : Int} {l2 : Int} {l3 : Int} {l4 : Int} {l5 : Int} {K : Int → (Nat → Int → Int) → Prop} (hG : Gok sw g)  (H :
  ((l1 = 0 →
    MD_isOverlap_4 g h 0 (mw (l2 + 1)) (some l3) (some l4) (some l5) K) ∧
  (¬ l1 = 0 →
    ((l5 = 0 →
      MD_isOverlap_4 g h 1 (mw (l2 + 1)) (some l3) (some l4) (some l5) K) ∧
    (¬ l5 = 0 →
      (0 ≤ l3 ∧ l3 < 4) ∧
      (0 ≤ l4 ∧ l4 < 4) ∧
      MD_isAhead g h l3 (mw ((h 89 l3) - 1)) l4 (h 90 l4) (fun r2 h1 =>
        ((r2 = 0 →
          MD_isOverlap_4 g h1 0 (mw (l2 + 1)) (some l3) (some l4) (some l5) K) ∧
        (¬ r2 = 0 →
          MD_isOverlap_4 g h1 1 (mw (l2 + 1)) (some l3) (some l4) (some l5) K)))))))) : MD_isOverlap_75 g h l1 l2 l3 l4 l5 K := by
  refine rc_iload_n mq132 (mvDec_of cd132 rfl) rfl ?_
  refine rc_if_eq (t := 113) mq132 (mvDec_of cd132 rfl) rfl (fun hc => ?_) (fun hc => ?_)
  · replace H := H.1 hc
    refine rc_iconst mq132 (mvDec_of cd132 rfl) (by decide) ?_
    refine rc_istore_n [some (mvR 68), some (mvI 0), some (mvI l2), some (mvI l3), some (mvI l4), some (mvI l5)] mq132 (mvDec_of cd132 rfl) rfl ?_
    refine rc_iinc [some (mvR 68), some (mvI 0), some (mvI (mw (l2 + 1))), some (mvI l3), some (mvI l4), some (mvI l5)] mq132 (mvDec_of cd132 rfl) rfl rfl ?_
    refine rc_goto (t := 4) mq132 (mvDec_of cd132 rfl) rfl ?_
    exact H
  · replace H := H.2 hc
    refine rc_iload mq132 (mvDec_of cd132 rfl) rfl ?_
    refine rc_if_eq (t := 109) mq132 (mvDec_of cd132 rfl) rfl (fun hc => ?_) (fun hc => ?_)
    · replace H := H.1 hc
      refine rc_iconst mq132 (mvDec_of cd132 rfl) (by decide) ?_
      refine rc_goto (t := 114) mq132 (mvDec_of cd132 rfl) rfl ?_
      refine rc_istore_n [some (mvR 68), some (mvI 1), some (mvI l2), some (mvI l3), some (mvI l4), some (mvI l5)] mq132 (mvDec_of cd132 rfl) rfl ?_
      refine rc_iinc [some (mvR 68), some (mvI 1), some (mvI (mw (l2 + 1))), some (mvI l3), some (mvI l4), some (mvI l5)] mq132 (mvDec_of cd132 rfl) rfl rfl ?_
      refine rc_goto (t := 4) mq132 (mvDec_of cd132 rfl) rfl ?_
      exact H
    · replace H := H.2 hc
      refine rc_aload_n mq132 (mvDec_of cd132 rfl) rfl ?_
      refine rc_iload_n mq132 (mvDec_of cd132 rfl) rfl ?_
      refine rc_aload_n mq132 (mvDec_of cd132 rfl) rfl ?_
      refine rc_getR 89 mq132 (mvDec_of cd132 rfl) fl_10_71 mis68 rfl (gr_68_34 hG) (by decide) ?_
      refine rc_iload_n mq132 (mvDec_of cd132 rfl) rfl ?_
      obtain ⟨⟨hb0, hb1⟩, H⟩ := H
      refine rc_iald mq132 (mvDec_of cd132 rfl) mis89 hb0 hb1 ?_
      refine rc_iconst mq132 (mvDec_of cd132 rfl) (by decide) ?_
      refine rc_isub mq132 (mvDec_of cd132 rfl) ?_
      refine rc_iload mq132 (mvDec_of cd132 rfl) rfl ?_
      refine rc_aload_n mq132 (mvDec_of cd132 rfl) rfl ?_
      refine rc_getR 90 mq132 (mvDec_of cd132 rfl) fl_10_74 mis68 rfl (gr_68_35 hG) (by decide) ?_
      refine rc_iload mq132 (mvDec_of cd132 rfl) rfl ?_
      obtain ⟨⟨hb0, hb1⟩, H⟩ := H
      refine rc_iald mq132 (mvDec_of cd132 rfl) mis90 hb0 hb1 ?_
      refine rc_callV [mvR 68, mvI l3, mvI (mw ((h 89 l3) - 1)), mvI l4, mvI (h 90 l4)] [] [some (mvR 68), some (mvI l3), some (mvI (mw ((h 89 l3) - 1))), some (mvI l4), some (mvI (h 90 l4))] mq132 (mvDec_of cd132 rfl) lk_10_189 mq48 (by decide) rfl rfl (Nat.le_of_ble_eq_true rfl) (Nat.le_of_ble_eq_true rfl) (by decide) rfl mis68 rfl (ri_bind H (fun r2 h1 H => ?_))
      refine rc_if_eq (t := 113) mq132 (mvDec_of cd132 rfl) rfl (fun hc => ?_) (fun hc => ?_)
      · replace H := H.1 hc
        refine rc_iconst mq132 (mvDec_of cd132 rfl) (by decide) ?_
        refine rc_istore_n [some (mvR 68), some (mvI 0), some (mvI l2), some (mvI l3), some (mvI l4), some (mvI l5)] mq132 (mvDec_of cd132 rfl) rfl ?_
        refine rc_iinc [some (mvR 68), some (mvI 0), some (mvI (mw (l2 + 1))), some (mvI l3), some (mvI l4), some (mvI l5)] mq132 (mvDec_of cd132 rfl) rfl rfl ?_
        refine rc_goto (t := 4) mq132 (mvDec_of cd132 rfl) rfl ?_
        exact H
      · replace H := H.2 hc
        refine rc_iconst mq132 (mvDec_of cd132 rfl) (by decide) ?_
        refine rc_goto (t := 114) mq132 (mvDec_of cd132 rfl) rfl ?_
        refine rc_istore_n [some (mvR 68), some (mvI 1), some (mvI l2), some (mvI l3), some (mvI l4), some (mvI l5)] mq132 (mvDec_of cd132 rfl) rfl ?_
        refine rc_iinc [some (mvR 68), some (mvI 1), some (mvI (mw (l2 + 1))), some (mvI l3), some (mvI l4), some (mvI l5)] mq132 (mvDec_of cd132 rfl) rfl rfl ?_
        refine rc_goto (t := 4) mq132 (mvDec_of cd132 rfl) rfl ?_
        exact H
abbrev MD_comesNext (g : Nat → Nat → Nat) (h : Nat → Int → Int) (x1 : Int) (K : Int → (Nat → Int → Int) → Prop) : Prop := RI 133 0 [some (mvR 68), some (mvI x1), none, none, none] [] g h K
abbrev MD_comesNext_4 (g : Nat → Nat → Nat) (h : Nat → Int → Int) (l1 : Int) (l2 : Int) (l3 : Int) (u4 : Option Int) (K : Int → (Nat → Int → Int) → Prop) : Prop := RI 133 4 [some (mvR 68), some (mvI l1), some (mvI l2), some (mvI l3), u4.map mvI] [] g h K
abbrev MD_comesNext_51 (g : Nat → Nat → Nat) (h : Nat → Int → Int) (u1 : Option Int) (u2 : Option Int) (l3 : Int) (l4 : Int) (K : Int → (Nat → Int → Int) → Prop) : Prop := RI 133 51 [some (mvR 68), u1.map mvI, u2.map mvI, some (mvI l3), some (mvI l4)] [] g h K
theorem MD_comesNext_wp {sw : Bool} {g : Nat → Nat → Nat} {h : Nat → Int → Int} {x1 : Int} {K : Int → (Nat → Int → Int) → Prop} (hG : Gok sw g)  (H :
  MD_comesNext_4 g h x1 0 0 none K) : MD_comesNext g h x1 K := by
  refine rc_iconst mq133 (mvDec_of cd133 rfl) (by decide) ?_
  refine rc_istore_n [some (mvR 68), some (mvI x1), some (mvI 0), none, none] mq133 (mvDec_of cd133 rfl) rfl ?_
  refine rc_iconst mq133 (mvDec_of cd133 rfl) (by decide) ?_
  refine rc_istore_n [some (mvR 68), some (mvI x1), some (mvI 0), some (mvI 0), none] mq133 (mvDec_of cd133 rfl) rfl ?_
  exact H
theorem MD_comesNext_4_wp {sw : Bool} {g : Nat → Nat → Nat} {h : Nat → Int → Int} {l1 : Int} {l2 : Int} {l3 : Int} {u4 : Option Int} {K : Int → (Nat → Int → Int) → Prop} (hG : Gok sw g)  (H :
  (((h 68 0) ≤ l3 →
    ((l1 = 0 →
      MD_comesNext_51 g h (some l1) (some l2) 0 0 K) ∧
    (¬ l1 = 0 →
      MD_drawOf g h l2 (fun r2 h1 =>
        MD_comesNext_51 g h1 (some l1) (some l2) r2 0 K)))) ∧
  (l3 < (h 68 0) →
    MD_canCome g h l3 (fun r4 h3 =>
      ((r4 = 0 →
        (∀ v5, v5 = (mw (l2 + 0)) →
        MD_comesNext_4 g h3 l1 v5 (mw (l3 + 1)) u4 K)) ∧
      (¬ r4 = 0 →
        (∀ v6, v6 = (mw (l2 + 1)) →
        MD_comesNext_4 g h3 l1 v6 (mw (l3 + 1)) u4 K))))))) : MD_comesNext_4 g h l1 l2 l3 u4 K := by
  refine rc_iload_n mq133 (mvDec_of cd133 rfl) rfl ?_
  refine rc_aload_n mq133 (mvDec_of cd133 rfl) rfl ?_
  refine rc_getI 0 mq133 (mvDec_of cd133 rfl) fl_10_138 mis68 rfl (by decide) (by decide) ?_
  refine rc_icmp_ge (t := 34) mq133 (mvDec_of cd133 rfl) rfl (fun hc => ?_) (fun hc => ?_)
  · replace H := H.1 hc
    refine rc_iload_n mq133 (mvDec_of cd133 rfl) rfl ?_
    refine rc_if_eq (t := 46) mq133 (mvDec_of cd133 rfl) rfl (fun hc => ?_) (fun hc => ?_)
    · replace H := H.1 hc
      refine rc_iconst mq133 (mvDec_of cd133 rfl) (by decide) ?_
      refine rc_istore_n [some (mvR 68), some (mvI l1), some (mvI l2), some (mvI 0), u4.map mvI] mq133 (mvDec_of cd133 rfl) rfl ?_
      refine rc_iconst mq133 (mvDec_of cd133 rfl) (by decide) ?_
      refine rc_istore [some (mvR 68), some (mvI l1), some (mvI l2), some (mvI 0), some (mvI 0)] mq133 (mvDec_of cd133 rfl) rfl ?_
      exact H
    · replace H := H.2 hc
      refine rc_aload_n mq133 (mvDec_of cd133 rfl) rfl ?_
      refine rc_iload_n mq133 (mvDec_of cd133 rfl) rfl ?_
      refine rc_callV [mvR 68, mvI l2] [] [some (mvR 68), some (mvI l2)] mq133 (mvDec_of cd133 rfl) lk_10_356 mq60 (by decide) rfl rfl (Nat.le_of_ble_eq_true rfl) (Nat.le_of_ble_eq_true rfl) (by decide) rfl mis68 rfl (ri_bind H (fun r2 h1 H => ?_))
      refine rc_goto (t := 47) mq133 (mvDec_of cd133 rfl) rfl ?_
      refine rc_istore_n [some (mvR 68), some (mvI l1), some (mvI l2), some (mvI r2), u4.map mvI] mq133 (mvDec_of cd133 rfl) rfl ?_
      refine rc_iconst mq133 (mvDec_of cd133 rfl) (by decide) ?_
      refine rc_istore [some (mvR 68), some (mvI l1), some (mvI l2), some (mvI r2), some (mvI 0)] mq133 (mvDec_of cd133 rfl) rfl ?_
      exact H
  · replace H := H.2 hc
    refine rc_iload_n mq133 (mvDec_of cd133 rfl) rfl ?_
    refine rc_aload_n mq133 (mvDec_of cd133 rfl) rfl ?_
    refine rc_iload_n mq133 (mvDec_of cd133 rfl) rfl ?_
    refine rc_callV [mvR 68, mvI l3] [mvI l2] [some (mvR 68), some (mvI l3), none] mq133 (mvDec_of cd133 rfl) lk_10_353 mq61 (by decide) rfl rfl (Nat.le_of_ble_eq_true rfl) (Nat.le_of_ble_eq_true rfl) (by decide) rfl mis68 rfl (ri_bind H (fun r4 h3 H => ?_))
    refine rc_if_eq (t := 25) mq133 (mvDec_of cd133 rfl) rfl (fun hc => ?_) (fun hc => ?_)
    · replace H := H.1 hc
      refine rc_iconst mq133 (mvDec_of cd133 rfl) (by decide) ?_
      refine rc_iadd mq133 (mvDec_of cd133 rfl) ?_
      refine rc_top (fun v5 hv => ?_)
      replace H := H v5 hv
      refine rc_istore_n [some (mvR 68), some (mvI l1), some (mvI v5), some (mvI l3), u4.map mvI] mq133 (mvDec_of cd133 rfl) rfl ?_
      refine rc_iinc [some (mvR 68), some (mvI l1), some (mvI v5), some (mvI (mw (l3 + 1))), u4.map mvI] mq133 (mvDec_of cd133 rfl) rfl rfl ?_
      refine rc_goto (t := 4) mq133 (mvDec_of cd133 rfl) rfl ?_
      exact H
    · replace H := H.2 hc
      refine rc_iconst mq133 (mvDec_of cd133 rfl) (by decide) ?_
      refine rc_goto (t := 26) mq133 (mvDec_of cd133 rfl) rfl ?_
      refine rc_iadd mq133 (mvDec_of cd133 rfl) ?_
      refine rc_top (fun v6 hv => ?_)
      replace H := H v6 hv
      refine rc_istore_n [some (mvR 68), some (mvI l1), some (mvI v6), some (mvI l3), u4.map mvI] mq133 (mvDec_of cd133 rfl) rfl ?_
      refine rc_iinc [some (mvR 68), some (mvI l1), some (mvI v6), some (mvI (mw (l3 + 1))), u4.map mvI] mq133 (mvDec_of cd133 rfl) rfl rfl ?_
      refine rc_goto (t := 4) mq133 (mvDec_of cd133 rfl) rfl ?_
      exact H
theorem MD_comesNext_51_wp {sw : Bool} {g : Nat → Nat → Nat} {h : Nat → Int → Int} {u1 : Option Int} {u2 : Option Int} {l3 : Int} {l4 : Int} {K : Int → (Nat → Int → Int) → Prop} (hG : Gok sw g)  (H :
  ((0 < l3 →
    MD_canCome g h l4 (fun r2 h1 =>
      ((r2 = 0 →
        (∀ v3, v3 = (mw (l3 - 0)) →
        MD_comesNext_51 g h1 u1 u2 v3 (mw (l4 + 1)) K)) ∧
      (¬ r2 = 0 →
        (∀ v4, v4 = (mw (l3 - 1)) →
        MD_comesNext_51 g h1 u1 u2 v4 (mw (l4 + 1)) K))))) ∧
  (l3 ≤ 0 →
    MD_canCome g h l4 (fun r6 h5 =>
      ((¬ r6 = 0 →
        K l4 h5) ∧
      (r6 = 0 →
        MD_canCome g h5 l4 (fun r8 h7 =>
          ((r8 = 0 →
            (∀ v9, v9 = (mw (l3 - 0)) →
            MD_comesNext_51 g h7 u1 u2 v9 (mw (l4 + 1)) K)) ∧
          (¬ r8 = 0 →
            (∀ v10, v10 = (mw (l3 - 1)) →
            MD_comesNext_51 g h7 u1 u2 v10 (mw (l4 + 1)) K)))))))))) : MD_comesNext_51 g h u1 u2 l3 l4 K := by
  refine rc_iload_n mq133 (mvDec_of cd133 rfl) rfl ?_
  refine rc_if_gt (t := 64) mq133 (mvDec_of cd133 rfl) rfl (fun hc => ?_) (fun hc => ?_)
  · replace H := H.1 hc
    refine rc_iload_n mq133 (mvDec_of cd133 rfl) rfl ?_
    refine rc_aload_n mq133 (mvDec_of cd133 rfl) rfl ?_
    refine rc_iload mq133 (mvDec_of cd133 rfl) rfl ?_
    refine rc_callV [mvR 68, mvI l4] [mvI l3] [some (mvR 68), some (mvI l4), none] mq133 (mvDec_of cd133 rfl) lk_10_353 mq61 (by decide) rfl rfl (Nat.le_of_ble_eq_true rfl) (Nat.le_of_ble_eq_true rfl) (by decide) rfl mis68 rfl (ri_bind H (fun r2 h1 H => ?_))
    refine rc_if_eq (t := 78) mq133 (mvDec_of cd133 rfl) rfl (fun hc => ?_) (fun hc => ?_)
    · replace H := H.1 hc
      refine rc_iconst mq133 (mvDec_of cd133 rfl) (by decide) ?_
      refine rc_isub mq133 (mvDec_of cd133 rfl) ?_
      refine rc_top (fun v3 hv => ?_)
      replace H := H v3 hv
      refine rc_istore_n [some (mvR 68), u1.map mvI, u2.map mvI, some (mvI v3), some (mvI l4)] mq133 (mvDec_of cd133 rfl) (by cases u2 <;> rfl) ?_
      refine rc_iinc [some (mvR 68), u1.map mvI, u2.map mvI, some (mvI v3), some (mvI (mw (l4 + 1)))] mq133 (mvDec_of cd133 rfl) rfl rfl ?_
      refine rc_goto (t := 51) mq133 (mvDec_of cd133 rfl) rfl ?_
      exact H
    · replace H := H.2 hc
      refine rc_iconst mq133 (mvDec_of cd133 rfl) (by decide) ?_
      refine rc_goto (t := 79) mq133 (mvDec_of cd133 rfl) rfl ?_
      refine rc_isub mq133 (mvDec_of cd133 rfl) ?_
      refine rc_top (fun v4 hv => ?_)
      replace H := H v4 hv
      refine rc_istore_n [some (mvR 68), u1.map mvI, u2.map mvI, some (mvI v4), some (mvI l4)] mq133 (mvDec_of cd133 rfl) (by cases u2 <;> rfl) ?_
      refine rc_iinc [some (mvR 68), u1.map mvI, u2.map mvI, some (mvI v4), some (mvI (mw (l4 + 1)))] mq133 (mvDec_of cd133 rfl) rfl rfl ?_
      refine rc_goto (t := 51) mq133 (mvDec_of cd133 rfl) rfl ?_
      exact H
  · replace H := H.2 hc
    refine rc_aload_n mq133 (mvDec_of cd133 rfl) rfl ?_
    refine rc_iload mq133 (mvDec_of cd133 rfl) rfl ?_
    refine rc_callV [mvR 68, mvI l4] [] [some (mvR 68), some (mvI l4), none] mq133 (mvDec_of cd133 rfl) lk_10_353 mq61 (by decide) rfl rfl (Nat.le_of_ble_eq_true rfl) (Nat.le_of_ble_eq_true rfl) (by decide) rfl mis68 rfl (ri_bind H (fun r6 h5 H => ?_))
    refine rc_if_ne (t := 87) mq133 (mvDec_of cd133 rfl) rfl (fun hc => ?_) (fun hc => ?_)
    · replace H := H.1 hc
      refine rc_iload mq133 (mvDec_of cd133 rfl) rfl ?_
      exact rc_iret mq133 (mvDec_of cd133 rfl) ⟨_, _, rfl, rfl, H⟩
    · replace H := H.2 hc
      refine rc_iload_n mq133 (mvDec_of cd133 rfl) rfl ?_
      refine rc_aload_n mq133 (mvDec_of cd133 rfl) rfl ?_
      refine rc_iload mq133 (mvDec_of cd133 rfl) rfl ?_
      refine rc_callV [mvR 68, mvI l4] [mvI l3] [some (mvR 68), some (mvI l4), none] mq133 (mvDec_of cd133 rfl) lk_10_353 mq61 (by decide) rfl rfl (Nat.le_of_ble_eq_true rfl) (Nat.le_of_ble_eq_true rfl) (by decide) rfl mis68 rfl (ri_bind H (fun r8 h7 H => ?_))
      refine rc_if_eq (t := 78) mq133 (mvDec_of cd133 rfl) rfl (fun hc => ?_) (fun hc => ?_)
      · replace H := H.1 hc
        refine rc_iconst mq133 (mvDec_of cd133 rfl) (by decide) ?_
        refine rc_isub mq133 (mvDec_of cd133 rfl) ?_
        refine rc_top (fun v9 hv => ?_)
        replace H := H v9 hv
        refine rc_istore_n [some (mvR 68), u1.map mvI, u2.map mvI, some (mvI v9), some (mvI l4)] mq133 (mvDec_of cd133 rfl) (by cases u2 <;> rfl) ?_
        refine rc_iinc [some (mvR 68), u1.map mvI, u2.map mvI, some (mvI v9), some (mvI (mw (l4 + 1)))] mq133 (mvDec_of cd133 rfl) rfl rfl ?_
        refine rc_goto (t := 51) mq133 (mvDec_of cd133 rfl) rfl ?_
        exact H
      · replace H := H.2 hc
        refine rc_iconst mq133 (mvDec_of cd133 rfl) (by decide) ?_
        refine rc_goto (t := 79) mq133 (mvDec_of cd133 rfl) rfl ?_
        refine rc_isub mq133 (mvDec_of cd133 rfl) ?_
        refine rc_top (fun v10 hv => ?_)
        replace H := H v10 hv
        refine rc_istore_n [some (mvR 68), u1.map mvI, u2.map mvI, some (mvI v10), some (mvI l4)] mq133 (mvDec_of cd133 rfl) (by cases u2 <;> rfl) ?_
        refine rc_iinc [some (mvR 68), u1.map mvI, u2.map mvI, some (mvI v10), some (mvI (mw (l4 + 1)))] mq133 (mvDec_of cd133 rfl) rfl rfl ?_
        refine rc_goto (t := 51) mq133 (mvDec_of cd133 rfl) rfl ?_
        exact H
abbrev MD_played (g : Nat → Nat → Nat) (h : Nat → Int → Int) (x1 : Int) (K : Int → (Nat → Int → Int) → Prop) : Prop := RI 134 0 [some (mvR 68), some (mvI x1)] [] g h K
theorem MD_played_wp {sw : Bool} {g : Nat → Nat → Nat} {h : Nat → Int → Int} {x1 : Int} {K : Int → (Nat → Int → Int) → Prop} (hG : Gok sw g)  (H :
  (((h 68 10) = 0 →
    K (-101) h) ∧
  (¬ (h 68 10) = 0 →
    MD_eventsAll g h (fun r2 h1 =>
      ((x1 < 0 →
        K (-101) h1) ∧
      (0 ≤ x1 →
        (((mw (r2 - 1)) < x1 →
          K (-101) h1) ∧
        (x1 ≤ (mw (r2 - 1)) →
          (0 ≤ x1 ∧ x1 < 16) ∧
          K (h1 75 x1) h1)))))))) : MD_played g h x1 K := by
  refine rc_aload_n mq134 (mvDec_of cd134 rfl) rfl ?_
  refine rc_getI 10 mq134 (mvDec_of cd134 rfl) fl_10_147 mis68 rfl (by decide) (by decide) ?_
  refine rc_if_eq (t := 30) mq134 (mvDec_of cd134 rfl) rfl (fun hc => ?_) (fun hc => ?_)
  · replace H := H.1 hc
    refine rc_bipush mq134 (mvDec_of cd134 rfl) (by decide) ?_
    exact rc_iret mq134 (mvDec_of cd134 rfl) ⟨_, _, rfl, rfl, H⟩
  · replace H := H.2 hc
    refine rc_iload_n mq134 (mvDec_of cd134 rfl) rfl ?_
    refine rc_iconst mq134 (mvDec_of cd134 rfl) (by decide) ?_
    refine rc_aload_n mq134 (mvDec_of cd134 rfl) rfl ?_
    refine rc_callV [mvR 68] [mvI 0, mvI x1] [some (mvR 68), none, none] mq134 (mvDec_of cd134 rfl) lk_10_173 mq46 (by decide) rfl rfl (Nat.le_of_ble_eq_true rfl) (Nat.le_of_ble_eq_true rfl) (by decide) rfl mis68 rfl (ri_bind H (fun r2 h1 H => ?_))
    refine rc_iconst mq134 (mvDec_of cd134 rfl) (by decide) ?_
    refine rc_isub mq134 (mvDec_of cd134 rfl) ?_
    refine rc_callS [mvI x1, mvI 0, mvI (mw (r2 - 1))] [] [some (mvI x1), some (mvI 0), some (mvI (mw (r2 - 1)))] mq134 (mvDec_of cd134 rfl) lk_10_95 mq38 (by decide) rfl rfl (Nat.le_of_ble_eq_true rfl) (Nat.le_of_ble_eq_true rfl) (by decide) rfl ?_
    refine rc_iload_n mq38 (mvDec_of cd38 rfl) rfl ?_
    refine rc_iload_n mq38 (mvDec_of cd38 rfl) rfl ?_
    refine rc_icmp_lt (t := 14) mq38 (mvDec_of cd38 rfl) rfl (fun hc => ?_) (fun hc => ?_)
    · replace H := H.1 hc
      refine rc_iconst mq38 (mvDec_of cd38 rfl) (by decide) ?_
      refine rc_zret mq38 (mvDec_of cd38 rfl) (Or.inl rfl) ?_
      show Rch 134 18 [some (mvR 68), some (mvI x1)] [mvI 0] (97, g, h1) _
      refine rc_ifT (t := 30) mq134 (mvDec_of cd134 rfl) rfl rfl ?_
      refine rc_bipush mq134 (mvDec_of cd134 rfl) (by decide) ?_
      exact rc_iret mq134 (mvDec_of cd134 rfl) ⟨_, _, rfl, rfl, H⟩
    · replace H := H.2 hc
      refine rc_iload_n mq38 (mvDec_of cd38 rfl) rfl ?_
      refine rc_iload_n mq38 (mvDec_of cd38 rfl) rfl ?_
      refine rc_icmp_gt (t := 14) mq38 (mvDec_of cd38 rfl) rfl (fun hc => ?_) (fun hc => ?_)
      · replace H := H.1 hc
        refine rc_iconst mq38 (mvDec_of cd38 rfl) (by decide) ?_
        refine rc_zret mq38 (mvDec_of cd38 rfl) (Or.inl rfl) ?_
        show Rch 134 18 [some (mvR 68), some (mvI x1)] [mvI 0] (97, g, h1) _
        refine rc_ifT (t := 30) mq134 (mvDec_of cd134 rfl) rfl rfl ?_
        refine rc_bipush mq134 (mvDec_of cd134 rfl) (by decide) ?_
        exact rc_iret mq134 (mvDec_of cd134 rfl) ⟨_, _, rfl, rfl, H⟩
      · replace H := H.2 hc
        refine rc_iconst mq38 (mvDec_of cd38 rfl) (by decide) ?_
        refine rc_goto (t := 15) mq38 (mvDec_of cd38 rfl) rfl ?_
        refine rc_zret mq38 (mvDec_of cd38 rfl) (Or.inr rfl) ?_
        show Rch 134 18 [some (mvR 68), some (mvI x1)] [mvI 1] (97, g, h1) _
        refine rc_ifF (t := 30) mq134 (mvDec_of cd134 rfl) rfl rfl ?_
        refine rc_aload_n mq134 (mvDec_of cd134 rfl) rfl ?_
        refine rc_getR 75 mq134 (mvDec_of cd134 rfl) fl_10_28 mis68 rfl (gr_68_11 hG) (by decide) ?_
        refine rc_iload_n mq134 (mvDec_of cd134 rfl) rfl ?_
        obtain ⟨⟨hb0, hb1⟩, H⟩ := H
        refine rc_iald mq134 (mvDec_of cd134 rfl) mis75 hb0 hb1 ?_
        refine rc_goto (t := 32) mq134 (mvDec_of cd134 rfl) rfl ?_
        exact rc_iret mq134 (mvDec_of cd134 rfl) ⟨_, _, rfl, rfl, H⟩
abbrev MD_notes (g : Nat → Nat → Nat) (h : Nat → Int → Int) (x1 : Int) (x2 : Int) (K : (Nat → Int → Int) → Prop) : Prop := RV 135 0 [some (mvR 68), some (mvI x1), some (mvI x2), none] [] g h K
abbrev MD_notes_29 (g : Nat → Nat → Nat) (h : Nat → Int → Int) (l1 : Int) (u2 : Option Int) (l3 : Int) (K : (Nat → Int → Int) → Prop) : Prop := RV 135 29 [some (mvR 68), some (mvI l1), u2.map mvI, some (mvI l3)] [] g h K
theorem MD_notes_wp {sw : Bool} {g : Nat → Nat → Nat} {h : Nat → Int → Int} {x1 : Int} {x2 : Int} {K : (Nat → Int → Int) → Prop} (hG : Gok sw g)  (H :
  (0 ≤ x1 ∧ x1 < 4) ∧
  (0 ≤ x1 ∧ x1 < 4) ∧
  (∀ h1, h1 = mvUpd h 95 x1 (h 81 x1) →
  (∀ h2, h2 = mvUpd h1 68 43 (mw ((h1 68 43) + 1)) →
  (∀ h3, h3 = mvUpd h2 68 15 x2 →
  MD_notes_29 g h3 x1 (some x2) 0 K)))) : MD_notes g h x1 x2 K := by
  refine rc_aload_n mq135 (mvDec_of cd135 rfl) rfl ?_
  refine rc_getR 95 mq135 (mvDec_of cd135 rfl) fl_10_89 mis68 rfl (gr_68_41 hG) (by decide) ?_
  refine rc_iload_n mq135 (mvDec_of cd135 rfl) rfl ?_
  refine rc_aload_n mq135 (mvDec_of cd135 rfl) rfl ?_
  refine rc_getR 81 mq135 (mvDec_of cd135 rfl) fl_10_46 mis68 rfl (gr_68_26 hG) (by decide) ?_
  refine rc_iload_n mq135 (mvDec_of cd135 rfl) rfl ?_
  obtain ⟨⟨hb0, hb1⟩, H⟩ := H
  refine rc_iald mq135 (mvDec_of cd135 rfl) mis81 hb0 hb1 ?_
  obtain ⟨⟨hb0, hb1⟩, H⟩ := H
  refine rc_iast mq135 (mvDec_of cd135 rfl) mis95 hb0 hb1 ?_
  refine rc_heap (fun h1 hh => ?_)
  replace H := H h1 hh
  refine rc_aload_n mq135 (mvDec_of cd135 rfl) rfl ?_
  refine rc_dup mq135 (mvDec_of cd135 rfl) rfl ?_
  refine rc_getI 43 mq135 (mvDec_of cd135 rfl) fl_10_363 mis68 rfl (by decide) (by decide) ?_
  refine rc_iconst mq135 (mvDec_of cd135 rfl) (by decide) ?_
  refine rc_iadd mq135 (mvDec_of cd135 rfl) ?_
  refine rc_putI 43 mq135 (mvDec_of cd135 rfl) fl_10_363 mis68 rfl (fun z => absurd z (by decide)) (Or.inl rfl) ?_
  refine rc_heap (fun h2 hh => ?_)
  replace H := H h2 hh
  refine rc_aload_n mq135 (mvDec_of cd135 rfl) rfl ?_
  refine rc_iload_n mq135 (mvDec_of cd135 rfl) rfl ?_
  refine rc_putI 15 mq135 (mvDec_of cd135 rfl) fl_10_366 mis68 rfl (fun z => absurd z (by decide)) (Or.inl rfl) ?_
  refine rc_heap (fun h3 hh => ?_)
  replace H := H h3 hh
  refine rc_iconst mq135 (mvDec_of cd135 rfl) (by decide) ?_
  refine rc_istore_n [some (mvR 68), some (mvI x1), some (mvI x2), some (mvI 0)] mq135 (mvDec_of cd135 rfl) rfl ?_
  exact H
theorem MD_notes_29_wp {sw : Bool} {g : Nat → Nat → Nat} {h : Nat → Int → Int} {l1 : Int} {u2 : Option Int} {l3 : Int} {K : (Nat → Int → Int) → Prop} (hG : Gok sw g)  (H :
  (((h 68 0) ≤ l3 →
    K h) ∧
  (l3 < (h 68 0) →
    ((l3 = l1 →
      MD_notes_29 g h l1 u2 (mw (l3 + 1)) K) ∧
    (¬ l3 = l1 →
      (0 ≤ l1 ∧ l1 < 4) ∧
      MD_of g h l1 1 l3 (h 81 l1) (fun r2 h1 =>
        (0 ≤ (mw ((mw (4 * l1)) + l3)) ∧ (mw ((mw (4 * l1)) + l3)) < 16) ∧
        (∀ h3, h3 = mvUpd h1 96 (mw ((mw (4 * l1)) + l3)) r2 →
        MD_notes_29 g h3 l1 u2 (mw (l3 + 1)) K))))))) : MD_notes_29 g h l1 u2 l3 K := by
  refine rc_iload_n mq135 (mvDec_of cd135 rfl) rfl ?_
  refine rc_aload_n mq135 (mvDec_of cd135 rfl) rfl ?_
  refine rc_getI 0 mq135 (mvDec_of cd135 rfl) fl_10_138 mis68 rfl (by decide) (by decide) ?_
  refine rc_icmp_ge (t := 71) mq135 (mvDec_of cd135 rfl) rfl (fun hc => ?_) (fun hc => ?_)
  · replace H := H.1 hc
    exact rc_vret mq135 (mvDec_of cd135 rfl) ⟨_, rfl, rfl, H⟩
  · replace H := H.2 hc
    refine rc_iload_n mq135 (mvDec_of cd135 rfl) rfl ?_
    refine rc_iload_n mq135 (mvDec_of cd135 rfl) rfl ?_
    refine rc_icmp_eq (t := 65) mq135 (mvDec_of cd135 rfl) rfl (fun hc => ?_) (fun hc => ?_)
    · replace H := H.1 hc
      refine rc_iinc [some (mvR 68), some (mvI l1), u2.map mvI, some (mvI (mw (l3 + 1)))] mq135 (mvDec_of cd135 rfl) rfl (by cases u2 <;> rfl) ?_
      refine rc_goto (t := 29) mq135 (mvDec_of cd135 rfl) rfl ?_
      exact H
    · replace H := H.2 hc
      refine rc_aload_n mq135 (mvDec_of cd135 rfl) rfl ?_
      refine rc_getR 96 mq135 (mvDec_of cd135 rfl) fl_10_92 mis68 rfl (gr_68_42 hG) (by decide) ?_
      refine rc_iconst mq135 (mvDec_of cd135 rfl) (by decide) ?_
      refine rc_iload_n mq135 (mvDec_of cd135 rfl) rfl ?_
      refine rc_imul mq135 (mvDec_of cd135 rfl) ?_
      refine rc_iload_n mq135 (mvDec_of cd135 rfl) rfl ?_
      refine rc_iadd mq135 (mvDec_of cd135 rfl) ?_
      refine rc_aload_n mq135 (mvDec_of cd135 rfl) rfl ?_
      refine rc_iload_n mq135 (mvDec_of cd135 rfl) rfl ?_
      refine rc_iconst mq135 (mvDec_of cd135 rfl) (by decide) ?_
      refine rc_iload_n mq135 (mvDec_of cd135 rfl) rfl ?_
      refine rc_aload_n mq135 (mvDec_of cd135 rfl) rfl ?_
      refine rc_getR 81 mq135 (mvDec_of cd135 rfl) fl_10_46 mis68 rfl (gr_68_26 hG) (by decide) ?_
      refine rc_iload_n mq135 (mvDec_of cd135 rfl) rfl ?_
      obtain ⟨⟨hb0, hb1⟩, H⟩ := H
      refine rc_iald mq135 (mvDec_of cd135 rfl) mis81 hb0 hb1 ?_
      refine rc_callV [mvR 68, mvI l1, mvI 1, mvI l3, mvI (h 81 l1)] [mvI (mw ((mw (4 * l1)) + l3)), mvR 96] [some (mvR 68), some (mvI l1), some (mvI 1), some (mvI l3), some (mvI (h 81 l1)), none, none, none] mq135 (mvDec_of cd135 rfl) lk_10_160 mq44 (by decide) rfl rfl (Nat.le_of_ble_eq_true rfl) (Nat.le_of_ble_eq_true rfl) (by decide) rfl mis68 rfl (ri_bind H (fun r2 h1 H => ?_))
      obtain ⟨⟨hb0, hb1⟩, H⟩ := H
      refine rc_iast mq135 (mvDec_of cd135 rfl) mis96 hb0 hb1 ?_
      refine rc_heap (fun h3 hh => ?_)
      replace H := H h3 hh
      refine rc_iinc [some (mvR 68), some (mvI l1), u2.map mvI, some (mvI (mw (l3 + 1)))] mq135 (mvDec_of cd135 rfl) rfl (by cases u2 <;> rfl) ?_
      refine rc_goto (t := 29) mq135 (mvDec_of cd135 rfl) rfl ?_
      exact H
abbrev MD_nextMarker (g : Nat → Nat → Nat) (h : Nat → Int → Int) (x1 : Int) (K : Int → (Nat → Int → Int) → Prop) : Prop := RI 136 0 [some (mvR 68), some (mvI x1), none, none, none] [] g h K
abbrev MD_nextMarker_2 (g : Nat → Nat → Nat) (h : Nat → Int → Int) (l1 : Int) (l2 : Int) (u3 : Option Int) (u4 : Option Int) (K : Int → (Nat → Int → Int) → Prop) : Prop := RI 136 2 [some (mvR 68), some (mvI l1), some (mvI l2), u3.map mvI, u4.map mvI] [] g h K
theorem MD_nextMarker_wp {sw : Bool} {g : Nat → Nat → Nat} {h : Nat → Int → Int} {x1 : Int} {K : Int → (Nat → Int → Int) → Prop} (hG : Gok sw g)  (H :
  MD_nextMarker_2 g h x1 0 none none K) : MD_nextMarker g h x1 K := by
  refine rc_iconst mq136 (mvDec_of cd136 rfl) (by decide) ?_
  refine rc_istore_n [some (mvR 68), some (mvI x1), some (mvI 0), none, none] mq136 (mvDec_of cd136 rfl) rfl ?_
  exact H
theorem MD_nextMarker_2_wp {sw : Bool} {g : Nat → Nat → Nat} {h : Nat → Int → Int} {l1 : Int} {l2 : Int} {u3 : Option Int} {u4 : Option Int} {K : Int → (Nat → Int → Int) → Prop} (hG : Gok sw g)  (H :
  ((16 ≤ l2 →
    K (-1) h) ∧
  (l2 < 16 →
    (∀ v1, v1 = (mw (l2.tdiv 4)) →
    (∀ v2, v2 = (l2.tmod 4) →
    (0 ≤ l2 ∧ l2 < 16) ∧
    (((h 96 l2) = (-1) →
      MD_nextMarker_2 g h l1 (mw (l2 + 1)) (some v1) (some v2) K) ∧
    (¬ (h 96 l2) = (-1) →
      ((¬ l1 = 0 →
        K l2 h) ∧
      (l1 = 0 →
        (0 ≤ v2 ∧ v2 < 4) ∧
        MD_of g h v2 2 v1 (h 81 v2) (fun r4 h3 =>
          (0 ≤ l2 ∧ l2 < 16) ∧
          ((r4 < (h3 96 l2) →
            MD_nextMarker_2 g h3 l1 (mw (l2 + 1)) (some v1) (some v2) K) ∧
          ((h3 96 l2) ≤ r4 →
            K l2 h3)))))))))))) : MD_nextMarker_2 g h l1 l2 u3 u4 K := by
  refine rc_iload_n mq136 (mvDec_of cd136 rfl) rfl ?_
  refine rc_bipush mq136 (mvDec_of cd136 rfl) (by decide) ?_
  refine rc_icmp_ge (t := 63) mq136 (mvDec_of cd136 rfl) rfl (fun hc => ?_) (fun hc => ?_)
  · replace H := H.1 hc
    refine rc_iconst mq136 (mvDec_of cd136 rfl) (by decide) ?_
    exact rc_iret mq136 (mvDec_of cd136 rfl) ⟨_, _, rfl, rfl, H⟩
  · replace H := H.2 hc
    refine rc_iload_n mq136 (mvDec_of cd136 rfl) rfl ?_
    refine rc_iconst mq136 (mvDec_of cd136 rfl) (by decide) ?_
    refine rc_idiv mq136 (mvDec_of cd136 rfl) (by decide) ?_
    refine rc_top (fun v1 hv => ?_)
    replace H := H v1 hv
    refine rc_istore_n [some (mvR 68), some (mvI l1), some (mvI l2), some (mvI v1), u4.map mvI] mq136 (mvDec_of cd136 rfl) rfl ?_
    refine rc_iload_n mq136 (mvDec_of cd136 rfl) rfl ?_
    refine rc_iconst mq136 (mvDec_of cd136 rfl) (by decide) ?_
    refine rc_irem mq136 (mvDec_of cd136 rfl) (by decide) ?_
    refine rc_top (fun v2 hv => ?_)
    replace H := H v2 hv
    refine rc_istore [some (mvR 68), some (mvI l1), some (mvI l2), some (mvI v1), some (mvI v2)] mq136 (mvDec_of cd136 rfl) rfl ?_
    refine rc_aload_n mq136 (mvDec_of cd136 rfl) rfl ?_
    refine rc_getR 96 mq136 (mvDec_of cd136 rfl) fl_10_92 mis68 rfl (gr_68_42 hG) (by decide) ?_
    refine rc_iload_n mq136 (mvDec_of cd136 rfl) rfl ?_
    obtain ⟨⟨hb0, hb1⟩, H⟩ := H
    refine rc_iald mq136 (mvDec_of cd136 rfl) mis96 hb0 hb1 ?_
    refine rc_iconst mq136 (mvDec_of cd136 rfl) (by decide) ?_
    refine rc_icmp_eq (t := 57) mq136 (mvDec_of cd136 rfl) rfl (fun hc => ?_) (fun hc => ?_)
    · replace H := H.1 hc
      refine rc_iinc [some (mvR 68), some (mvI l1), some (mvI (mw (l2 + 1))), some (mvI v1), some (mvI v2)] mq136 (mvDec_of cd136 rfl) rfl rfl ?_
      refine rc_goto (t := 2) mq136 (mvDec_of cd136 rfl) rfl ?_
      exact H
    · replace H := H.2 hc
      refine rc_iload_n mq136 (mvDec_of cd136 rfl) rfl ?_
      refine rc_if_ne (t := 55) mq136 (mvDec_of cd136 rfl) rfl (fun hc => ?_) (fun hc => ?_)
      · replace H := H.1 hc
        refine rc_iload_n mq136 (mvDec_of cd136 rfl) rfl ?_
        exact rc_iret mq136 (mvDec_of cd136 rfl) ⟨_, _, rfl, rfl, H⟩
      · replace H := H.2 hc
        refine rc_aload_n mq136 (mvDec_of cd136 rfl) rfl ?_
        refine rc_iload mq136 (mvDec_of cd136 rfl) rfl ?_
        refine rc_iconst mq136 (mvDec_of cd136 rfl) (by decide) ?_
        refine rc_iload_n mq136 (mvDec_of cd136 rfl) rfl ?_
        refine rc_aload_n mq136 (mvDec_of cd136 rfl) rfl ?_
        refine rc_getR 81 mq136 (mvDec_of cd136 rfl) fl_10_46 mis68 rfl (gr_68_26 hG) (by decide) ?_
        refine rc_iload mq136 (mvDec_of cd136 rfl) rfl ?_
        obtain ⟨⟨hb0, hb1⟩, H⟩ := H
        refine rc_iald mq136 (mvDec_of cd136 rfl) mis81 hb0 hb1 ?_
        refine rc_callV [mvR 68, mvI v2, mvI 2, mvI v1, mvI (h 81 v2)] [] [some (mvR 68), some (mvI v2), some (mvI 2), some (mvI v1), some (mvI (h 81 v2)), none, none, none] mq136 (mvDec_of cd136 rfl) lk_10_160 mq44 (by decide) rfl rfl (Nat.le_of_ble_eq_true rfl) (Nat.le_of_ble_eq_true rfl) (by decide) rfl mis68 rfl (ri_bind H (fun r4 h3 H => ?_))
        refine rc_aload_n mq136 (mvDec_of cd136 rfl) rfl ?_
        refine rc_getR 96 mq136 (mvDec_of cd136 rfl) fl_10_92 mis68 rfl (gr_68_42 hG) (by decide) ?_
        refine rc_iload_n mq136 (mvDec_of cd136 rfl) rfl ?_
        obtain ⟨⟨hb0, hb1⟩, H⟩ := H
        refine rc_iald mq136 (mvDec_of cd136 rfl) mis96 hb0 hb1 ?_
        refine rc_icmp_lt (t := 57) mq136 (mvDec_of cd136 rfl) rfl (fun hc => ?_) (fun hc => ?_)
        · replace H := H.1 hc
          refine rc_iinc [some (mvR 68), some (mvI l1), some (mvI (mw (l2 + 1))), some (mvI v1), some (mvI v2)] mq136 (mvDec_of cd136 rfl) rfl rfl ?_
          refine rc_goto (t := 2) mq136 (mvDec_of cd136 rfl) rfl ?_
          exact H
        · replace H := H.2 hc
          refine rc_iload_n mq136 (mvDec_of cd136 rfl) rfl ?_
          exact rc_iret mq136 (mvDec_of cd136 rfl) ⟨_, _, rfl, rfl, H⟩
abbrev MD_shots (g : Nat → Nat → Nat) (h : Nat → Int → Int) (x1 : Int) (K : Int → (Nat → Int → Int) → Prop) : Prop := RI 137 0 [some (mvR 68), some (mvI x1)] [] g h K
theorem MD_shots_wp {sw : Bool} {g : Nat → Nat → Nat} {h : Nat → Int → Int} {x1 : Int} {K : Int → (Nat → Int → Int) → Prop} (hG : Gok sw g)  (H :
  ((x1 < 0 →
    K (-102) h) ∧
  (0 ≤ x1 →
    ((2 < x1 →
      K (-102) h) ∧
    (x1 ≤ 2 →
      (((h 68 12) = 0 →
        K (-103) h) ∧
      (¬ (h 68 12) = 0 →
        ((¬ x1 = 0 →
          ((¬ x1 = 1 →
            K (h 68 15) h) ∧
          (x1 = 1 →
            K (h 68 14) h))) ∧
        (x1 = 0 →
          K (h 68 13) h))))))))) : MD_shots g h x1 K := by
  refine rc_iload_n mq137 (mvDec_of cd137 rfl) rfl ?_
  refine rc_iconst mq137 (mvDec_of cd137 rfl) (by decide) ?_
  refine rc_iconst mq137 (mvDec_of cd137 rfl) (by decide) ?_
  refine rc_callS [mvI x1, mvI 0, mvI 2] [] [some (mvI x1), some (mvI 0), some (mvI 2)] mq137 (mvDec_of cd137 rfl) lk_10_95 mq38 (by decide) rfl rfl (Nat.le_of_ble_eq_true rfl) (Nat.le_of_ble_eq_true rfl) (by decide) rfl ?_
  refine rc_iload_n mq38 (mvDec_of cd38 rfl) rfl ?_
  refine rc_iload_n mq38 (mvDec_of cd38 rfl) rfl ?_
  refine rc_icmp_lt (t := 14) mq38 (mvDec_of cd38 rfl) rfl (fun hc => ?_) (fun hc => ?_)
  · replace H := H.1 hc
    refine rc_iconst mq38 (mvDec_of cd38 rfl) (by decide) ?_
    refine rc_zret mq38 (mvDec_of cd38 rfl) (Or.inl rfl) ?_
    show Rch 137 6 [some (mvR 68), some (mvI x1)] [mvI 0] (97, g, h) _
    refine rc_ifF (t := 12) mq137 (mvDec_of cd137 rfl) rfl rfl ?_
    refine rc_bipush mq137 (mvDec_of cd137 rfl) (by decide) ?_
    exact rc_iret mq137 (mvDec_of cd137 rfl) ⟨_, _, rfl, rfl, H⟩
  · replace H := H.2 hc
    refine rc_iload_n mq38 (mvDec_of cd38 rfl) rfl ?_
    refine rc_iload_n mq38 (mvDec_of cd38 rfl) rfl ?_
    refine rc_icmp_gt (t := 14) mq38 (mvDec_of cd38 rfl) rfl (fun hc => ?_) (fun hc => ?_)
    · replace H := H.1 hc
      refine rc_iconst mq38 (mvDec_of cd38 rfl) (by decide) ?_
      refine rc_zret mq38 (mvDec_of cd38 rfl) (Or.inl rfl) ?_
      show Rch 137 6 [some (mvR 68), some (mvI x1)] [mvI 0] (97, g, h) _
      refine rc_ifF (t := 12) mq137 (mvDec_of cd137 rfl) rfl rfl ?_
      refine rc_bipush mq137 (mvDec_of cd137 rfl) (by decide) ?_
      exact rc_iret mq137 (mvDec_of cd137 rfl) ⟨_, _, rfl, rfl, H⟩
    · replace H := H.2 hc
      refine rc_iconst mq38 (mvDec_of cd38 rfl) (by decide) ?_
      refine rc_goto (t := 15) mq38 (mvDec_of cd38 rfl) rfl ?_
      refine rc_zret mq38 (mvDec_of cd38 rfl) (Or.inr rfl) ?_
      show Rch 137 6 [some (mvR 68), some (mvI x1)] [mvI 1] (97, g, h) _
      refine rc_ifT (t := 12) mq137 (mvDec_of cd137 rfl) rfl rfl ?_
      refine rc_aload_n mq137 (mvDec_of cd137 rfl) rfl ?_
      refine rc_getI 12 mq137 (mvDec_of cd137 rfl) fl_10_151 mis68 rfl (by decide) (by decide) ?_
      refine rc_if_eq (t := 27) mq137 (mvDec_of cd137 rfl) rfl (fun hc => ?_) (fun hc => ?_)
      · replace H := H.1 hc
        refine rc_bipush mq137 (mvDec_of cd137 rfl) (by decide) ?_
        exact rc_iret mq137 (mvDec_of cd137 rfl) ⟨_, _, rfl, rfl, H⟩
      · replace H := H.2 hc
        refine rc_aload_n mq137 (mvDec_of cd137 rfl) rfl ?_
        refine rc_iload_n mq137 (mvDec_of cd137 rfl) rfl ?_
        refine rc_callV [mvR 68, mvI x1] [] [some (mvR 68), some (mvI x1)] mq137 (mvDec_of cd137 rfl) lk_10_393 mq62 (by decide) rfl rfl (Nat.le_of_ble_eq_true rfl) (Nat.le_of_ble_eq_true rfl) (by decide) rfl mis68 rfl ?_
        refine rc_iload_n mq62 (mvDec_of cd62 rfl) rfl ?_
        refine rc_if_ne (t := 11) mq62 (mvDec_of cd62 rfl) rfl (fun hc => ?_) (fun hc => ?_)
        · replace H := H.1 hc
          refine rc_iload_n mq62 (mvDec_of cd62 rfl) rfl ?_
          refine rc_iconst mq62 (mvDec_of cd62 rfl) (by decide) ?_
          refine rc_icmp_ne (t := 23) mq62 (mvDec_of cd62 rfl) rfl (fun hc => ?_) (fun hc => ?_)
          · replace H := H.1 hc
            refine rc_aload_n mq62 (mvDec_of cd62 rfl) rfl ?_
            refine rc_getI 15 mq62 (mvDec_of cd62 rfl) fl_10_366 mis68 rfl (by decide) (by decide) ?_
            refine rc_iret mq62 (mvDec_of cd62 rfl) ?_
            show Rch 137 24 [some (mvR 68), some (mvI x1)] [mvI (h 68 15)] (97, g, h) _
            refine rc_goto (t := 29) mq137 (mvDec_of cd137 rfl) rfl ?_
            exact rc_iret mq137 (mvDec_of cd137 rfl) ⟨_, _, rfl, rfl, H⟩
          · replace H := H.2 hc
            refine rc_aload_n mq62 (mvDec_of cd62 rfl) rfl ?_
            refine rc_getI 14 mq62 (mvDec_of cd62 rfl) fl_10_378 mis68 rfl (by decide) (by decide) ?_
            refine rc_goto (t := 27) mq62 (mvDec_of cd62 rfl) rfl ?_
            refine rc_iret mq62 (mvDec_of cd62 rfl) ?_
            show Rch 137 24 [some (mvR 68), some (mvI x1)] [mvI (h 68 14)] (97, g, h) _
            refine rc_goto (t := 29) mq137 (mvDec_of cd137 rfl) rfl ?_
            exact rc_iret mq137 (mvDec_of cd137 rfl) ⟨_, _, rfl, rfl, H⟩
        · replace H := H.2 hc
          refine rc_aload_n mq62 (mvDec_of cd62 rfl) rfl ?_
          refine rc_getI 13 mq62 (mvDec_of cd62 rfl) fl_10_387 mis68 rfl (by decide) (by decide) ?_
          refine rc_goto (t := 27) mq62 (mvDec_of cd62 rfl) rfl ?_
          refine rc_iret mq62 (mvDec_of cd62 rfl) ?_
          show Rch 137 24 [some (mvR 68), some (mvI x1)] [mvI (h 68 13)] (97, g, h) _
          refine rc_goto (t := 29) mq137 (mvDec_of cd137 rfl) rfl ?_
          exact rc_iret mq137 (mvDec_of cd137 rfl) ⟨_, _, rfl, rfl, H⟩
abbrev MD_howMany (g : Nat → Nat → Nat) (h : Nat → Int → Int) (x1 : Int) (K : Int → (Nat → Int → Int) → Prop) : Prop := RI 138 0 [some (mvR 68), some (mvI x1)] [] g h K
theorem MD_howMany_wp {sw : Bool} {g : Nat → Nat → Nat} {h : Nat → Int → Int} {x1 : Int} {K : Int → (Nat → Int → Int) → Prop} (hG : Gok sw g)  (H :
  (((x1 < 0 ∨ 7 < x1) →
    K (-102) h) ∧
  (x1 = 0 →
    K (h 68 0) h) ∧
  (x1 = 1 →
    MD_eventsAll g h (fun r2 h1 =>
      K r2 h1)) ∧
  (x1 = 2 →
    MD_eventsOf g h (mw (x1 - 2)) (fun r4 h3 =>
      K r4 h3)) ∧
  (x1 = 3 →
    MD_eventsOf g h (mw (x1 - 2)) (fun r6 h5 =>
      K r6 h5)) ∧
  (x1 = 4 →
    MD_eventsOf g h (mw (x1 - 2)) (fun r8 h7 =>
      K r8 h7)) ∧
  (x1 = 5 →
    K (h 68 17) h) ∧
  (x1 = 6 →
    K (h 68 9) h) ∧
  (x1 = 7 →
    K (h 68 16) h))) : MD_howMany g h x1 K := by
  refine rc_iload_n mq138 (mvDec_of cd138 rfl) rfl ?_
  have hsw : (x1 < 0 ∨ 7 < x1) ∨ x1 = 0 ∨ x1 = 1 ∨ x1 = 2 ∨ x1 = 3 ∨ x1 = 4 ∨ x1 = 5 ∨ x1 = 6 ∨ x1 = 7 := by omega
  rcases hsw with hsw | hsw | hsw | hsw | hsw | hsw | hsw | hsw | hsw
  · replace H := H.1 hsw
    refine rc_swD (t := 81) mq138 (mvDec_of cd138 rfl) hsw rfl ?_
    refine rc_bipush mq138 (mvDec_of cd138 rfl) (by decide) ?_
    exact rc_iret mq138 (mvDec_of cd138 rfl) ⟨_, _, rfl, rfl, H⟩
  · replace H := H.2.1 hsw
    refine rc_swI (t := 48) mq138 (mvDec_of cd138 rfl) (by omega) (by rw [hsw]; rfl) rfl ?_
    refine rc_aload_n mq138 (mvDec_of cd138 rfl) rfl ?_
    refine rc_getI 0 mq138 (mvDec_of cd138 rfl) fl_10_138 mis68 rfl (by decide) (by decide) ?_
    exact rc_iret mq138 (mvDec_of cd138 rfl) ⟨_, _, rfl, rfl, H⟩
  · replace H := H.2.2.1 hsw
    refine rc_swI (t := 53) mq138 (mvDec_of cd138 rfl) (by omega) (by rw [hsw]; rfl) rfl ?_
    refine rc_aload_n mq138 (mvDec_of cd138 rfl) rfl ?_
    refine rc_callV [mvR 68] [] [some (mvR 68), none, none] mq138 (mvDec_of cd138 rfl) lk_10_173 mq46 (by decide) rfl rfl (Nat.le_of_ble_eq_true rfl) (Nat.le_of_ble_eq_true rfl) (by decide) rfl mis68 rfl (ri_bind H (fun r2 h1 H => ?_))
    exact rc_iret mq138 (mvDec_of cd138 rfl) ⟨_, _, rfl, rfl, H⟩
  · replace H := H.2.2.2.1 hsw
    refine rc_swI (t := 58) mq138 (mvDec_of cd138 rfl) (by omega) (by rw [hsw]; rfl) rfl ?_
    refine rc_aload_n mq138 (mvDec_of cd138 rfl) rfl ?_
    refine rc_iload_n mq138 (mvDec_of cd138 rfl) rfl ?_
    refine rc_iconst mq138 (mvDec_of cd138 rfl) (by decide) ?_
    refine rc_isub mq138 (mvDec_of cd138 rfl) ?_
    refine rc_callV [mvR 68, mvI (mw (x1 - 2))] [] [some (mvR 68), some (mvI (mw (x1 - 2))), none, none, none] mq138 (mvDec_of cd138 rfl) lk_10_396 mq63 (by decide) rfl rfl (Nat.le_of_ble_eq_true rfl) (Nat.le_of_ble_eq_true rfl) (by decide) rfl mis68 rfl (ri_bind H (fun r4 h3 H => ?_))
    exact rc_iret mq138 (mvDec_of cd138 rfl) ⟨_, _, rfl, rfl, H⟩
  · replace H := H.2.2.2.2.1 hsw
    refine rc_swI (t := 58) mq138 (mvDec_of cd138 rfl) (by omega) (by rw [hsw]; rfl) rfl ?_
    refine rc_aload_n mq138 (mvDec_of cd138 rfl) rfl ?_
    refine rc_iload_n mq138 (mvDec_of cd138 rfl) rfl ?_
    refine rc_iconst mq138 (mvDec_of cd138 rfl) (by decide) ?_
    refine rc_isub mq138 (mvDec_of cd138 rfl) ?_
    refine rc_callV [mvR 68, mvI (mw (x1 - 2))] [] [some (mvR 68), some (mvI (mw (x1 - 2))), none, none, none] mq138 (mvDec_of cd138 rfl) lk_10_396 mq63 (by decide) rfl rfl (Nat.le_of_ble_eq_true rfl) (Nat.le_of_ble_eq_true rfl) (by decide) rfl mis68 rfl (ri_bind H (fun r6 h5 H => ?_))
    exact rc_iret mq138 (mvDec_of cd138 rfl) ⟨_, _, rfl, rfl, H⟩
  · replace H := H.2.2.2.2.2.1 hsw
    refine rc_swI (t := 58) mq138 (mvDec_of cd138 rfl) (by omega) (by rw [hsw]; rfl) rfl ?_
    refine rc_aload_n mq138 (mvDec_of cd138 rfl) rfl ?_
    refine rc_iload_n mq138 (mvDec_of cd138 rfl) rfl ?_
    refine rc_iconst mq138 (mvDec_of cd138 rfl) (by decide) ?_
    refine rc_isub mq138 (mvDec_of cd138 rfl) ?_
    refine rc_callV [mvR 68, mvI (mw (x1 - 2))] [] [some (mvR 68), some (mvI (mw (x1 - 2))), none, none, none] mq138 (mvDec_of cd138 rfl) lk_10_396 mq63 (by decide) rfl rfl (Nat.le_of_ble_eq_true rfl) (Nat.le_of_ble_eq_true rfl) (by decide) rfl mis68 rfl (ri_bind H (fun r8 h7 H => ?_))
    exact rc_iret mq138 (mvDec_of cd138 rfl) ⟨_, _, rfl, rfl, H⟩
  · replace H := H.2.2.2.2.2.2.1 hsw
    refine rc_swI (t := 66) mq138 (mvDec_of cd138 rfl) (by omega) (by rw [hsw]; rfl) rfl ?_
    refine rc_aload_n mq138 (mvDec_of cd138 rfl) rfl ?_
    refine rc_getI 17 mq138 (mvDec_of cd138 rfl) fl_10_99 mis68 rfl (by decide) (by decide) ?_
    exact rc_iret mq138 (mvDec_of cd138 rfl) ⟨_, _, rfl, rfl, H⟩
  · replace H := H.2.2.2.2.2.2.2.1 hsw
    refine rc_swI (t := 71) mq138 (mvDec_of cd138 rfl) (by omega) (by rw [hsw]; rfl) rfl ?_
    refine rc_aload_n mq138 (mvDec_of cd138 rfl) rfl ?_
    refine rc_getI 9 mq138 (mvDec_of cd138 rfl) fl_10_141 mis68 rfl (by decide) (by decide) ?_
    exact rc_iret mq138 (mvDec_of cd138 rfl) ⟨_, _, rfl, rfl, H⟩
  · replace H := H.2.2.2.2.2.2.2.2 hsw
    refine rc_swI (t := 76) mq138 (mvDec_of cd138 rfl) (by omega) (by rw [hsw]; rfl) rfl ?_
    refine rc_aload_n mq138 (mvDec_of cd138 rfl) rfl ?_
    refine rc_getI 16 mq138 (mvDec_of cd138 rfl) fl_10_390 mis68 rfl (by decide) (by decide) ?_
    exact rc_iret mq138 (mvDec_of cd138 rfl) ⟨_, _, rfl, rfl, H⟩
abbrev MD_mixPlayed (g : Nat → Nat → Nat) (h : Nat → Int → Int)  (K : (Nat → Int → Int) → Prop) : Prop := RV 139 0 [some (mvR 68), none] [] g h K
abbrev MD_mixPlayed_2 (g : Nat → Nat → Nat) (h : Nat → Int → Int) (l1 : Int) (K : (Nat → Int → Int) → Prop) : Prop := RV 139 2 [some (mvR 68), some (mvI l1)] [] g h K
abbrev MD_mixPlayed_29 (g : Nat → Nat → Nat) (h : Nat → Int → Int) (l1 : Int) (K : (Nat → Int → Int) → Prop) : Prop := RV 139 29 [some (mvR 68), some (mvI l1)] [] g h K
theorem MD_mixPlayed_wp {sw : Bool} {g : Nat → Nat → Nat} {h : Nat → Int → Int}  {K : (Nat → Int → Int) → Prop} (hG : Gok sw g)  (H :
  MD_mixPlayed_2 g h 0 K) : MD_mixPlayed g h  K := by
  refine rc_iconst mq139 (mvDec_of cd139 rfl) (by decide) ?_
  refine rc_istore_n [some (mvR 68), some (mvI 0)] mq139 (mvDec_of cd139 rfl) rfl ?_
  exact H
theorem MD_mixPlayed_2_wp {sw : Bool} {g : Nat → Nat → Nat} {h : Nat → Int → Int} {l1 : Int} {K : (Nat → Int → Int) → Prop} (hG : Gok sw g)  (H :
  MD_eventsAll g h (fun r2 h1 =>
    ((r2 ≤ l1 →
      MD_mixPlayed_29 g h1 0 K) ∧
    (l1 < r2 →
      (0 ≤ l1 ∧ l1 < 16) ∧
      (∀ h3, h3 = mvUpd h1 68 44 (mwl ((mwl (31 * (h1 68 44))) + (h1 75 l1))) →
      MD_mixPlayed_2 g h3 (mw (l1 + 1)) K))))) : MD_mixPlayed_2 g h l1 K := by
  refine rc_iload_n mq139 (mvDec_of cd139 rfl) rfl ?_
  refine rc_aload_n mq139 (mvDec_of cd139 rfl) rfl ?_
  refine rc_callV [mvR 68] [mvI l1] [some (mvR 68), none, none] mq139 (mvDec_of cd139 rfl) lk_10_173 mq46 (by decide) rfl rfl (Nat.le_of_ble_eq_true rfl) (Nat.le_of_ble_eq_true rfl) (by decide) rfl mis68 rfl (ri_bind H (fun r2 h1 H => ?_))
  refine rc_icmp_ge (t := 27) mq139 (mvDec_of cd139 rfl) rfl (fun hc => ?_) (fun hc => ?_)
  · replace H := H.1 hc
    refine rc_iconst mq139 (mvDec_of cd139 rfl) (by decide) ?_
    refine rc_istore_n [some (mvR 68), some (mvI 0)] mq139 (mvDec_of cd139 rfl) rfl ?_
    exact H
  · replace H := H.2 hc
    refine rc_aload_n mq139 (mvDec_of cd139 rfl) rfl ?_
    refine rc_aload_n mq139 (mvDec_of cd139 rfl) rfl ?_
    refine rc_getR 75 mq139 (mvDec_of cd139 rfl) fl_10_28 mis68 rfl (gr_68_11 hG) (by decide) ?_
    refine rc_iload_n mq139 (mvDec_of cd139 rfl) rfl ?_
    obtain ⟨⟨hb0, hb1⟩, H⟩ := H
    refine rc_iald mq139 (mvDec_of cd139 rfl) mis75 hb0 hb1 ?_
    refine rc_i2l mq139 (mvDec_of cd139 rfl) ?_
    refine rc_callV [mvR 68, mvJ (h1 75 l1)] [] [some (mvR 68), some (mvJ (h1 75 l1)), none] mq139 (mvDec_of cd139 rfl) lk_10_407 mq64 (by decide) rfl rfl (Nat.le_of_ble_eq_true rfl) (Nat.le_of_ble_eq_true rfl) (by decide) rfl mis68 rfl ?_
    refine rc_aload_n mq64 (mvDec_of cd64 rfl) rfl ?_
    refine rc_ldc2 mq64 (mvDec_of cd64 rfl) rfl ?_
    refine rc_aload_n mq64 (mvDec_of cd64 rfl) rfl ?_
    refine rc_getJ 44 mq64 (mvDec_of cd64 rfl) fl_10_404 mis68 rfl (by decide) rfl ?_
    refine rc_lmul mq64 (mvDec_of cd64 rfl) ?_
    refine rc_lload_n mq64 (mvDec_of cd64 rfl) rfl ?_
    refine rc_ladd mq64 (mvDec_of cd64 rfl) ?_
    refine rc_putJ 44 mq64 (mvDec_of cd64 rfl) fl_10_404 mis68 rfl (fun z => absurd z (by decide)) rfl ?_
    refine rc_heap (fun h3 hh => ?_)
    replace H := H h3 hh
    refine rc_vret mq64 (mvDec_of cd64 rfl) ?_
    show Rch 139 21 [some (mvR 68), some (mvI l1)] [] (97, g, h3) _
    refine rc_iinc [some (mvR 68), some (mvI (mw (l1 + 1)))] mq139 (mvDec_of cd139 rfl) rfl rfl ?_
    refine rc_goto (t := 2) mq139 (mvDec_of cd139 rfl) rfl ?_
    exact H
theorem MD_mixPlayed_29_wp {sw : Bool} {g : Nat → Nat → Nat} {h : Nat → Int → Int} {l1 : Int} {K : (Nat → Int → Int) → Prop} (hG : Gok sw g)  (H :
  ((3 ≤ l1 →
    K h) ∧
  (l1 < 3 →
    (((h 68 12) = 0 →
      K h) ∧
    (¬ (h 68 12) = 0 →
      ((¬ l1 = 0 →
        ((¬ l1 = 1 →
          (∀ h1, h1 = mvUpd h 68 44 (mwl ((mwl (31 * (h 68 44))) + (h 68 15))) →
          MD_mixPlayed_29 g h1 (mw (l1 + 1)) K)) ∧
        (l1 = 1 →
          (∀ h2, h2 = mvUpd h 68 44 (mwl ((mwl (31 * (h 68 44))) + (h 68 14))) →
          MD_mixPlayed_29 g h2 (mw (l1 + 1)) K)))) ∧
      (l1 = 0 →
        (∀ h3, h3 = mvUpd h 68 44 (mwl ((mwl (31 * (h 68 44))) + (h 68 13))) →
        MD_mixPlayed_29 g h3 (mw (l1 + 1)) K)))))))) : MD_mixPlayed_29 g h l1 K := by
  refine rc_iload_n mq139 (mvDec_of cd139 rfl) rfl ?_
  refine rc_iconst mq139 (mvDec_of cd139 rfl) (by decide) ?_
  refine rc_icmp_ge (t := 57) mq139 (mvDec_of cd139 rfl) rfl (fun hc => ?_) (fun hc => ?_)
  · replace H := H.1 hc
    exact rc_vret mq139 (mvDec_of cd139 rfl) ⟨_, rfl, rfl, H⟩
  · replace H := H.2 hc
    refine rc_aload_n mq139 (mvDec_of cd139 rfl) rfl ?_
    refine rc_getI 12 mq139 (mvDec_of cd139 rfl) fl_10_151 mis68 rfl (by decide) (by decide) ?_
    refine rc_if_eq (t := 57) mq139 (mvDec_of cd139 rfl) rfl (fun hc => ?_) (fun hc => ?_)
    · replace H := H.1 hc
      exact rc_vret mq139 (mvDec_of cd139 rfl) ⟨_, rfl, rfl, H⟩
    · replace H := H.2 hc
      refine rc_aload_n mq139 (mvDec_of cd139 rfl) rfl ?_
      refine rc_aload_n mq139 (mvDec_of cd139 rfl) rfl ?_
      refine rc_iload_n mq139 (mvDec_of cd139 rfl) rfl ?_
      refine rc_callV [mvR 68, mvI l1] [mvR 68] [some (mvR 68), some (mvI l1)] mq139 (mvDec_of cd139 rfl) lk_10_393 mq62 (by decide) rfl rfl (Nat.le_of_ble_eq_true rfl) (Nat.le_of_ble_eq_true rfl) (by decide) rfl mis68 rfl ?_
      refine rc_iload_n mq62 (mvDec_of cd62 rfl) rfl ?_
      refine rc_if_ne (t := 11) mq62 (mvDec_of cd62 rfl) rfl (fun hc => ?_) (fun hc => ?_)
      · replace H := H.1 hc
        refine rc_iload_n mq62 (mvDec_of cd62 rfl) rfl ?_
        refine rc_iconst mq62 (mvDec_of cd62 rfl) (by decide) ?_
        refine rc_icmp_ne (t := 23) mq62 (mvDec_of cd62 rfl) rfl (fun hc => ?_) (fun hc => ?_)
        · replace H := H.1 hc
          refine rc_aload_n mq62 (mvDec_of cd62 rfl) rfl ?_
          refine rc_getI 15 mq62 (mvDec_of cd62 rfl) fl_10_366 mis68 rfl (by decide) (by decide) ?_
          refine rc_iret mq62 (mvDec_of cd62 rfl) ?_
          show Rch 139 47 [some (mvR 68), some (mvI l1)] [mvI (h 68 15), mvR 68] (97, g, h) _
          refine rc_i2l mq139 (mvDec_of cd139 rfl) ?_
          refine rc_callV [mvR 68, mvJ (h 68 15)] [] [some (mvR 68), some (mvJ (h 68 15)), none] mq139 (mvDec_of cd139 rfl) lk_10_407 mq64 (by decide) rfl rfl (Nat.le_of_ble_eq_true rfl) (Nat.le_of_ble_eq_true rfl) (by decide) rfl mis68 rfl ?_
          refine rc_aload_n mq64 (mvDec_of cd64 rfl) rfl ?_
          refine rc_ldc2 mq64 (mvDec_of cd64 rfl) rfl ?_
          refine rc_aload_n mq64 (mvDec_of cd64 rfl) rfl ?_
          refine rc_getJ 44 mq64 (mvDec_of cd64 rfl) fl_10_404 mis68 rfl (by decide) rfl ?_
          refine rc_lmul mq64 (mvDec_of cd64 rfl) ?_
          refine rc_lload_n mq64 (mvDec_of cd64 rfl) rfl ?_
          refine rc_ladd mq64 (mvDec_of cd64 rfl) ?_
          refine rc_putJ 44 mq64 (mvDec_of cd64 rfl) fl_10_404 mis68 rfl (fun z => absurd z (by decide)) rfl ?_
          refine rc_heap (fun h1 hh => ?_)
          replace H := H h1 hh
          refine rc_vret mq64 (mvDec_of cd64 rfl) ?_
          show Rch 139 51 [some (mvR 68), some (mvI l1)] [] (97, g, h1) _
          refine rc_iinc [some (mvR 68), some (mvI (mw (l1 + 1)))] mq139 (mvDec_of cd139 rfl) rfl rfl ?_
          refine rc_goto (t := 29) mq139 (mvDec_of cd139 rfl) rfl ?_
          exact H
        · replace H := H.2 hc
          refine rc_aload_n mq62 (mvDec_of cd62 rfl) rfl ?_
          refine rc_getI 14 mq62 (mvDec_of cd62 rfl) fl_10_378 mis68 rfl (by decide) (by decide) ?_
          refine rc_goto (t := 27) mq62 (mvDec_of cd62 rfl) rfl ?_
          refine rc_iret mq62 (mvDec_of cd62 rfl) ?_
          show Rch 139 47 [some (mvR 68), some (mvI l1)] [mvI (h 68 14), mvR 68] (97, g, h) _
          refine rc_i2l mq139 (mvDec_of cd139 rfl) ?_
          refine rc_callV [mvR 68, mvJ (h 68 14)] [] [some (mvR 68), some (mvJ (h 68 14)), none] mq139 (mvDec_of cd139 rfl) lk_10_407 mq64 (by decide) rfl rfl (Nat.le_of_ble_eq_true rfl) (Nat.le_of_ble_eq_true rfl) (by decide) rfl mis68 rfl ?_
          refine rc_aload_n mq64 (mvDec_of cd64 rfl) rfl ?_
          refine rc_ldc2 mq64 (mvDec_of cd64 rfl) rfl ?_
          refine rc_aload_n mq64 (mvDec_of cd64 rfl) rfl ?_
          refine rc_getJ 44 mq64 (mvDec_of cd64 rfl) fl_10_404 mis68 rfl (by decide) rfl ?_
          refine rc_lmul mq64 (mvDec_of cd64 rfl) ?_
          refine rc_lload_n mq64 (mvDec_of cd64 rfl) rfl ?_
          refine rc_ladd mq64 (mvDec_of cd64 rfl) ?_
          refine rc_putJ 44 mq64 (mvDec_of cd64 rfl) fl_10_404 mis68 rfl (fun z => absurd z (by decide)) rfl ?_
          refine rc_heap (fun h2 hh => ?_)
          replace H := H h2 hh
          refine rc_vret mq64 (mvDec_of cd64 rfl) ?_
          show Rch 139 51 [some (mvR 68), some (mvI l1)] [] (97, g, h2) _
          refine rc_iinc [some (mvR 68), some (mvI (mw (l1 + 1)))] mq139 (mvDec_of cd139 rfl) rfl rfl ?_
          refine rc_goto (t := 29) mq139 (mvDec_of cd139 rfl) rfl ?_
          exact H
      · replace H := H.2 hc
        refine rc_aload_n mq62 (mvDec_of cd62 rfl) rfl ?_
        refine rc_getI 13 mq62 (mvDec_of cd62 rfl) fl_10_387 mis68 rfl (by decide) (by decide) ?_
        refine rc_goto (t := 27) mq62 (mvDec_of cd62 rfl) rfl ?_
        refine rc_iret mq62 (mvDec_of cd62 rfl) ?_
        show Rch 139 47 [some (mvR 68), some (mvI l1)] [mvI (h 68 13), mvR 68] (97, g, h) _
        refine rc_i2l mq139 (mvDec_of cd139 rfl) ?_
        refine rc_callV [mvR 68, mvJ (h 68 13)] [] [some (mvR 68), some (mvJ (h 68 13)), none] mq139 (mvDec_of cd139 rfl) lk_10_407 mq64 (by decide) rfl rfl (Nat.le_of_ble_eq_true rfl) (Nat.le_of_ble_eq_true rfl) (by decide) rfl mis68 rfl ?_
        refine rc_aload_n mq64 (mvDec_of cd64 rfl) rfl ?_
        refine rc_ldc2 mq64 (mvDec_of cd64 rfl) rfl ?_
        refine rc_aload_n mq64 (mvDec_of cd64 rfl) rfl ?_
        refine rc_getJ 44 mq64 (mvDec_of cd64 rfl) fl_10_404 mis68 rfl (by decide) rfl ?_
        refine rc_lmul mq64 (mvDec_of cd64 rfl) ?_
        refine rc_lload_n mq64 (mvDec_of cd64 rfl) rfl ?_
        refine rc_ladd mq64 (mvDec_of cd64 rfl) ?_
        refine rc_putJ 44 mq64 (mvDec_of cd64 rfl) fl_10_404 mis68 rfl (fun z => absurd z (by decide)) rfl ?_
        refine rc_heap (fun h3 hh => ?_)
        replace H := H h3 hh
        refine rc_vret mq64 (mvDec_of cd64 rfl) ?_
        show Rch 139 51 [some (mvR 68), some (mvI l1)] [] (97, g, h3) _
        refine rc_iinc [some (mvR 68), some (mvI (mw (l1 + 1)))] mq139 (mvDec_of cd139 rfl) rfl rfl ?_
        refine rc_goto (t := 29) mq139 (mvDec_of cd139 rfl) rfl ?_
        exact H
abbrev MD_read (g : Nat → Nat → Nat) (h : Nat → Int → Int)  (K : Int → (Nat → Int → Int) → Prop) : Prop := RI 159 0 [some (mvR 68), none] [] g h K
abbrev MD_read_17 (g : Nat → Nat → Nat) (h : Nat → Int → Int) (l1 : Int) (K : Int → (Nat → Int → Int) → Prop) : Prop := RI 159 17 [some (mvR 68), some (mvI l1)] [] g h K
abbrev MD_read_37 (g : Nat → Nat → Nat) (h : Nat → Int → Int) (l1 : Int) (K : Int → (Nat → Int → Int) → Prop) : Prop := RI 159 37 [some (mvR 68), some (mvI l1)] [] g h K
theorem MD_read_wp {sw : Bool} {g : Nat → Nat → Nat} {h : Nat → Int → Int}  {K : Int → (Nat → Int → Int) → Prop} (hG : Gok sw g)  (H :
  (∀ h1, h1 = mvUpd h 68 19 1 →
  (∀ h2, h2 = mvUpd h1 68 20 0 →
  (∀ h3, h3 = mvUpd h2 68 21 (-1) →
  MD_read_17 g h3 0 K)))) : MD_read g h  K := by
  refine rc_aload_n mq159 (mvDec_of cd159 rfl) rfl ?_
  refine rc_iconst mq159 (mvDec_of cd159 rfl) (by decide) ?_
  refine rc_putI 19 mq159 (mvDec_of cd159 rfl) fl_10_103 mis68 rfl (fun z => absurd z (by decide)) (Or.inl rfl) ?_
  refine rc_heap (fun h1 hh => ?_)
  replace H := H h1 hh
  refine rc_aload_n mq159 (mvDec_of cd159 rfl) rfl ?_
  refine rc_iconst mq159 (mvDec_of cd159 rfl) (by decide) ?_
  refine rc_putI 20 mq159 (mvDec_of cd159 rfl) fl_10_106 mis68 rfl (fun z => absurd z (by decide)) (Or.inl rfl) ?_
  refine rc_heap (fun h2 hh => ?_)
  replace H := H h2 hh
  refine rc_aload_n mq159 (mvDec_of cd159 rfl) rfl ?_
  refine rc_iconst mq159 (mvDec_of cd159 rfl) (by decide) ?_
  refine rc_putI 21 mq159 (mvDec_of cd159 rfl) fl_10_109 mis68 rfl (fun z => absurd z (by decide)) (Or.inl rfl) ?_
  refine rc_heap (fun h3 hh => ?_)
  replace H := H h3 hh
  refine rc_iconst mq159 (mvDec_of cd159 rfl) (by decide) ?_
  refine rc_istore_n [some (mvR 68), some (mvI 0)] mq159 (mvDec_of cd159 rfl) rfl ?_
  exact H
theorem MD_read_17_wp {sw : Bool} {g : Nat → Nat → Nat} {h : Nat → Int → Int} {l1 : Int} {K : Int → (Nat → Int → Int) → Prop} (hG : Gok sw g)  (H :
  ((4 ≤ l1 →
    MD_read_37 g h 0 K) ∧
  (l1 < 4 →
    (0 ≤ l1 ∧ l1 < 4) ∧
    (∀ h1, h1 = mvUpd h 77 l1 0 →
    MD_read_17 g h1 (mw (l1 + 1)) K)))) : MD_read_17 g h l1 K := by
  refine rc_iload_n mq159 (mvDec_of cd159 rfl) rfl ?_
  refine rc_iconst mq159 (mvDec_of cd159 rfl) (by decide) ?_
  refine rc_icmp_ge (t := 35) mq159 (mvDec_of cd159 rfl) rfl (fun hc => ?_) (fun hc => ?_)
  · replace H := H.1 hc
    refine rc_iconst mq159 (mvDec_of cd159 rfl) (by decide) ?_
    refine rc_istore_n [some (mvR 68), some (mvI 0)] mq159 (mvDec_of cd159 rfl) rfl ?_
    exact H
  · replace H := H.2 hc
    refine rc_aload_n mq159 (mvDec_of cd159 rfl) rfl ?_
    refine rc_getR 77 mq159 (mvDec_of cd159 rfl) fl_10_34 mis68 rfl (gr_68_22 hG) (by decide) ?_
    refine rc_iload_n mq159 (mvDec_of cd159 rfl) rfl ?_
    refine rc_iconst mq159 (mvDec_of cd159 rfl) (by decide) ?_
    obtain ⟨⟨hb0, hb1⟩, H⟩ := H
    refine rc_iast mq159 (mvDec_of cd159 rfl) mis77 hb0 hb1 ?_
    refine rc_heap (fun h1 hh => ?_)
    replace H := H h1 hh
    refine rc_iinc [some (mvR 68), some (mvI (mw (l1 + 1)))] mq159 (mvDec_of cd159 rfl) rfl rfl ?_
    refine rc_goto (t := 17) mq159 (mvDec_of cd159 rfl) rfl ?_
    exact H
theorem MD_read_37_wp {sw : Bool} {g : Nat → Nat → Nat} {h : Nat → Int → Int} {l1 : Int} {K : Int → (Nat → Int → Int) → Prop} (hG : Gok sw g)  (H :
  (((h 68 17) ≤ l1 →
    K l1 h) ∧
  (l1 < (h 68 17) →
    (0 ≤ l1 ∧ l1 < 36) ∧
    MD_takes g h (h 76 l1) (fun r2 h1 =>
      ((r2 = 0 →
        K l1 h1) ∧
      (¬ r2 = 0 →
        MD_read_37 g h1 (mw (l1 + 1)) K)))))) : MD_read_37 g h l1 K := by
  refine rc_iload_n mq159 (mvDec_of cd159 rfl) rfl ?_
  refine rc_aload_n mq159 (mvDec_of cd159 rfl) rfl ?_
  refine rc_getI 17 mq159 (mvDec_of cd159 rfl) fl_10_99 mis68 rfl (by decide) (by decide) ?_
  refine rc_icmp_ge (t := 64) mq159 (mvDec_of cd159 rfl) rfl (fun hc => ?_) (fun hc => ?_)
  · replace H := H.1 hc
    refine rc_iload_n mq159 (mvDec_of cd159 rfl) rfl ?_
    exact rc_iret mq159 (mvDec_of cd159 rfl) ⟨_, _, rfl, rfl, H⟩
  · replace H := H.2 hc
    refine rc_aload_n mq159 (mvDec_of cd159 rfl) rfl ?_
    refine rc_aload_n mq159 (mvDec_of cd159 rfl) rfl ?_
    refine rc_getR 76 mq159 (mvDec_of cd159 rfl) fl_10_31 mis68 rfl (gr_68_18 hG) (by decide) ?_
    refine rc_iload_n mq159 (mvDec_of cd159 rfl) rfl ?_
    obtain ⟨⟨hb0, hb1⟩, H⟩ := H
    refine rc_iald mq159 (mvDec_of cd159 rfl) mis76 hb0 hb1 ?_
    refine rc_callV [mvR 68, mvI (h 76 l1)] [] [some (mvR 68), some (mvI (h 76 l1)), none] mq159 (mvDec_of cd159 rfl) lk_10_116 mq112 (by decide) rfl rfl (Nat.le_of_ble_eq_true rfl) (Nat.le_of_ble_eq_true rfl) (by decide) rfl mis68 rfl (ri_bind H (fun r2 h1 H => ?_))
    refine rc_if_eq (t := 64) mq159 (mvDec_of cd159 rfl) rfl (fun hc => ?_) (fun hc => ?_)
    · replace H := H.1 hc
      refine rc_iload_n mq159 (mvDec_of cd159 rfl) rfl ?_
      exact rc_iret mq159 (mvDec_of cd159 rfl) ⟨_, _, rfl, rfl, H⟩
    · replace H := H.2 hc
      refine rc_iinc [some (mvR 68), some (mvI (mw (l1 + 1)))] mq159 (mvDec_of cd159 rfl) rfl rfl ?_
      refine rc_goto (t := 37) mq159 (mvDec_of cd159 rfl) rfl ?_
      exact H
abbrev MD_isOrdered (g : Nat → Nat → Nat) (h : Nat → Int → Int)  (K : Int → (Nat → Int → Int) → Prop) : Prop := RI 160 0 [some (mvR 68), none, none, none] [] g h K
abbrev MD_isOrdered_2 (g : Nat → Nat → Nat) (h : Nat → Int → Int) (l1 : Int) (u2 : Option Int) (u3 : Option Int) (K : Int → (Nat → Int → Int) → Prop) : Prop := RI 160 2 [some (mvR 68), some (mvI l1), u2.map mvI, u3.map mvI] [] g h K
abbrev MD_isOrdered_24 (g : Nat → Nat → Nat) (h : Nat → Int → Int) (l1 : Int) (l2 : Int) (u3 : Option Int) (K : Int → (Nat → Int → Int) → Prop) : Prop := RI 160 24 [some (mvR 68), some (mvI l1), some (mvI l2), u3.map mvI] [] g h K
abbrev MD_isOrdered_32 (g : Nat → Nat → Nat) (h : Nat → Int → Int) (l1 : Int) (l2 : Int) (l3 : Int) (K : Int → (Nat → Int → Int) → Prop) : Prop := RI 160 32 [some (mvR 68), some (mvI l1), some (mvI l2), some (mvI l3)] [] g h K
theorem MD_isOrdered_wp {sw : Bool} {g : Nat → Nat → Nat} {h : Nat → Int → Int}  {K : Int → (Nat → Int → Int) → Prop} (hG : Gok sw g)  (H :
  MD_isOrdered_2 g h 0 none none K) : MD_isOrdered g h  K := by
  refine rc_iconst mq160 (mvDec_of cd160 rfl) (by decide) ?_
  refine rc_istore_n [some (mvR 68), some (mvI 0), none, none] mq160 (mvDec_of cd160 rfl) rfl ?_
  exact H
theorem MD_isOrdered_2_wp {sw : Bool} {g : Nat → Nat → Nat} {h : Nat → Int → Int} {l1 : Int} {u2 : Option Int} {u3 : Option Int} {K : Int → (Nat → Int → Int) → Prop} (hG : Gok sw g)  (H :
  ((4 ≤ l1 →
    MD_isOrdered_24 g h 0 0 u3 K) ∧
  (l1 < 4 →
    (0 ≤ l1 ∧ l1 < 4) ∧
    (∀ h1, h1 = mvUpd h 80 l1 0 →
    MD_isOrdered_2 g h1 (mw (l1 + 1)) u2 u3 K)))) : MD_isOrdered_2 g h l1 u2 u3 K := by
  refine rc_iload_n mq160 (mvDec_of cd160 rfl) rfl ?_
  refine rc_iconst mq160 (mvDec_of cd160 rfl) (by decide) ?_
  refine rc_icmp_ge (t := 20) mq160 (mvDec_of cd160 rfl) rfl (fun hc => ?_) (fun hc => ?_)
  · replace H := H.1 hc
    refine rc_iconst mq160 (mvDec_of cd160 rfl) (by decide) ?_
    refine rc_istore_n [some (mvR 68), some (mvI 0), u2.map mvI, u3.map mvI] mq160 (mvDec_of cd160 rfl) rfl ?_
    refine rc_iconst mq160 (mvDec_of cd160 rfl) (by decide) ?_
    refine rc_istore_n [some (mvR 68), some (mvI 0), some (mvI 0), u3.map mvI] mq160 (mvDec_of cd160 rfl) rfl ?_
    exact H
  · replace H := H.2 hc
    refine rc_aload_n mq160 (mvDec_of cd160 rfl) rfl ?_
    refine rc_getR 80 mq160 (mvDec_of cd160 rfl) fl_10_43 mis68 rfl (gr_68_25 hG) (by decide) ?_
    refine rc_iload_n mq160 (mvDec_of cd160 rfl) rfl ?_
    refine rc_iconst mq160 (mvDec_of cd160 rfl) (by decide) ?_
    obtain ⟨⟨hb0, hb1⟩, H⟩ := H
    refine rc_iast mq160 (mvDec_of cd160 rfl) mis80 hb0 hb1 ?_
    refine rc_heap (fun h1 hh => ?_)
    replace H := H h1 hh
    refine rc_iinc [some (mvR 68), some (mvI (mw (l1 + 1))), u2.map mvI, u3.map mvI] mq160 (mvDec_of cd160 rfl) rfl rfl ?_
    refine rc_goto (t := 2) mq160 (mvDec_of cd160 rfl) rfl ?_
    exact H
theorem MD_isOrdered_24_wp {sw : Bool} {g : Nat → Nat → Nat} {h : Nat → Int → Int} {l1 : Int} {l2 : Int} {u3 : Option Int} {K : Int → (Nat → Int → Int) → Prop} (hG : Gok sw g)  (H :
  ((16 ≤ l2 →
    ((¬ l1 = (h 68 20) →
      K 0 h) ∧
    (l1 = (h 68 20) →
      K 1 h))) ∧
  (l2 < 16 →
    MD_isOrdered_32 g h l1 l2 0 K))) : MD_isOrdered_24 g h l1 l2 u3 K := by
  refine rc_iload_n mq160 (mvDec_of cd160 rfl) rfl ?_
  refine rc_bipush mq160 (mvDec_of cd160 rfl) (by decide) ?_
  refine rc_icmp_ge (t := 73) mq160 (mvDec_of cd160 rfl) rfl (fun hc => ?_) (fun hc => ?_)
  · replace H := H.1 hc
    refine rc_iload_n mq160 (mvDec_of cd160 rfl) rfl ?_
    refine rc_aload_n mq160 (mvDec_of cd160 rfl) rfl ?_
    refine rc_getI 20 mq160 (mvDec_of cd160 rfl) fl_10_106 mis68 rfl (by decide) (by decide) ?_
    refine rc_icmp_ne (t := 85) mq160 (mvDec_of cd160 rfl) rfl (fun hc => ?_) (fun hc => ?_)
    · replace H := H.1 hc
      refine rc_iconst mq160 (mvDec_of cd160 rfl) (by decide) ?_
      exact rc_zret mq160 (mvDec_of cd160 rfl) (Or.inl rfl) ⟨_, _, rfl, rfl, H⟩
    · replace H := H.2 hc
      refine rc_iconst mq160 (mvDec_of cd160 rfl) (by decide) ?_
      refine rc_goto (t := 86) mq160 (mvDec_of cd160 rfl) rfl ?_
      exact rc_zret mq160 (mvDec_of cd160 rfl) (Or.inr rfl) ⟨_, _, rfl, rfl, H⟩
  · replace H := H.2 hc
    refine rc_iconst mq160 (mvDec_of cd160 rfl) (by decide) ?_
    refine rc_istore_n [some (mvR 68), some (mvI l1), some (mvI l2), some (mvI 0)] mq160 (mvDec_of cd160 rfl) rfl ?_
    exact H
theorem MD_isOrdered_32_wp {sw : Bool} {g : Nat → Nat → Nat} {h : Nat → Int → Int} {l1 : Int} {l2 : Int} {l3 : Int} {K : Int → (Nat → Int → Int) → Prop} (hG : Gok sw g)  (H :
  (((h 68 19) ≤ l3 →
    MD_isOrdered_24 g h l1 (mw (l2 + 1)) (some l3) K) ∧
  (l3 < (h 68 19) →
    MD_canComeNew g h l3 (fun r2 h1 =>
      ((r2 = 0 →
        MD_isOrdered_32 g h1 l1 l2 (mw (l3 + 1)) K) ∧
      (¬ r2 = 0 →
        (0 ≤ l3 ∧ l3 < 4) ∧
        (0 ≤ l3 ∧ l3 < 4) ∧
        (∀ h3, h3 = mvUpd h1 80 l3 (mw ((h1 80 l3) + 1)) →
        MD_isOrdered_32 g h3 (mw (l1 + 1)) l2 (mw (l3 + 1)) K))))))) : MD_isOrdered_32 g h l1 l2 l3 K := by
  refine rc_iload_n mq160 (mvDec_of cd160 rfl) rfl ?_
  refine rc_aload_n mq160 (mvDec_of cd160 rfl) rfl ?_
  refine rc_getI 19 mq160 (mvDec_of cd160 rfl) fl_10_103 mis68 rfl (by decide) (by decide) ?_
  refine rc_icmp_ge (t := 67) mq160 (mvDec_of cd160 rfl) rfl (fun hc => ?_) (fun hc => ?_)
  · replace H := H.1 hc
    refine rc_iinc [some (mvR 68), some (mvI l1), some (mvI (mw (l2 + 1))), some (mvI l3)] mq160 (mvDec_of cd160 rfl) rfl rfl ?_
    refine rc_goto (t := 24) mq160 (mvDec_of cd160 rfl) rfl ?_
    exact H
  · replace H := H.2 hc
    refine rc_aload_n mq160 (mvDec_of cd160 rfl) rfl ?_
    refine rc_iload_n mq160 (mvDec_of cd160 rfl) rfl ?_
    refine rc_callV [mvR 68, mvI l3] [] [some (mvR 68), some (mvI l3), none, none] mq160 (mvDec_of cd160 rfl) lk_10_128 mq113 (by decide) rfl rfl (Nat.le_of_ble_eq_true rfl) (Nat.le_of_ble_eq_true rfl) (by decide) rfl mis68 rfl (ri_bind H (fun r2 h1 H => ?_))
    refine rc_if_eq (t := 61) mq160 (mvDec_of cd160 rfl) rfl (fun hc => ?_) (fun hc => ?_)
    · replace H := H.1 hc
      refine rc_iinc [some (mvR 68), some (mvI l1), some (mvI l2), some (mvI (mw (l3 + 1)))] mq160 (mvDec_of cd160 rfl) rfl rfl ?_
      refine rc_goto (t := 32) mq160 (mvDec_of cd160 rfl) rfl ?_
      exact H
    · replace H := H.2 hc
      refine rc_aload_n mq160 (mvDec_of cd160 rfl) rfl ?_
      refine rc_getR 80 mq160 (mvDec_of cd160 rfl) fl_10_43 mis68 rfl (gr_68_25 hG) (by decide) ?_
      refine rc_iload_n mq160 (mvDec_of cd160 rfl) rfl ?_
      refine rc_dup2 mq160 (mvDec_of cd160 rfl) rfl rfl ?_
      obtain ⟨⟨hb0, hb1⟩, H⟩ := H
      refine rc_iald mq160 (mvDec_of cd160 rfl) mis80 hb0 hb1 ?_
      refine rc_iconst mq160 (mvDec_of cd160 rfl) (by decide) ?_
      refine rc_iadd mq160 (mvDec_of cd160 rfl) ?_
      obtain ⟨⟨hb0, hb1⟩, H⟩ := H
      refine rc_iast mq160 (mvDec_of cd160 rfl) mis80 hb0 hb1 ?_
      refine rc_heap (fun h3 hh => ?_)
      replace H := H h3 hh
      refine rc_iinc [some (mvR 68), some (mvI (mw (l1 + 1))), some (mvI l2), some (mvI l3)] mq160 (mvDec_of cd160 rfl) rfl rfl ?_
      refine rc_iinc [some (mvR 68), some (mvI (mw (l1 + 1))), some (mvI l2), some (mvI (mw (l3 + 1)))] mq160 (mvDec_of cd160 rfl) rfl rfl ?_
      refine rc_goto (t := 32) mq160 (mvDec_of cd160 rfl) rfl ?_
      exact H
abbrev MD_layPartners (g : Nat → Nat → Nat) (h : Nat → Int → Int)  (K : (Nat → Int → Int) → Prop) : Prop := RV 161 0 [some (mvR 68), none, none, none, none] [] g h K
abbrev MD_layPartners_2 (g : Nat → Nat → Nat) (h : Nat → Int → Int) (l1 : Int) (u2 : Option Int) (u3 : Option Int) (u4 : Option Int) (K : (Nat → Int → Int) → Prop) : Prop := RV 161 2 [some (mvR 68), some (mvI l1), u2.map mvI, u3.map mvI, u4.map mvI] [] g h K
abbrev MD_layPartners_12 (g : Nat → Nat → Nat) (h : Nat → Int → Int) (l1 : Int) (l2 : Int) (u3 : Option Int) (u4 : Option Int) (K : (Nat → Int → Int) → Prop) : Prop := RV 161 12 [some (mvR 68), some (mvI l1), some (mvI l2), u3.map mvI, u4.map mvI] [] g h K
theorem MD_layPartners_wp {sw : Bool} {g : Nat → Nat → Nat} {h : Nat → Int → Int}  {K : (Nat → Int → Int) → Prop} (hG : Gok sw g)  (H :
  MD_layPartners_2 g h 0 none none none K) : MD_layPartners g h  K := by
  refine rc_iconst mq161 (mvDec_of cd161 rfl) (by decide) ?_
  refine rc_istore_n [some (mvR 68), some (mvI 0), none, none, none] mq161 (mvDec_of cd161 rfl) rfl ?_
  exact H
theorem MD_layPartners_2_wp {sw : Bool} {g : Nat → Nat → Nat} {h : Nat → Int → Int} {l1 : Int} {u2 : Option Int} {u3 : Option Int} {u4 : Option Int} {K : (Nat → Int → Int) → Prop} (hG : Gok sw g)  (H :
  (((h 68 0) ≤ l1 →
    K h) ∧
  (l1 < (h 68 0) →
    MD_layPartners_12 g h l1 0 u3 u4 K))) : MD_layPartners_2 g h l1 u2 u3 u4 K := by
  refine rc_iload_n mq161 (mvDec_of cd161 rfl) rfl ?_
  refine rc_aload_n mq161 (mvDec_of cd161 rfl) rfl ?_
  refine rc_getI 0 mq161 (mvDec_of cd161 rfl) fl_10_138 mis68 rfl (by decide) (by decide) ?_
  refine rc_icmp_ge (t := 101) mq161 (mvDec_of cd161 rfl) rfl (fun hc => ?_) (fun hc => ?_)
  · replace H := H.1 hc
    exact rc_vret mq161 (mvDec_of cd161 rfl) ⟨_, rfl, rfl, H⟩
  · replace H := H.2 hc
    refine rc_iconst mq161 (mvDec_of cd161 rfl) (by decide) ?_
    refine rc_istore_n [some (mvR 68), some (mvI l1), some (mvI 0), u3.map mvI, u4.map mvI] mq161 (mvDec_of cd161 rfl) rfl ?_
    exact H
theorem MD_layPartners_12_wp {sw : Bool} {g : Nat → Nat → Nat} {h : Nat → Int → Int} {l1 : Int} {l2 : Int} {u3 : Option Int} {u4 : Option Int} {K : (Nat → Int → Int) → Prop} (hG : Gok sw g)  (H :
  (0 ≤ l1 ∧ l1 < 4) ∧
  (((h 69 l1) ≤ l2 →
    MD_layPartners_2 g h (mw (l1 + 1)) (some l2) u3 u4 K) ∧
  (l2 < (h 69 l1) →
    (∀ v1, v1 = (mw ((mw (9 * l1)) + l2)) →
    (0 ≤ v1 ∧ v1 < 36) ∧
    (0 ≤ v1 ∧ v1 < 36) ∧
    MD_of g h l1 (h 70 v1) (h 71 v1) l2 (fun r3 h2 =>
      (0 ≤ v1 ∧ v1 < 36) ∧
      ((¬ (h2 70 v1) = 0 →
        (0 ≤ v1 ∧ v1 < 36) ∧
        (0 ≤ v1 ∧ v1 < 36) ∧
        MD_nthOf g h2 (h2 71 v1) (mw (3 - (h2 70 v1))) l1 r3 (fun r5 h4 =>
          (0 ≤ v1 ∧ v1 < 36) ∧
          (∀ h6, h6 = mvUpd h4 72 v1 r5 →
          MD_layPartners_12 g h6 l1 (mw (l2 + 1)) (some v1) (some r3) K))) ∧
      ((h2 70 v1) = 0 →
        (0 ≤ v1 ∧ v1 < 36) ∧
        (∀ h7, h7 = mvUpd h2 72 v1 (-1) →
        MD_layPartners_12 g h7 l1 (mw (l2 + 1)) (some v1) (some r3) K)))))))) : MD_layPartners_12 g h l1 l2 u3 u4 K := by
  refine rc_iload_n mq161 (mvDec_of cd161 rfl) rfl ?_
  refine rc_aload_n mq161 (mvDec_of cd161 rfl) rfl ?_
  refine rc_getR 69 mq161 (mvDec_of cd161 rfl) fl_10_7 mis68 rfl (gr_68_1 hG) (by decide) ?_
  refine rc_iload_n mq161 (mvDec_of cd161 rfl) rfl ?_
  obtain ⟨⟨hb0, hb1⟩, H⟩ := H
  refine rc_iald mq161 (mvDec_of cd161 rfl) mis69 hb0 hb1 ?_
  refine rc_icmp_ge (t := 95) mq161 (mvDec_of cd161 rfl) rfl (fun hc => ?_) (fun hc => ?_)
  · replace H := H.1 hc
    refine rc_iinc [some (mvR 68), some (mvI (mw (l1 + 1))), some (mvI l2), u3.map mvI, u4.map mvI] mq161 (mvDec_of cd161 rfl) rfl rfl ?_
    refine rc_goto (t := 2) mq161 (mvDec_of cd161 rfl) rfl ?_
    exact H
  · replace H := H.2 hc
    refine rc_bipush mq161 (mvDec_of cd161 rfl) (by decide) ?_
    refine rc_iload_n mq161 (mvDec_of cd161 rfl) rfl ?_
    refine rc_imul mq161 (mvDec_of cd161 rfl) ?_
    refine rc_iload_n mq161 (mvDec_of cd161 rfl) rfl ?_
    refine rc_iadd mq161 (mvDec_of cd161 rfl) ?_
    refine rc_top (fun v1 hv => ?_)
    replace H := H v1 hv
    refine rc_istore_n [some (mvR 68), some (mvI l1), some (mvI l2), some (mvI v1), u4.map mvI] mq161 (mvDec_of cd161 rfl) rfl ?_
    refine rc_aload_n mq161 (mvDec_of cd161 rfl) rfl ?_
    refine rc_iload_n mq161 (mvDec_of cd161 rfl) rfl ?_
    refine rc_aload_n mq161 (mvDec_of cd161 rfl) rfl ?_
    refine rc_getR 70 mq161 (mvDec_of cd161 rfl) fl_10_13 mis68 rfl (gr_68_2 hG) (by decide) ?_
    refine rc_iload_n mq161 (mvDec_of cd161 rfl) rfl ?_
    obtain ⟨⟨hb0, hb1⟩, H⟩ := H
    refine rc_iald mq161 (mvDec_of cd161 rfl) mis70 hb0 hb1 ?_
    refine rc_aload_n mq161 (mvDec_of cd161 rfl) rfl ?_
    refine rc_getR 71 mq161 (mvDec_of cd161 rfl) fl_10_16 mis68 rfl (gr_68_3 hG) (by decide) ?_
    refine rc_iload_n mq161 (mvDec_of cd161 rfl) rfl ?_
    obtain ⟨⟨hb0, hb1⟩, H⟩ := H
    refine rc_iald mq161 (mvDec_of cd161 rfl) mis71 hb0 hb1 ?_
    refine rc_iload_n mq161 (mvDec_of cd161 rfl) rfl ?_
    refine rc_callV [mvR 68, mvI l1, mvI (h 70 v1), mvI (h 71 v1), mvI l2] [] [some (mvR 68), some (mvI l1), some (mvI (h 70 v1)), some (mvI (h 71 v1)), some (mvI l2), none, none, none] mq161 (mvDec_of cd161 rfl) lk_10_160 mq44 (by decide) rfl rfl (Nat.le_of_ble_eq_true rfl) (Nat.le_of_ble_eq_true rfl) (by decide) rfl mis68 rfl (ri_bind H (fun r3 h2 H => ?_))
    refine rc_istore [some (mvR 68), some (mvI l1), some (mvI l2), some (mvI v1), some (mvI r3)] mq161 (mvDec_of cd161 rfl) rfl ?_
    refine rc_aload_n mq161 (mvDec_of cd161 rfl) rfl ?_
    refine rc_getR 72 mq161 (mvDec_of cd161 rfl) fl_10_19 mis68 rfl (gr_68_4 hG) (by decide) ?_
    refine rc_iload_n mq161 (mvDec_of cd161 rfl) rfl ?_
    refine rc_aload_n mq161 (mvDec_of cd161 rfl) rfl ?_
    refine rc_getR 70 mq161 (mvDec_of cd161 rfl) fl_10_13 mis68 rfl (gr_68_2 hG) (by decide) ?_
    refine rc_iload_n mq161 (mvDec_of cd161 rfl) rfl ?_
    obtain ⟨⟨hb0, hb1⟩, H⟩ := H
    refine rc_iald mq161 (mvDec_of cd161 rfl) mis70 hb0 hb1 ?_
    refine rc_if_ne (t := 67) mq161 (mvDec_of cd161 rfl) rfl (fun hc => ?_) (fun hc => ?_)
    · replace H := H.1 hc
      refine rc_aload_n mq161 (mvDec_of cd161 rfl) rfl ?_
      refine rc_aload_n mq161 (mvDec_of cd161 rfl) rfl ?_
      refine rc_getR 71 mq161 (mvDec_of cd161 rfl) fl_10_16 mis68 rfl (gr_68_3 hG) (by decide) ?_
      refine rc_iload_n mq161 (mvDec_of cd161 rfl) rfl ?_
      obtain ⟨⟨hb0, hb1⟩, H⟩ := H
      refine rc_iald mq161 (mvDec_of cd161 rfl) mis71 hb0 hb1 ?_
      refine rc_iconst mq161 (mvDec_of cd161 rfl) (by decide) ?_
      refine rc_aload_n mq161 (mvDec_of cd161 rfl) rfl ?_
      refine rc_getR 70 mq161 (mvDec_of cd161 rfl) fl_10_13 mis68 rfl (gr_68_2 hG) (by decide) ?_
      refine rc_iload_n mq161 (mvDec_of cd161 rfl) rfl ?_
      obtain ⟨⟨hb0, hb1⟩, H⟩ := H
      refine rc_iald mq161 (mvDec_of cd161 rfl) mis70 hb0 hb1 ?_
      refine rc_isub mq161 (mvDec_of cd161 rfl) ?_
      refine rc_iload_n mq161 (mvDec_of cd161 rfl) rfl ?_
      refine rc_iload mq161 (mvDec_of cd161 rfl) rfl ?_
      refine rc_callV [mvR 68, mvI (h2 71 v1), mvI (mw (3 - (h2 70 v1))), mvI l1, mvI r3] [mvI v1, mvR 72] [some (mvR 68), some (mvI (h2 71 v1)), some (mvI (mw (3 - (h2 70 v1)))), some (mvI l1), some (mvI r3), none, none] mq161 (mvDec_of cd161 rfl) lk_10_163 mq114 (by decide) rfl rfl (Nat.le_of_ble_eq_true rfl) (Nat.le_of_ble_eq_true rfl) (by decide) rfl mis68 rfl (ri_bind H (fun r5 h4 H => ?_))
      obtain ⟨⟨hb0, hb1⟩, H⟩ := H
      refine rc_iast mq161 (mvDec_of cd161 rfl) mis72 hb0 hb1 ?_
      refine rc_heap (fun h6 hh => ?_)
      replace H := H h6 hh
      refine rc_iinc [some (mvR 68), some (mvI l1), some (mvI (mw (l2 + 1))), some (mvI v1), some (mvI r3)] mq161 (mvDec_of cd161 rfl) rfl rfl ?_
      refine rc_goto (t := 12) mq161 (mvDec_of cd161 rfl) rfl ?_
      exact H
    · replace H := H.2 hc
      refine rc_iconst mq161 (mvDec_of cd161 rfl) (by decide) ?_
      refine rc_goto (t := 88) mq161 (mvDec_of cd161 rfl) rfl ?_
      obtain ⟨⟨hb0, hb1⟩, H⟩ := H
      refine rc_iast mq161 (mvDec_of cd161 rfl) mis72 hb0 hb1 ?_
      refine rc_heap (fun h7 hh => ?_)
      replace H := H h7 hh
      refine rc_iinc [some (mvR 68), some (mvI l1), some (mvI (mw (l2 + 1))), some (mvI v1), some (mvI r3)] mq161 (mvDec_of cd161 rfl) rfl rfl ?_
      refine rc_goto (t := 12) mq161 (mvDec_of cd161 rfl) rfl ?_
      exact H
abbrev MD_areAllowed (g : Nat → Nat → Nat) (h : Nat → Int → Int)  (K : Int → (Nat → Int → Int) → Prop) : Prop := RI 163 0 [some (mvR 68), none, none] [] g h K
abbrev MD_areAllowed_4 (g : Nat → Nat → Nat) (h : Nat → Int → Int) (l1 : Int) (l2 : Int) (K : Int → (Nat → Int → Int) → Prop) : Prop := RI 163 4 [some (mvR 68), some (mvI l1), some (mvI l2)] [] g h K
theorem MD_areAllowed_wp {sw : Bool} {g : Nat → Nat → Nat} {h : Nat → Int → Int}  {K : Int → (Nat → Int → Int) → Prop} (hG : Gok sw g)  (H :
  MD_areAllowed_4 g h 1 0 K) : MD_areAllowed g h  K := by
  refine rc_iconst mq163 (mvDec_of cd163 rfl) (by decide) ?_
  refine rc_istore_n [some (mvR 68), some (mvI 1), none] mq163 (mvDec_of cd163 rfl) rfl ?_
  refine rc_iconst mq163 (mvDec_of cd163 rfl) (by decide) ?_
  refine rc_istore_n [some (mvR 68), some (mvI 1), some (mvI 0)] mq163 (mvDec_of cd163 rfl) rfl ?_
  exact H
theorem MD_areAllowed_4_wp {sw : Bool} {g : Nat → Nat → Nat} {h : Nat → Int → Int} {l1 : Int} {l2 : Int} {K : Int → (Nat → Int → Int) → Prop} (hG : Gok sw g)  (H :
  (((h 68 0) ≤ l2 →
    (l1 = 0 ∨ l1 = 1) ∧ K l1 h) ∧
  (l2 < (h 68 0) →
    ((l1 = 0 →
      MD_areAllowed_4 g h 0 (mw (l2 + 1)) K) ∧
    (¬ l1 = 0 →
      (0 ≤ l2 ∧ l2 < 4) ∧
      MD_isAllowed g h l2 (h 81 l2) (fun r2 h1 =>
        ((r2 = 0 →
          MD_areAllowed_4 g h1 0 (mw (l2 + 1)) K) ∧
        (¬ r2 = 0 →
          MD_areAllowed_4 g h1 1 (mw (l2 + 1)) K)))))))) : MD_areAllowed_4 g h l1 l2 K := by
  refine rc_iload_n mq163 (mvDec_of cd163 rfl) rfl ?_
  refine rc_aload_n mq163 (mvDec_of cd163 rfl) rfl ?_
  refine rc_getI 0 mq163 (mvDec_of cd163 rfl) fl_10_138 mis68 rfl (by decide) (by decide) ?_
  refine rc_icmp_ge (t := 42) mq163 (mvDec_of cd163 rfl) rfl (fun hc => ?_) (fun hc => ?_)
  · replace H := H.1 hc
    refine rc_iload_n mq163 (mvDec_of cd163 rfl) rfl ?_
    exact rc_zret mq163 (mvDec_of cd163 rfl) H.1 ⟨_, _, rfl, rfl, H.2⟩
  · replace H := H.2 hc
    refine rc_iload_n mq163 (mvDec_of cd163 rfl) rfl ?_
    refine rc_if_eq (t := 34) mq163 (mvDec_of cd163 rfl) rfl (fun hc => ?_) (fun hc => ?_)
    · replace H := H.1 hc
      refine rc_iconst mq163 (mvDec_of cd163 rfl) (by decide) ?_
      refine rc_istore_n [some (mvR 68), some (mvI 0), some (mvI l2)] mq163 (mvDec_of cd163 rfl) rfl ?_
      refine rc_iinc [some (mvR 68), some (mvI 0), some (mvI (mw (l2 + 1)))] mq163 (mvDec_of cd163 rfl) rfl rfl ?_
      refine rc_goto (t := 4) mq163 (mvDec_of cd163 rfl) rfl ?_
      exact H
    · replace H := H.2 hc
      refine rc_aload_n mq163 (mvDec_of cd163 rfl) rfl ?_
      refine rc_iload_n mq163 (mvDec_of cd163 rfl) rfl ?_
      refine rc_aload_n mq163 (mvDec_of cd163 rfl) rfl ?_
      refine rc_getR 81 mq163 (mvDec_of cd163 rfl) fl_10_46 mis68 rfl (gr_68_26 hG) (by decide) ?_
      refine rc_iload_n mq163 (mvDec_of cd163 rfl) rfl ?_
      obtain ⟨⟨hb0, hb1⟩, H⟩ := H
      refine rc_iald mq163 (mvDec_of cd163 rfl) mis81 hb0 hb1 ?_
      refine rc_callV [mvR 68, mvI l2, mvI (h 81 l2)] [] [some (mvR 68), some (mvI l2), some (mvI (h 81 l2))] mq163 (mvDec_of cd163 rfl) lk_10_210 mq121 (by decide) rfl rfl (Nat.le_of_ble_eq_true rfl) (Nat.le_of_ble_eq_true rfl) (by decide) rfl mis68 rfl (ri_bind H (fun r2 h1 H => ?_))
      refine rc_if_eq (t := 34) mq163 (mvDec_of cd163 rfl) rfl (fun hc => ?_) (fun hc => ?_)
      · replace H := H.1 hc
        refine rc_iconst mq163 (mvDec_of cd163 rfl) (by decide) ?_
        refine rc_istore_n [some (mvR 68), some (mvI 0), some (mvI l2)] mq163 (mvDec_of cd163 rfl) rfl ?_
        refine rc_iinc [some (mvR 68), some (mvI 0), some (mvI (mw (l2 + 1)))] mq163 (mvDec_of cd163 rfl) rfl rfl ?_
        refine rc_goto (t := 4) mq163 (mvDec_of cd163 rfl) rfl ?_
        exact H
      · replace H := H.2 hc
        refine rc_iconst mq163 (mvDec_of cd163 rfl) (by decide) ?_
        refine rc_goto (t := 35) mq163 (mvDec_of cd163 rfl) rfl ?_
        refine rc_istore_n [some (mvR 68), some (mvI 1), some (mvI l2)] mq163 (mvDec_of cd163 rfl) rfl ?_
        refine rc_iinc [some (mvR 68), some (mvI 1), some (mvI (mw (l2 + 1)))] mq163 (mvDec_of cd163 rfl) rfl rfl ?_
        refine rc_goto (t := 4) mq163 (mvDec_of cd163 rfl) rfl ?_
        exact H
abbrev MD_nextBits (g : Nat → Nat → Nat) (h : Nat → Int → Int) (x1 : Int) (K : Int → (Nat → Int → Int) → Prop) : Prop := RI 164 0 [some (mvR 68), some (mvI x1), none, none] [] g h K
abbrev MD_nextBits_4 (g : Nat → Nat → Nat) (h : Nat → Int → Int) (l1 : Int) (l2 : Int) (l3 : Int) (K : Int → (Nat → Int → Int) → Prop) : Prop := RI 164 4 [some (mvR 68), some (mvI l1), some (mvI l2), some (mvI l3)] [] g h K
theorem MD_nextBits_wp {sw : Bool} {g : Nat → Nat → Nat} {h : Nat → Int → Int} {x1 : Int} {K : Int → (Nat → Int → Int) → Prop} (hG : Gok sw g)  (H :
  MD_nextBits_4 g h x1 0 0 K) : MD_nextBits g h x1 K := by
  refine rc_iconst mq164 (mvDec_of cd164 rfl) (by decide) ?_
  refine rc_istore_n [some (mvR 68), some (mvI x1), some (mvI 0), none] mq164 (mvDec_of cd164 rfl) rfl ?_
  refine rc_iconst mq164 (mvDec_of cd164 rfl) (by decide) ?_
  refine rc_istore_n [some (mvR 68), some (mvI x1), some (mvI 0), some (mvI 0)] mq164 (mvDec_of cd164 rfl) rfl ?_
  exact H
theorem MD_nextBits_4_wp {sw : Bool} {g : Nat → Nat → Nat} {h : Nat → Int → Int} {l1 : Int} {l2 : Int} {l3 : Int} {K : Int → (Nat → Int → Int) → Prop} (hG : Gok sw g)  (H :
  (((h 68 0) ≤ l3 →
    K l2 h) ∧
  (l3 < (h 68 0) →
    MD_canGoOn g h l1 l3 (fun r2 h1 =>
      ((r2 = 0 →
        (∀ v3, v3 = (mvOr l2 0) →
        MD_nextBits_4 g h1 l1 v3 (mw (l3 + 1)) K)) ∧
      (¬ r2 = 0 →
        (∀ v4, v4 = (mvOr l2 (mvShl 1 l3)) →
        MD_nextBits_4 g h1 l1 v4 (mw (l3 + 1)) K))))))) : MD_nextBits_4 g h l1 l2 l3 K := by
  refine rc_iload_n mq164 (mvDec_of cd164 rfl) rfl ?_
  refine rc_aload_n mq164 (mvDec_of cd164 rfl) rfl ?_
  refine rc_getI 0 mq164 (mvDec_of cd164 rfl) fl_10_138 mis68 rfl (by decide) (by decide) ?_
  refine rc_icmp_ge (t := 37) mq164 (mvDec_of cd164 rfl) rfl (fun hc => ?_) (fun hc => ?_)
  · replace H := H.1 hc
    refine rc_iload_n mq164 (mvDec_of cd164 rfl) rfl ?_
    exact rc_iret mq164 (mvDec_of cd164 rfl) ⟨_, _, rfl, rfl, H⟩
  · replace H := H.2 hc
    refine rc_iload_n mq164 (mvDec_of cd164 rfl) rfl ?_
    refine rc_aload_n mq164 (mvDec_of cd164 rfl) rfl ?_
    refine rc_iload_n mq164 (mvDec_of cd164 rfl) rfl ?_
    refine rc_iload_n mq164 (mvDec_of cd164 rfl) rfl ?_
    refine rc_callV [mvR 68, mvI l1, mvI l3] [mvI l2] [some (mvR 68), some (mvI l1), some (mvI l3)] mq164 (mvDec_of cd164 rfl) lk_10_243 mq124 (by decide) rfl rfl (Nat.le_of_ble_eq_true rfl) (Nat.le_of_ble_eq_true rfl) (by decide) rfl mis68 rfl (ri_bind H (fun r2 h1 H => ?_))
    refine rc_if_eq (t := 28) mq164 (mvDec_of cd164 rfl) rfl (fun hc => ?_) (fun hc => ?_)
    · replace H := H.1 hc
      refine rc_iconst mq164 (mvDec_of cd164 rfl) (by decide) ?_
      refine rc_ior mq164 (mvDec_of cd164 rfl) ?_
      refine rc_top (fun v3 hv => ?_)
      replace H := H v3 hv
      refine rc_istore_n [some (mvR 68), some (mvI l1), some (mvI v3), some (mvI l3)] mq164 (mvDec_of cd164 rfl) rfl ?_
      refine rc_iinc [some (mvR 68), some (mvI l1), some (mvI v3), some (mvI (mw (l3 + 1)))] mq164 (mvDec_of cd164 rfl) rfl rfl ?_
      refine rc_goto (t := 4) mq164 (mvDec_of cd164 rfl) rfl ?_
      exact H
    · replace H := H.2 hc
      refine rc_iconst mq164 (mvDec_of cd164 rfl) (by decide) ?_
      refine rc_iload_n mq164 (mvDec_of cd164 rfl) rfl ?_
      refine rc_ishl mq164 (mvDec_of cd164 rfl) ?_
      refine rc_goto (t := 29) mq164 (mvDec_of cd164 rfl) rfl ?_
      refine rc_ior mq164 (mvDec_of cd164 rfl) ?_
      refine rc_top (fun v4 hv => ?_)
      replace H := H v4 hv
      refine rc_istore_n [some (mvR 68), some (mvI l1), some (mvI v4), some (mvI l3)] mq164 (mvDec_of cd164 rfl) rfl ?_
      refine rc_iinc [some (mvR 68), some (mvI l1), some (mvI v4), some (mvI (mw (l3 + 1)))] mq164 (mvDec_of cd164 rfl) rfl rfl ?_
      refine rc_goto (t := 4) mq164 (mvDec_of cd164 rfl) rfl ?_
      exact H
abbrev MD_value (g : Nat → Nat → Nat) (h : Nat → Int → Int) (x1 : Int) (x2 : Int) (K : Int → (Nat → Int → Int) → Prop) : Prop := RI 165 0 [some (mvR 68), some (mvI x1), some (mvI x2)] [] g h K
theorem MD_value_wp {sw : Bool} {g : Nat → Nat → Nat} {h : Nat → Int → Int} {x1 : Int} {x2 : Int} {K : Int → (Nat → Int → Int) → Prop} (hG : Gok sw g)  (H :
  (((h 68 0) ≤ 0 →
    K (-103) h) ∧
  (0 < (h 68 0) →
    MD_takesTold g h x1 (fun r2 h1 =>
      ((r2 = 0 →
        K (-101) h1) ∧
      (¬ r2 = 0 →
        ((x2 < 0 →
          K (-101) h1) ∧
        (0 ≤ x2 →
          (((mw ((h1 68 0) - 1)) < x2 →
            K (-101) h1) ∧
          (x2 ≤ (mw ((h1 68 0) - 1)) →
            (0 ≤ x2 ∧ x2 < 4) ∧
            MD_valueOf g h1 x2 (h1 81 x2) (fun r4 h3 =>
              K r4 h3))))))))))) : MD_value g h x1 x2 K := by
  refine rc_aload_n mq165 (mvDec_of cd165 rfl) rfl ?_
  refine rc_callV [mvR 68] [] [some (mvR 68)] mq165 (mvDec_of cd165 rfl) lk_10_262 mq43 (by decide) rfl rfl (Nat.le_of_ble_eq_true rfl) (Nat.le_of_ble_eq_true rfl) (by decide) rfl mis68 rfl ?_
  refine rc_aload_n mq43 (mvDec_of cd43 rfl) rfl ?_
  refine rc_getI 0 mq43 (mvDec_of cd43 rfl) fl_10_138 mis68 rfl (by decide) (by decide) ?_
  refine rc_if_le (t := 11) mq43 (mvDec_of cd43 rfl) rfl (fun hc => ?_) (fun hc => ?_)
  · replace H := H.1 hc
    refine rc_iconst mq43 (mvDec_of cd43 rfl) (by decide) ?_
    refine rc_zret mq43 (mvDec_of cd43 rfl) (Or.inl rfl) ?_
    show Rch 165 4 [some (mvR 68), some (mvI x1), some (mvI x2)] [mvI 0] (97, g, h) _
    refine rc_ifF (t := 10) mq165 (mvDec_of cd165 rfl) rfl rfl ?_
    refine rc_bipush mq165 (mvDec_of cd165 rfl) (by decide) ?_
    exact rc_iret mq165 (mvDec_of cd165 rfl) ⟨_, _, rfl, rfl, H⟩
  · replace H := H.2 hc
    refine rc_iconst mq43 (mvDec_of cd43 rfl) (by decide) ?_
    refine rc_goto (t := 12) mq43 (mvDec_of cd43 rfl) rfl ?_
    refine rc_zret mq43 (mvDec_of cd43 rfl) (Or.inr rfl) ?_
    show Rch 165 4 [some (mvR 68), some (mvI x1), some (mvI x2)] [mvI 1] (97, g, h) _
    refine rc_ifT (t := 10) mq165 (mvDec_of cd165 rfl) rfl rfl ?_
    refine rc_aload_n mq165 (mvDec_of cd165 rfl) rfl ?_
    refine rc_iload_n mq165 (mvDec_of cd165 rfl) rfl ?_
    refine rc_callV [mvR 68, mvI x1] [] [some (mvR 68), some (mvI x1), none, none, none] mq165 (mvDec_of cd165 rfl) lk_10_265 mq54 (by decide) rfl rfl (Nat.le_of_ble_eq_true rfl) (Nat.le_of_ble_eq_true rfl) (by decide) rfl mis68 rfl (ri_bind H (fun r2 h1 H => ?_))
    refine rc_if_eq (t := 40) mq165 (mvDec_of cd165 rfl) rfl (fun hc => ?_) (fun hc => ?_)
    · replace H := H.1 hc
      refine rc_bipush mq165 (mvDec_of cd165 rfl) (by decide) ?_
      exact rc_iret mq165 (mvDec_of cd165 rfl) ⟨_, _, rfl, rfl, H⟩
    · replace H := H.2 hc
      refine rc_aload_n mq165 (mvDec_of cd165 rfl) rfl ?_
      refine rc_iload_n mq165 (mvDec_of cd165 rfl) rfl ?_
      refine rc_callV [mvR 68, mvI x2] [] [some (mvR 68), some (mvI x2)] mq165 (mvDec_of cd165 rfl) lk_10_170 mq116 (by decide) rfl rfl (Nat.le_of_ble_eq_true rfl) (Nat.le_of_ble_eq_true rfl) (by decide) rfl mis68 rfl ?_
      refine rc_iload_n mq116 (mvDec_of cd116 rfl) rfl ?_
      refine rc_iconst mq116 (mvDec_of cd116 rfl) (by decide) ?_
      refine rc_aload_n mq116 (mvDec_of cd116 rfl) rfl ?_
      refine rc_getI 0 mq116 (mvDec_of cd116 rfl) fl_10_138 mis68 rfl (by decide) (by decide) ?_
      refine rc_iconst mq116 (mvDec_of cd116 rfl) (by decide) ?_
      refine rc_isub mq116 (mvDec_of cd116 rfl) ?_
      refine rc_callS [mvI x2, mvI 0, mvI (mw ((h1 68 0) - 1))] [] [some (mvI x2), some (mvI 0), some (mvI (mw ((h1 68 0) - 1)))] mq116 (mvDec_of cd116 rfl) lk_10_95 mq38 (by decide) rfl rfl (Nat.le_of_ble_eq_true rfl) (Nat.le_of_ble_eq_true rfl) (by decide) rfl ?_
      refine rc_iload_n mq38 (mvDec_of cd38 rfl) rfl ?_
      refine rc_iload_n mq38 (mvDec_of cd38 rfl) rfl ?_
      refine rc_icmp_lt (t := 14) mq38 (mvDec_of cd38 rfl) rfl (fun hc => ?_) (fun hc => ?_)
      · replace H := H.1 hc
        refine rc_iconst mq38 (mvDec_of cd38 rfl) (by decide) ?_
        refine rc_zret mq38 (mvDec_of cd38 rfl) (Or.inl rfl) ?_
        show Rch 116 11 [some (mvR 68), some (mvI x2)] [mvI 0] (97, g, h1) _
        refine rc_zret mq116 (mvDec_of cd116 rfl) (Or.inl rfl) ?_
        show Rch 165 23 [some (mvR 68), some (mvI x1), some (mvI x2)] [mvI 0] (97, g, h1) _
        refine rc_ifT (t := 40) mq165 (mvDec_of cd165 rfl) rfl rfl ?_
        refine rc_bipush mq165 (mvDec_of cd165 rfl) (by decide) ?_
        exact rc_iret mq165 (mvDec_of cd165 rfl) ⟨_, _, rfl, rfl, H⟩
      · replace H := H.2 hc
        refine rc_iload_n mq38 (mvDec_of cd38 rfl) rfl ?_
        refine rc_iload_n mq38 (mvDec_of cd38 rfl) rfl ?_
        refine rc_icmp_gt (t := 14) mq38 (mvDec_of cd38 rfl) rfl (fun hc => ?_) (fun hc => ?_)
        · replace H := H.1 hc
          refine rc_iconst mq38 (mvDec_of cd38 rfl) (by decide) ?_
          refine rc_zret mq38 (mvDec_of cd38 rfl) (Or.inl rfl) ?_
          show Rch 116 11 [some (mvR 68), some (mvI x2)] [mvI 0] (97, g, h1) _
          refine rc_zret mq116 (mvDec_of cd116 rfl) (Or.inl rfl) ?_
          show Rch 165 23 [some (mvR 68), some (mvI x1), some (mvI x2)] [mvI 0] (97, g, h1) _
          refine rc_ifT (t := 40) mq165 (mvDec_of cd165 rfl) rfl rfl ?_
          refine rc_bipush mq165 (mvDec_of cd165 rfl) (by decide) ?_
          exact rc_iret mq165 (mvDec_of cd165 rfl) ⟨_, _, rfl, rfl, H⟩
        · replace H := H.2 hc
          refine rc_iconst mq38 (mvDec_of cd38 rfl) (by decide) ?_
          refine rc_goto (t := 15) mq38 (mvDec_of cd38 rfl) rfl ?_
          refine rc_zret mq38 (mvDec_of cd38 rfl) (Or.inr rfl) ?_
          show Rch 116 11 [some (mvR 68), some (mvI x2)] [mvI 1] (97, g, h1) _
          refine rc_zret mq116 (mvDec_of cd116 rfl) (Or.inr rfl) ?_
          show Rch 165 23 [some (mvR 68), some (mvI x1), some (mvI x2)] [mvI 1] (97, g, h1) _
          refine rc_ifF (t := 40) mq165 (mvDec_of cd165 rfl) rfl rfl ?_
          refine rc_aload_n mq165 (mvDec_of cd165 rfl) rfl ?_
          refine rc_iload_n mq165 (mvDec_of cd165 rfl) rfl ?_
          refine rc_aload_n mq165 (mvDec_of cd165 rfl) rfl ?_
          refine rc_getR 81 mq165 (mvDec_of cd165 rfl) fl_10_46 mis68 rfl (gr_68_26 hG) (by decide) ?_
          refine rc_iload_n mq165 (mvDec_of cd165 rfl) rfl ?_
          obtain ⟨⟨hb0, hb1⟩, H⟩ := H
          refine rc_iald mq165 (mvDec_of cd165 rfl) mis81 hb0 hb1 ?_
          refine rc_callV [mvR 68, mvI x2, mvI (h1 81 x2)] [] [some (mvR 68), some (mvI x2), some (mvI (h1 81 x2)), none, none, none] mq165 (mvDec_of cd165 rfl) lk_10_207 mq57 (by decide) rfl rfl (Nat.le_of_ble_eq_true rfl) (Nat.le_of_ble_eq_true rfl) (by decide) rfl mis68 rfl (ri_bind H (fun r4 h3 H => ?_))
          refine rc_goto (t := 42) mq165 (mvDec_of cd165 rfl) rfl ?_
          exact rc_iret mq165 (mvDec_of cd165 rfl) ⟨_, _, rfl, rfl, H⟩
abbrev MD_under (g : Nat → Nat → Nat) (h : Nat → Int → Int) (x1 : Int) (x2 : Int) (x3 : Int) (K : Int → (Nat → Int → Int) → Prop) : Prop := RI 166 0 [some (mvR 68), some (mvI x1), some (mvI x2), some (mvI x3)] [] g h K
theorem MD_under_wp {sw : Bool} {g : Nat → Nat → Nat} {h : Nat → Int → Int} {x1 : Int} {x2 : Int} {x3 : Int} {K : Int → (Nat → Int → Int) → Prop} (hG : Gok sw g)  (H :
  (((h 68 0) ≤ 0 →
    K (-103) h) ∧
  (0 < (h 68 0) →
    MD_takesTold g h x1 (fun r2 h1 =>
      ((r2 = 0 →
        K (-101) h1) ∧
      (¬ r2 = 0 →
        ((x2 < 0 →
          K (-101) h1) ∧
        (0 ≤ x2 →
          (((mw ((h1 68 0) - 1)) < x2 →
            K (-101) h1) ∧
          (x2 ≤ (mw ((h1 68 0) - 1)) →
            ((x3 < 0 →
              K (-101) h1) ∧
            (0 ≤ x3 →
              (((mw ((h1 68 0) - 1)) < x3 →
                K (-101) h1) ∧
              (x3 ≤ (mw ((h1 68 0) - 1)) →
                ((¬ x2 = x3 →
                  MD_isConsistent g h1 (fun r4 h3 =>
                    ((r4 = 0 →
                      K (-103) h3) ∧
                    (¬ r4 = 0 →
                      MD_underOf g h3 x2 x3 (fun r6 h5 =>
                        K r6 h5))))) ∧
                (x2 = x3 →
                  K (-101) h1)))))))))))))))) : MD_under g h x1 x2 x3 K := by
  refine rc_aload_n mq166 (mvDec_of cd166 rfl) rfl ?_
  refine rc_callV [mvR 68] [] [some (mvR 68)] mq166 (mvDec_of cd166 rfl) lk_10_262 mq43 (by decide) rfl rfl (Nat.le_of_ble_eq_true rfl) (Nat.le_of_ble_eq_true rfl) (by decide) rfl mis68 rfl ?_
  refine rc_aload_n mq43 (mvDec_of cd43 rfl) rfl ?_
  refine rc_getI 0 mq43 (mvDec_of cd43 rfl) fl_10_138 mis68 rfl (by decide) (by decide) ?_
  refine rc_if_le (t := 11) mq43 (mvDec_of cd43 rfl) rfl (fun hc => ?_) (fun hc => ?_)
  · replace H := H.1 hc
    refine rc_iconst mq43 (mvDec_of cd43 rfl) (by decide) ?_
    refine rc_zret mq43 (mvDec_of cd43 rfl) (Or.inl rfl) ?_
    show Rch 166 4 [some (mvR 68), some (mvI x1), some (mvI x2), some (mvI x3)] [mvI 0] (97, g, h) _
    refine rc_ifF (t := 10) mq166 (mvDec_of cd166 rfl) rfl rfl ?_
    refine rc_bipush mq166 (mvDec_of cd166 rfl) (by decide) ?_
    exact rc_iret mq166 (mvDec_of cd166 rfl) ⟨_, _, rfl, rfl, H⟩
  · replace H := H.2 hc
    refine rc_iconst mq43 (mvDec_of cd43 rfl) (by decide) ?_
    refine rc_goto (t := 12) mq43 (mvDec_of cd43 rfl) rfl ?_
    refine rc_zret mq43 (mvDec_of cd43 rfl) (Or.inr rfl) ?_
    show Rch 166 4 [some (mvR 68), some (mvI x1), some (mvI x2), some (mvI x3)] [mvI 1] (97, g, h) _
    refine rc_ifT (t := 10) mq166 (mvDec_of cd166 rfl) rfl rfl ?_
    refine rc_aload_n mq166 (mvDec_of cd166 rfl) rfl ?_
    refine rc_iload_n mq166 (mvDec_of cd166 rfl) rfl ?_
    refine rc_callV [mvR 68, mvI x1] [] [some (mvR 68), some (mvI x1), none, none, none] mq166 (mvDec_of cd166 rfl) lk_10_265 mq54 (by decide) rfl rfl (Nat.le_of_ble_eq_true rfl) (Nat.le_of_ble_eq_true rfl) (by decide) rfl mis68 rfl (ri_bind H (fun r2 h1 H => ?_))
    refine rc_if_eq (t := 39) mq166 (mvDec_of cd166 rfl) rfl (fun hc => ?_) (fun hc => ?_)
    · replace H := H.1 hc
      refine rc_bipush mq166 (mvDec_of cd166 rfl) (by decide) ?_
      exact rc_iret mq166 (mvDec_of cd166 rfl) ⟨_, _, rfl, rfl, H⟩
    · replace H := H.2 hc
      refine rc_aload_n mq166 (mvDec_of cd166 rfl) rfl ?_
      refine rc_iload_n mq166 (mvDec_of cd166 rfl) rfl ?_
      refine rc_callV [mvR 68, mvI x2] [] [some (mvR 68), some (mvI x2)] mq166 (mvDec_of cd166 rfl) lk_10_170 mq116 (by decide) rfl rfl (Nat.le_of_ble_eq_true rfl) (Nat.le_of_ble_eq_true rfl) (by decide) rfl mis68 rfl ?_
      refine rc_iload_n mq116 (mvDec_of cd116 rfl) rfl ?_
      refine rc_iconst mq116 (mvDec_of cd116 rfl) (by decide) ?_
      refine rc_aload_n mq116 (mvDec_of cd116 rfl) rfl ?_
      refine rc_getI 0 mq116 (mvDec_of cd116 rfl) fl_10_138 mis68 rfl (by decide) (by decide) ?_
      refine rc_iconst mq116 (mvDec_of cd116 rfl) (by decide) ?_
      refine rc_isub mq116 (mvDec_of cd116 rfl) ?_
      refine rc_callS [mvI x2, mvI 0, mvI (mw ((h1 68 0) - 1))] [] [some (mvI x2), some (mvI 0), some (mvI (mw ((h1 68 0) - 1)))] mq116 (mvDec_of cd116 rfl) lk_10_95 mq38 (by decide) rfl rfl (Nat.le_of_ble_eq_true rfl) (Nat.le_of_ble_eq_true rfl) (by decide) rfl ?_
      refine rc_iload_n mq38 (mvDec_of cd38 rfl) rfl ?_
      refine rc_iload_n mq38 (mvDec_of cd38 rfl) rfl ?_
      refine rc_icmp_lt (t := 14) mq38 (mvDec_of cd38 rfl) rfl (fun hc => ?_) (fun hc => ?_)
      · replace H := H.1 hc
        refine rc_iconst mq38 (mvDec_of cd38 rfl) (by decide) ?_
        refine rc_zret mq38 (mvDec_of cd38 rfl) (Or.inl rfl) ?_
        show Rch 116 11 [some (mvR 68), some (mvI x2)] [mvI 0] (97, g, h1) _
        refine rc_zret mq116 (mvDec_of cd116 rfl) (Or.inl rfl) ?_
        show Rch 166 23 [some (mvR 68), some (mvI x1), some (mvI x2), some (mvI x3)] [mvI 0] (97, g, h1) _
        refine rc_ifT (t := 39) mq166 (mvDec_of cd166 rfl) rfl rfl ?_
        refine rc_bipush mq166 (mvDec_of cd166 rfl) (by decide) ?_
        exact rc_iret mq166 (mvDec_of cd166 rfl) ⟨_, _, rfl, rfl, H⟩
      · replace H := H.2 hc
        refine rc_iload_n mq38 (mvDec_of cd38 rfl) rfl ?_
        refine rc_iload_n mq38 (mvDec_of cd38 rfl) rfl ?_
        refine rc_icmp_gt (t := 14) mq38 (mvDec_of cd38 rfl) rfl (fun hc => ?_) (fun hc => ?_)
        · replace H := H.1 hc
          refine rc_iconst mq38 (mvDec_of cd38 rfl) (by decide) ?_
          refine rc_zret mq38 (mvDec_of cd38 rfl) (Or.inl rfl) ?_
          show Rch 116 11 [some (mvR 68), some (mvI x2)] [mvI 0] (97, g, h1) _
          refine rc_zret mq116 (mvDec_of cd116 rfl) (Or.inl rfl) ?_
          show Rch 166 23 [some (mvR 68), some (mvI x1), some (mvI x2), some (mvI x3)] [mvI 0] (97, g, h1) _
          refine rc_ifT (t := 39) mq166 (mvDec_of cd166 rfl) rfl rfl ?_
          refine rc_bipush mq166 (mvDec_of cd166 rfl) (by decide) ?_
          exact rc_iret mq166 (mvDec_of cd166 rfl) ⟨_, _, rfl, rfl, H⟩
        · replace H := H.2 hc
          refine rc_iconst mq38 (mvDec_of cd38 rfl) (by decide) ?_
          refine rc_goto (t := 15) mq38 (mvDec_of cd38 rfl) rfl ?_
          refine rc_zret mq38 (mvDec_of cd38 rfl) (Or.inr rfl) ?_
          show Rch 116 11 [some (mvR 68), some (mvI x2)] [mvI 1] (97, g, h1) _
          refine rc_zret mq116 (mvDec_of cd116 rfl) (Or.inr rfl) ?_
          show Rch 166 23 [some (mvR 68), some (mvI x1), some (mvI x2), some (mvI x3)] [mvI 1] (97, g, h1) _
          refine rc_ifF (t := 39) mq166 (mvDec_of cd166 rfl) rfl rfl ?_
          refine rc_aload_n mq166 (mvDec_of cd166 rfl) rfl ?_
          refine rc_iload_n mq166 (mvDec_of cd166 rfl) rfl ?_
          refine rc_callV [mvR 68, mvI x3] [] [some (mvR 68), some (mvI x3)] mq166 (mvDec_of cd166 rfl) lk_10_170 mq116 (by decide) rfl rfl (Nat.le_of_ble_eq_true rfl) (Nat.le_of_ble_eq_true rfl) (by decide) rfl mis68 rfl ?_
          refine rc_iload_n mq116 (mvDec_of cd116 rfl) rfl ?_
          refine rc_iconst mq116 (mvDec_of cd116 rfl) (by decide) ?_
          refine rc_aload_n mq116 (mvDec_of cd116 rfl) rfl ?_
          refine rc_getI 0 mq116 (mvDec_of cd116 rfl) fl_10_138 mis68 rfl (by decide) (by decide) ?_
          refine rc_iconst mq116 (mvDec_of cd116 rfl) (by decide) ?_
          refine rc_isub mq116 (mvDec_of cd116 rfl) ?_
          refine rc_callS [mvI x3, mvI 0, mvI (mw ((h1 68 0) - 1))] [] [some (mvI x3), some (mvI 0), some (mvI (mw ((h1 68 0) - 1)))] mq116 (mvDec_of cd116 rfl) lk_10_95 mq38 (by decide) rfl rfl (Nat.le_of_ble_eq_true rfl) (Nat.le_of_ble_eq_true rfl) (by decide) rfl ?_
          refine rc_iload_n mq38 (mvDec_of cd38 rfl) rfl ?_
          refine rc_iload_n mq38 (mvDec_of cd38 rfl) rfl ?_
          refine rc_icmp_lt (t := 14) mq38 (mvDec_of cd38 rfl) rfl (fun hc => ?_) (fun hc => ?_)
          · replace H := H.1 hc
            refine rc_iconst mq38 (mvDec_of cd38 rfl) (by decide) ?_
            refine rc_zret mq38 (mvDec_of cd38 rfl) (Or.inl rfl) ?_
            show Rch 116 11 [some (mvR 68), some (mvI x3)] [mvI 0] (97, g, h1) _
            refine rc_zret mq116 (mvDec_of cd116 rfl) (Or.inl rfl) ?_
            show Rch 166 31 [some (mvR 68), some (mvI x1), some (mvI x2), some (mvI x3)] [mvI 0] (97, g, h1) _
            refine rc_ifT (t := 39) mq166 (mvDec_of cd166 rfl) rfl rfl ?_
            refine rc_bipush mq166 (mvDec_of cd166 rfl) (by decide) ?_
            exact rc_iret mq166 (mvDec_of cd166 rfl) ⟨_, _, rfl, rfl, H⟩
          · replace H := H.2 hc
            refine rc_iload_n mq38 (mvDec_of cd38 rfl) rfl ?_
            refine rc_iload_n mq38 (mvDec_of cd38 rfl) rfl ?_
            refine rc_icmp_gt (t := 14) mq38 (mvDec_of cd38 rfl) rfl (fun hc => ?_) (fun hc => ?_)
            · replace H := H.1 hc
              refine rc_iconst mq38 (mvDec_of cd38 rfl) (by decide) ?_
              refine rc_zret mq38 (mvDec_of cd38 rfl) (Or.inl rfl) ?_
              show Rch 116 11 [some (mvR 68), some (mvI x3)] [mvI 0] (97, g, h1) _
              refine rc_zret mq116 (mvDec_of cd116 rfl) (Or.inl rfl) ?_
              show Rch 166 31 [some (mvR 68), some (mvI x1), some (mvI x2), some (mvI x3)] [mvI 0] (97, g, h1) _
              refine rc_ifT (t := 39) mq166 (mvDec_of cd166 rfl) rfl rfl ?_
              refine rc_bipush mq166 (mvDec_of cd166 rfl) (by decide) ?_
              exact rc_iret mq166 (mvDec_of cd166 rfl) ⟨_, _, rfl, rfl, H⟩
            · replace H := H.2 hc
              refine rc_iconst mq38 (mvDec_of cd38 rfl) (by decide) ?_
              refine rc_goto (t := 15) mq38 (mvDec_of cd38 rfl) rfl ?_
              refine rc_zret mq38 (mvDec_of cd38 rfl) (Or.inr rfl) ?_
              show Rch 116 11 [some (mvR 68), some (mvI x3)] [mvI 1] (97, g, h1) _
              refine rc_zret mq116 (mvDec_of cd116 rfl) (Or.inr rfl) ?_
              show Rch 166 31 [some (mvR 68), some (mvI x1), some (mvI x2), some (mvI x3)] [mvI 1] (97, g, h1) _
              refine rc_ifF (t := 39) mq166 (mvDec_of cd166 rfl) rfl rfl ?_
              refine rc_iload_n mq166 (mvDec_of cd166 rfl) rfl ?_
              refine rc_iload_n mq166 (mvDec_of cd166 rfl) rfl ?_
              refine rc_icmp_ne (t := 42) mq166 (mvDec_of cd166 rfl) rfl (fun hc => ?_) (fun hc => ?_)
              · replace H := H.1 hc
                refine rc_aload_n mq166 (mvDec_of cd166 rfl) rfl ?_
                refine rc_callV [mvR 68] [] [some (mvR 68), none, none, none] mq166 (mvDec_of cd166 rfl) lk_10_234 mq55 (by decide) rfl rfl (Nat.le_of_ble_eq_true rfl) (Nat.le_of_ble_eq_true rfl) (by decide) rfl mis68 rfl (ri_bind H (fun r4 h3 H => ?_))
                refine rc_if_eq (t := 58) mq166 (mvDec_of cd166 rfl) rfl (fun hc => ?_) (fun hc => ?_)
                · replace H := H.1 hc
                  refine rc_bipush mq166 (mvDec_of cd166 rfl) (by decide) ?_
                  exact rc_iret mq166 (mvDec_of cd166 rfl) ⟨_, _, rfl, rfl, H⟩
                · replace H := H.2 hc
                  refine rc_aload_n mq166 (mvDec_of cd166 rfl) rfl ?_
                  refine rc_iload_n mq166 (mvDec_of cd166 rfl) rfl ?_
                  refine rc_iload_n mq166 (mvDec_of cd166 rfl) rfl ?_
                  refine rc_callV [mvR 68, mvI x2, mvI x3] [] [some (mvR 68), some (mvI x2), some (mvI x3), none, none, none, none] mq166 (mvDec_of cd166 rfl) lk_10_203 mq58 (by decide) rfl rfl (Nat.le_of_ble_eq_true rfl) (Nat.le_of_ble_eq_true rfl) (by decide) rfl mis68 rfl (ri_bind H (fun r6 h5 H => ?_))
                  refine rc_goto (t := 60) mq166 (mvDec_of cd166 rfl) rfl ?_
                  exact rc_iret mq166 (mvDec_of cd166 rfl) ⟨_, _, rfl, rfl, H⟩
              · replace H := H.2 hc
                refine rc_bipush mq166 (mvDec_of cd166 rfl) (by decide) ?_
                exact rc_iret mq166 (mvDec_of cd166 rfl) ⟨_, _, rfl, rfl, H⟩
abbrev MD_meet (g : Nat → Nat → Nat) (h : Nat → Int → Int) (x1 : Int) (x2 : Int) (K : Int → (Nat → Int → Int) → Prop) : Prop := RI 167 0 [some (mvR 68), some (mvI x1), some (mvI x2)] [] g h K
theorem MD_meet_wp {sw : Bool} {g : Nat → Nat → Nat} {h : Nat → Int → Int} {x1 : Int} {x2 : Int} {K : Int → (Nat → Int → Int) → Prop} (hG : Gok sw g)  (H :
  MD_mixed g h x1 x2 0 (fun r2 h1 =>
    K r2 h1)) : MD_meet g h x1 x2 K := by
  refine rc_aload_n mq167 (mvDec_of cd167 rfl) rfl ?_
  refine rc_iload_n mq167 (mvDec_of cd167 rfl) rfl ?_
  refine rc_iload_n mq167 (mvDec_of cd167 rfl) rfl ?_
  refine rc_iconst mq167 (mvDec_of cd167 rfl) (by decide) ?_
  refine rc_callV [mvR 68, mvI x1, mvI x2, mvI 0] [] [some (mvR 68), some (mvI x1), some (mvI x2), some (mvI 0), none, none, none] mq167 (mvDec_of cd167 rfl) lk_10_271 mq125 (by decide) rfl rfl (Nat.le_of_ble_eq_true rfl) (Nat.le_of_ble_eq_true rfl) (by decide) rfl mis68 rfl (ri_bind H (fun r2 h1 H => ?_))
  exact rc_iret mq167 (mvDec_of cd167 rfl) ⟨_, _, rfl, rfl, H⟩
abbrev MD_join (g : Nat → Nat → Nat) (h : Nat → Int → Int) (x1 : Int) (x2 : Int) (K : Int → (Nat → Int → Int) → Prop) : Prop := RI 168 0 [some (mvR 68), some (mvI x1), some (mvI x2)] [] g h K
theorem MD_join_wp {sw : Bool} {g : Nat → Nat → Nat} {h : Nat → Int → Int} {x1 : Int} {x2 : Int} {K : Int → (Nat → Int → Int) → Prop} (hG : Gok sw g)  (H :
  MD_mixed g h x1 x2 1 (fun r2 h1 =>
    K r2 h1)) : MD_join g h x1 x2 K := by
  refine rc_aload_n mq168 (mvDec_of cd168 rfl) rfl ?_
  refine rc_iload_n mq168 (mvDec_of cd168 rfl) rfl ?_
  refine rc_iload_n mq168 (mvDec_of cd168 rfl) rfl ?_
  refine rc_iconst mq168 (mvDec_of cd168 rfl) (by decide) ?_
  refine rc_callV [mvR 68, mvI x1, mvI x2, mvI 1] [] [some (mvR 68), some (mvI x1), some (mvI x2), some (mvI 1), none, none, none] mq168 (mvDec_of cd168 rfl) lk_10_271 mq125 (by decide) rfl rfl (Nat.le_of_ble_eq_true rfl) (Nat.le_of_ble_eq_true rfl) (by decide) rfl mis68 rfl (ri_bind H (fun r2 h1 H => ?_))
  exact rc_iret mq168 (mvDec_of cd168 rfl) ⟨_, _, rfl, rfl, H⟩
abbrev MD_widest (g : Nat → Nat → Nat) (h : Nat → Int → Int)  (K : Int → (Nat → Int → Int) → Prop) : Prop := RI 169 0 [some (mvR 68), none, none] [] g h K
abbrev MD_widest_4 (g : Nat → Nat → Nat) (h : Nat → Int → Int) (l1 : Int) (l2 : Int) (K : Int → (Nat → Int → Int) → Prop) : Prop := RI 169 4 [some (mvR 68), some (mvI l1), some (mvI l2)] [] g h K
theorem MD_widest_wp {sw : Bool} {g : Nat → Nat → Nat} {h : Nat → Int → Int}  {K : Int → (Nat → Int → Int) → Prop} (hG : Gok sw g)  (H :
  MD_widest_4 g h 0 1 K) : MD_widest g h  K := by
  refine rc_iconst mq169 (mvDec_of cd169 rfl) (by decide) ?_
  refine rc_istore_n [some (mvR 68), some (mvI 0), none] mq169 (mvDec_of cd169 rfl) rfl ?_
  refine rc_iconst mq169 (mvDec_of cd169 rfl) (by decide) ?_
  refine rc_istore_n [some (mvR 68), some (mvI 0), some (mvI 1)] mq169 (mvDec_of cd169 rfl) rfl ?_
  exact H
theorem MD_widest_4_wp {sw : Bool} {g : Nat → Nat → Nat} {h : Nat → Int → Int} {l1 : Int} {l2 : Int} {K : Int → (Nat → Int → Int) → Prop} (hG : Gok sw g)  (H :
  MD_eventsAll g h (fun r2 h1 =>
    ((r2 < l2 →
      K l1 h1) ∧
    (l2 ≤ r2 →
      MD_cutsOf g h1 l2 (fun r4 h3 =>
        MD_cutsOf g h3 l1 (fun r6 h5 =>
          ((r4 ≤ r6 →
            MD_widest_4 g h5 l1 (mw (l2 + 1)) K) ∧
          (r6 < r4 →
            MD_widest_4 g h5 l2 (mw (l2 + 1)) K)))))))) : MD_widest_4 g h l1 l2 K := by
  refine rc_iload_n mq169 (mvDec_of cd169 rfl) rfl ?_
  refine rc_aload_n mq169 (mvDec_of cd169 rfl) rfl ?_
  refine rc_callV [mvR 68] [mvI l2] [some (mvR 68), none, none] mq169 (mvDec_of cd169 rfl) lk_10_173 mq46 (by decide) rfl rfl (Nat.le_of_ble_eq_true rfl) (Nat.le_of_ble_eq_true rfl) (by decide) rfl mis68 rfl (ri_bind H (fun r2 h1 H => ?_))
  refine rc_icmp_gt (t := 37) mq169 (mvDec_of cd169 rfl) rfl (fun hc => ?_) (fun hc => ?_)
  · replace H := H.1 hc
    refine rc_iload_n mq169 (mvDec_of cd169 rfl) rfl ?_
    exact rc_iret mq169 (mvDec_of cd169 rfl) ⟨_, _, rfl, rfl, H⟩
  · replace H := H.2 hc
    refine rc_aload_n mq169 (mvDec_of cd169 rfl) rfl ?_
    refine rc_iload_n mq169 (mvDec_of cd169 rfl) rfl ?_
    refine rc_callV [mvR 68, mvI l2] [] [some (mvR 68), some (mvI l2), none, none] mq169 (mvDec_of cd169 rfl) lk_10_275 mq126 (by decide) rfl rfl (Nat.le_of_ble_eq_true rfl) (Nat.le_of_ble_eq_true rfl) (by decide) rfl mis68 rfl (ri_bind H (fun r4 h3 H => ?_))
    refine rc_aload_n mq169 (mvDec_of cd169 rfl) rfl ?_
    refine rc_iload_n mq169 (mvDec_of cd169 rfl) rfl ?_
    refine rc_callV [mvR 68, mvI l1] [mvI r4] [some (mvR 68), some (mvI l1), none, none] mq169 (mvDec_of cd169 rfl) lk_10_275 mq126 (by decide) rfl rfl (Nat.le_of_ble_eq_true rfl) (Nat.le_of_ble_eq_true rfl) (by decide) rfl mis68 rfl (ri_bind H (fun r6 h5 H => ?_))
    refine rc_icmp_le (t := 29) mq169 (mvDec_of cd169 rfl) rfl (fun hc => ?_) (fun hc => ?_)
    · replace H := H.1 hc
      refine rc_iload_n mq169 (mvDec_of cd169 rfl) rfl ?_
      refine rc_istore_n [some (mvR 68), some (mvI l1), some (mvI l2)] mq169 (mvDec_of cd169 rfl) rfl ?_
      refine rc_iinc [some (mvR 68), some (mvI l1), some (mvI (mw (l2 + 1)))] mq169 (mvDec_of cd169 rfl) rfl rfl ?_
      refine rc_goto (t := 4) mq169 (mvDec_of cd169 rfl) rfl ?_
      exact H
    · replace H := H.2 hc
      refine rc_iload_n mq169 (mvDec_of cd169 rfl) rfl ?_
      refine rc_goto (t := 30) mq169 (mvDec_of cd169 rfl) rfl ?_
      refine rc_istore_n [some (mvR 68), some (mvI l2), some (mvI l2)] mq169 (mvDec_of cd169 rfl) rfl ?_
      refine rc_iinc [some (mvR 68), some (mvI l2), some (mvI (mw (l2 + 1)))] mq169 (mvDec_of cd169 rfl) rfl rfl ?_
      refine rc_goto (t := 4) mq169 (mvDec_of cd169 rfl) rfl ?_
      exact H
abbrev MD_allow (g : Nat → Nat → Nat) (h : Nat → Int → Int) (x1 : Int) (x2 : Int) (K : Int → (Nat → Int → Int) → Prop) : Prop := RI 170 0 [some (mvR 68), some (mvI x1), some (mvI x2), none] [] g h K
theorem MD_allow_wp {sw : Bool} {g : Nat → Nat → Nat} {h : Nat → Int → Int} {x1 : Int} {x2 : Int} {K : Int → (Nat → Int → Int) → Prop} (hG : Gok sw g)  (H :
  ((x1 < 0 →
    K (-101) h) ∧
  (0 ≤ x1 →
    (((mw ((h 68 0) - 1)) < x1 →
      K (-101) h) ∧
    (x1 ≤ (mw ((h 68 0) - 1)) →
      ((x2 < 0 →
        K (-102) h) ∧
      (0 ≤ x2 →
        ((1023 < x2 →
          K (-102) h) ∧
        (x2 ≤ 1023 →
          (0 ≤ x1 ∧ x1 < 4) ∧
          (∀ v1, v1 = (h 74 x1) →
          (0 ≤ x1 ∧ x1 < 4) ∧
          (∀ h2, h2 = mvUpd h 74 x1 x2 →
          K v1 h2))))))))))) : MD_allow g h x1 x2 K := by
  refine rc_aload_n mq170 (mvDec_of cd170 rfl) rfl ?_
  refine rc_iload_n mq170 (mvDec_of cd170 rfl) rfl ?_
  refine rc_callV [mvR 68, mvI x1] [] [some (mvR 68), some (mvI x1)] mq170 (mvDec_of cd170 rfl) lk_10_170 mq116 (by decide) rfl rfl (Nat.le_of_ble_eq_true rfl) (Nat.le_of_ble_eq_true rfl) (by decide) rfl mis68 rfl ?_
  refine rc_iload_n mq116 (mvDec_of cd116 rfl) rfl ?_
  refine rc_iconst mq116 (mvDec_of cd116 rfl) (by decide) ?_
  refine rc_aload_n mq116 (mvDec_of cd116 rfl) rfl ?_
  refine rc_getI 0 mq116 (mvDec_of cd116 rfl) fl_10_138 mis68 rfl (by decide) (by decide) ?_
  refine rc_iconst mq116 (mvDec_of cd116 rfl) (by decide) ?_
  refine rc_isub mq116 (mvDec_of cd116 rfl) ?_
  refine rc_callS [mvI x1, mvI 0, mvI (mw ((h 68 0) - 1))] [] [some (mvI x1), some (mvI 0), some (mvI (mw ((h 68 0) - 1)))] mq116 (mvDec_of cd116 rfl) lk_10_95 mq38 (by decide) rfl rfl (Nat.le_of_ble_eq_true rfl) (Nat.le_of_ble_eq_true rfl) (by decide) rfl ?_
  refine rc_iload_n mq38 (mvDec_of cd38 rfl) rfl ?_
  refine rc_iload_n mq38 (mvDec_of cd38 rfl) rfl ?_
  refine rc_icmp_lt (t := 14) mq38 (mvDec_of cd38 rfl) rfl (fun hc => ?_) (fun hc => ?_)
  · replace H := H.1 hc
    refine rc_iconst mq38 (mvDec_of cd38 rfl) (by decide) ?_
    refine rc_zret mq38 (mvDec_of cd38 rfl) (Or.inl rfl) ?_
    show Rch 116 11 [some (mvR 68), some (mvI x1)] [mvI 0] (97, g, h) _
    refine rc_zret mq116 (mvDec_of cd116 rfl) (Or.inl rfl) ?_
    show Rch 170 5 [some (mvR 68), some (mvI x1), some (mvI x2), none] [mvI 0] (97, g, h) _
    refine rc_ifF (t := 11) mq170 (mvDec_of cd170 rfl) rfl rfl ?_
    refine rc_bipush mq170 (mvDec_of cd170 rfl) (by decide) ?_
    exact rc_iret mq170 (mvDec_of cd170 rfl) ⟨_, _, rfl, rfl, H⟩
  · replace H := H.2 hc
    refine rc_iload_n mq38 (mvDec_of cd38 rfl) rfl ?_
    refine rc_iload_n mq38 (mvDec_of cd38 rfl) rfl ?_
    refine rc_icmp_gt (t := 14) mq38 (mvDec_of cd38 rfl) rfl (fun hc => ?_) (fun hc => ?_)
    · replace H := H.1 hc
      refine rc_iconst mq38 (mvDec_of cd38 rfl) (by decide) ?_
      refine rc_zret mq38 (mvDec_of cd38 rfl) (Or.inl rfl) ?_
      show Rch 116 11 [some (mvR 68), some (mvI x1)] [mvI 0] (97, g, h) _
      refine rc_zret mq116 (mvDec_of cd116 rfl) (Or.inl rfl) ?_
      show Rch 170 5 [some (mvR 68), some (mvI x1), some (mvI x2), none] [mvI 0] (97, g, h) _
      refine rc_ifF (t := 11) mq170 (mvDec_of cd170 rfl) rfl rfl ?_
      refine rc_bipush mq170 (mvDec_of cd170 rfl) (by decide) ?_
      exact rc_iret mq170 (mvDec_of cd170 rfl) ⟨_, _, rfl, rfl, H⟩
    · replace H := H.2 hc
      refine rc_iconst mq38 (mvDec_of cd38 rfl) (by decide) ?_
      refine rc_goto (t := 15) mq38 (mvDec_of cd38 rfl) rfl ?_
      refine rc_zret mq38 (mvDec_of cd38 rfl) (Or.inr rfl) ?_
      show Rch 116 11 [some (mvR 68), some (mvI x1)] [mvI 1] (97, g, h) _
      refine rc_zret mq116 (mvDec_of cd116 rfl) (Or.inr rfl) ?_
      show Rch 170 5 [some (mvR 68), some (mvI x1), some (mvI x2), none] [mvI 1] (97, g, h) _
      refine rc_ifT (t := 11) mq170 (mvDec_of cd170 rfl) rfl rfl ?_
      refine rc_iload_n mq170 (mvDec_of cd170 rfl) rfl ?_
      refine rc_iconst mq170 (mvDec_of cd170 rfl) (by decide) ?_
      refine rc_sipush mq170 (mvDec_of cd170 rfl) (by decide) ?_
      refine rc_callS [mvI x2, mvI 0, mvI 1023] [] [some (mvI x2), some (mvI 0), some (mvI 1023)] mq170 (mvDec_of cd170 rfl) lk_10_95 mq38 (by decide) rfl rfl (Nat.le_of_ble_eq_true rfl) (Nat.le_of_ble_eq_true rfl) (by decide) rfl ?_
      refine rc_iload_n mq38 (mvDec_of cd38 rfl) rfl ?_
      refine rc_iload_n mq38 (mvDec_of cd38 rfl) rfl ?_
      refine rc_icmp_lt (t := 14) mq38 (mvDec_of cd38 rfl) rfl (fun hc => ?_) (fun hc => ?_)
      · replace H := H.1 hc
        refine rc_iconst mq38 (mvDec_of cd38 rfl) (by decide) ?_
        refine rc_zret mq38 (mvDec_of cd38 rfl) (Or.inl rfl) ?_
        show Rch 170 19 [some (mvR 68), some (mvI x1), some (mvI x2), none] [mvI 0] (97, g, h) _
        refine rc_ifF (t := 25) mq170 (mvDec_of cd170 rfl) rfl rfl ?_
        refine rc_bipush mq170 (mvDec_of cd170 rfl) (by decide) ?_
        exact rc_iret mq170 (mvDec_of cd170 rfl) ⟨_, _, rfl, rfl, H⟩
      · replace H := H.2 hc
        refine rc_iload_n mq38 (mvDec_of cd38 rfl) rfl ?_
        refine rc_iload_n mq38 (mvDec_of cd38 rfl) rfl ?_
        refine rc_icmp_gt (t := 14) mq38 (mvDec_of cd38 rfl) rfl (fun hc => ?_) (fun hc => ?_)
        · replace H := H.1 hc
          refine rc_iconst mq38 (mvDec_of cd38 rfl) (by decide) ?_
          refine rc_zret mq38 (mvDec_of cd38 rfl) (Or.inl rfl) ?_
          show Rch 170 19 [some (mvR 68), some (mvI x1), some (mvI x2), none] [mvI 0] (97, g, h) _
          refine rc_ifF (t := 25) mq170 (mvDec_of cd170 rfl) rfl rfl ?_
          refine rc_bipush mq170 (mvDec_of cd170 rfl) (by decide) ?_
          exact rc_iret mq170 (mvDec_of cd170 rfl) ⟨_, _, rfl, rfl, H⟩
        · replace H := H.2 hc
          refine rc_iconst mq38 (mvDec_of cd38 rfl) (by decide) ?_
          refine rc_goto (t := 15) mq38 (mvDec_of cd38 rfl) rfl ?_
          refine rc_zret mq38 (mvDec_of cd38 rfl) (Or.inr rfl) ?_
          show Rch 170 19 [some (mvR 68), some (mvI x1), some (mvI x2), none] [mvI 1] (97, g, h) _
          refine rc_ifT (t := 25) mq170 (mvDec_of cd170 rfl) rfl rfl ?_
          refine rc_aload_n mq170 (mvDec_of cd170 rfl) rfl ?_
          refine rc_getR 74 mq170 (mvDec_of cd170 rfl) fl_10_25 mis68 rfl (gr_68_6 hG) (by decide) ?_
          refine rc_iload_n mq170 (mvDec_of cd170 rfl) rfl ?_
          obtain ⟨⟨hb0, hb1⟩, H⟩ := H
          refine rc_iald mq170 (mvDec_of cd170 rfl) mis74 hb0 hb1 ?_
          refine rc_top (fun v1 hv => ?_)
          replace H := H v1 hv
          refine rc_istore_n [some (mvR 68), some (mvI x1), some (mvI x2), some (mvI v1)] mq170 (mvDec_of cd170 rfl) rfl ?_
          refine rc_aload_n mq170 (mvDec_of cd170 rfl) rfl ?_
          refine rc_getR 74 mq170 (mvDec_of cd170 rfl) fl_10_25 mis68 rfl (gr_68_6 hG) (by decide) ?_
          refine rc_iload_n mq170 (mvDec_of cd170 rfl) rfl ?_
          refine rc_iload_n mq170 (mvDec_of cd170 rfl) rfl ?_
          obtain ⟨⟨hb0, hb1⟩, H⟩ := H
          refine rc_iast mq170 (mvDec_of cd170 rfl) mis74 hb0 hb1 ?_
          refine rc_heap (fun h2 hh => ?_)
          replace H := H h2 hh
          refine rc_iload_n mq170 (mvDec_of cd170 rfl) rfl ?_
          exact rc_iret mq170 (mvDec_of cd170 rfl) ⟨_, _, rfl, rfl, H⟩
abbrev MD_heldFirst (g : Nat → Nat → Nat) (h : Nat → Int → Int)  (K : Int → (Nat → Int → Int) → Prop) : Prop := RI 171 0 [some (mvR 68), none, none, none] [] g h K
abbrev MD_heldFirst_4 (g : Nat → Nat → Nat) (h : Nat → Int → Int) (l1 : Int) (l2 : Int) (u3 : Option Int) (K : Int → (Nat → Int → Int) → Prop) : Prop := RI 171 4 [some (mvR 68), some (mvI l1), some (mvI l2), u3.map mvI] [] g h K
abbrev MD_heldFirst_47 (g : Nat → Nat → Nat) (h : Nat → Int → Int) (l1 : Int) (l2 : Int) (l3 : Int) (K : Int → (Nat → Int → Int) → Prop) : Prop := RI 171 47 [some (mvR 68), some (mvI l1), some (mvI l2), some (mvI l3)] [] g h K
theorem MD_heldFirst_wp {sw : Bool} {g : Nat → Nat → Nat} {h : Nat → Int → Int}  {K : Int → (Nat → Int → Int) → Prop} (hG : Gok sw g)  (H :
  MD_heldFirst_4 g h (-1) 0 none K) : MD_heldFirst g h  K := by
  refine rc_iconst mq171 (mvDec_of cd171 rfl) (by decide) ?_
  refine rc_istore_n [some (mvR 68), some (mvI (-1)), none, none] mq171 (mvDec_of cd171 rfl) rfl ?_
  refine rc_iconst mq171 (mvDec_of cd171 rfl) (by decide) ?_
  refine rc_istore_n [some (mvR 68), some (mvI (-1)), some (mvI 0), none] mq171 (mvDec_of cd171 rfl) rfl ?_
  exact H
theorem MD_heldFirst_4_wp {sw : Bool} {g : Nat → Nat → Nat} {h : Nat → Int → Int} {l1 : Int} {l2 : Int} {u3 : Option Int} {K : Int → (Nat → Int → Int) → Prop} (hG : Gok sw g)  (H :
  MD_cutsAll g h (fun r2 h1 =>
    ((r2 ≤ l2 →
      ((¬ l1 = (-1) →
        MD_take g h1 l1 (fun h3 =>
          MD_toldNow g h3 (fun r5 h4 =>
            K r5 h4))) ∧
      (l1 = (-1) →
        K (-1) h1))) ∧
    (l2 < r2 →
      (0 ≤ l2 ∧ l2 < 640) ∧
      (((h1 83 l2) = 0 →
        MD_heldFirst_47 g h1 l1 l2 0 K) ∧
      (¬ (h1 83 l2) = 0 →
        ((l1 = (-1) →
          MD_heldFirst_47 g h1 l1 l2 1 K) ∧
        (¬ l1 = (-1) →
          (0 ≤ l2 ∧ l2 < 640) ∧
          (0 ≤ l1 ∧ l1 < 640) ∧
          (((h1 87 l1) ≤ (h1 87 l2) →
            MD_heldFirst_47 g h1 l1 l2 0 K) ∧
          ((h1 87 l2) < (h1 87 l1) →
            MD_heldFirst_47 g h1 l1 l2 1 K)))))))))) : MD_heldFirst_4 g h l1 l2 u3 K := by
  refine rc_iload_n mq171 (mvDec_of cd171 rfl) rfl ?_
  refine rc_aload_n mq171 (mvDec_of cd171 rfl) rfl ?_
  refine rc_callV [mvR 68] [mvI l2] [some (mvR 68), none, none] mq171 (mvDec_of cd171 rfl) lk_10_231 mq49 (by decide) rfl rfl (Nat.le_of_ble_eq_true rfl) (Nat.le_of_ble_eq_true rfl) (by decide) rfl mis68 rfl (ri_bind H (fun r2 h1 H => ?_))
  refine rc_icmp_ge (t := 63) mq171 (mvDec_of cd171 rfl) rfl (fun hc => ?_) (fun hc => ?_)
  · replace H := H.1 hc
    refine rc_iload_n mq171 (mvDec_of cd171 rfl) rfl ?_
    refine rc_iconst mq171 (mvDec_of cd171 rfl) (by decide) ?_
    refine rc_icmp_ne (t := 72) mq171 (mvDec_of cd171 rfl) rfl (fun hc => ?_) (fun hc => ?_)
    · replace H := H.1 hc
      refine rc_aload_n mq171 (mvDec_of cd171 rfl) rfl ?_
      refine rc_iload_n mq171 (mvDec_of cd171 rfl) rfl ?_
      refine rc_callV [mvR 68, mvI l1] [] [some (mvR 68), some (mvI l1)] mq171 (mvDec_of cd171 rfl) lk_10_290 mq119 (by decide) rfl rfl (Nat.le_of_ble_eq_true rfl) (Nat.le_of_ble_eq_true rfl) (by decide) rfl mis68 rfl ?_
      refine rc_aload_n mq119 (mvDec_of cd119 rfl) rfl ?_
      refine rc_iload_n mq119 (mvDec_of cd119 rfl) rfl ?_
      refine rc_callV [mvR 68, mvI l1] [] [some (mvR 68), some (mvI l1), none, none] mq119 (mvDec_of cd119 rfl) lk_10_196 mq50 (by decide) rfl rfl (Nat.le_of_ble_eq_true rfl) (Nat.le_of_ble_eq_true rfl) (by decide) rfl mis68 rfl (rv_bind H (fun h3 H => ?_))
      refine rc_aload_n mq119 (mvDec_of cd119 rfl) rfl ?_
      refine rc_callV [mvR 68] [] [some (mvR 68), none, none] mq119 (mvDec_of cd119 rfl) lk_10_200 mq53 (by decide) rfl rfl (Nat.le_of_ble_eq_true rfl) (Nat.le_of_ble_eq_true rfl) (by decide) rfl mis68 rfl (ri_bind H (fun r5 h4 H => ?_))
      refine rc_iret mq119 (mvDec_of cd119 rfl) ?_
      show Rch 171 77 [some (mvR 68), some (mvI l1), some (mvI l2), u3.map mvI] [mvI r5] (97, g, h4) _
      exact rc_iret mq171 (mvDec_of cd171 rfl) ⟨_, _, rfl, rfl, H⟩
    · replace H := H.2 hc
      refine rc_iconst mq171 (mvDec_of cd171 rfl) (by decide) ?_
      refine rc_goto (t := 77) mq171 (mvDec_of cd171 rfl) rfl ?_
      exact rc_iret mq171 (mvDec_of cd171 rfl) ⟨_, _, rfl, rfl, H⟩
  · replace H := H.2 hc
    refine rc_aload_n mq171 (mvDec_of cd171 rfl) rfl ?_
    refine rc_getR 83 mq171 (mvDec_of cd171 rfl) fl_10_53 mis68 rfl (gr_68_28 hG) (by decide) ?_
    refine rc_iload_n mq171 (mvDec_of cd171 rfl) rfl ?_
    obtain ⟨⟨hb0, hb1⟩, H⟩ := H
    refine rc_bald mq171 (mvDec_of cd171 rfl) mis83 hb0 hb1 ?_
    refine rc_if_eq (t := 45) mq171 (mvDec_of cd171 rfl) rfl (fun hc => ?_) (fun hc => ?_)
    · replace H := H.1 hc
      refine rc_iconst mq171 (mvDec_of cd171 rfl) (by decide) ?_
      refine rc_istore_n [some (mvR 68), some (mvI l1), some (mvI l2), some (mvI 0)] mq171 (mvDec_of cd171 rfl) rfl ?_
      exact H
    · replace H := H.2 hc
      refine rc_iload_n mq171 (mvDec_of cd171 rfl) rfl ?_
      refine rc_iconst mq171 (mvDec_of cd171 rfl) (by decide) ?_
      refine rc_icmp_eq (t := 41) mq171 (mvDec_of cd171 rfl) rfl (fun hc => ?_) (fun hc => ?_)
      · replace H := H.1 hc
        refine rc_iconst mq171 (mvDec_of cd171 rfl) (by decide) ?_
        refine rc_goto (t := 46) mq171 (mvDec_of cd171 rfl) rfl ?_
        refine rc_istore_n [some (mvR 68), some (mvI l1), some (mvI l2), some (mvI 1)] mq171 (mvDec_of cd171 rfl) rfl ?_
        exact H
      · replace H := H.2 hc
        refine rc_aload_n mq171 (mvDec_of cd171 rfl) rfl ?_
        refine rc_getR 87 mq171 (mvDec_of cd171 rfl) fl_10_65 mis68 rfl (gr_68_32 hG) (by decide) ?_
        refine rc_iload_n mq171 (mvDec_of cd171 rfl) rfl ?_
        obtain ⟨⟨hb0, hb1⟩, H⟩ := H
        refine rc_iald mq171 (mvDec_of cd171 rfl) mis87 hb0 hb1 ?_
        refine rc_aload_n mq171 (mvDec_of cd171 rfl) rfl ?_
        refine rc_getR 87 mq171 (mvDec_of cd171 rfl) fl_10_65 mis68 rfl (gr_68_32 hG) (by decide) ?_
        refine rc_iload_n mq171 (mvDec_of cd171 rfl) rfl ?_
        obtain ⟨⟨hb0, hb1⟩, H⟩ := H
        refine rc_iald mq171 (mvDec_of cd171 rfl) mis87 hb0 hb1 ?_
        refine rc_icmp_ge (t := 45) mq171 (mvDec_of cd171 rfl) rfl (fun hc => ?_) (fun hc => ?_)
        · replace H := H.1 hc
          refine rc_iconst mq171 (mvDec_of cd171 rfl) (by decide) ?_
          refine rc_istore_n [some (mvR 68), some (mvI l1), some (mvI l2), some (mvI 0)] mq171 (mvDec_of cd171 rfl) rfl ?_
          exact H
        · replace H := H.2 hc
          refine rc_iconst mq171 (mvDec_of cd171 rfl) (by decide) ?_
          refine rc_goto (t := 46) mq171 (mvDec_of cd171 rfl) rfl ?_
          refine rc_istore_n [some (mvR 68), some (mvI l1), some (mvI l2), some (mvI 1)] mq171 (mvDec_of cd171 rfl) rfl ?_
          exact H
theorem MD_heldFirst_47_wp {sw : Bool} {g : Nat → Nat → Nat} {h : Nat → Int → Int} {l1 : Int} {l2 : Int} {l3 : Int} {K : Int → (Nat → Int → Int) → Prop} (hG : Gok sw g)  (H :
  ((l3 = 0 →
    MD_heldFirst_4 g h l1 (mw (l2 + 1)) (some l3) K) ∧
  (¬ l3 = 0 →
    MD_heldFirst_4 g h l2 (mw (l2 + 1)) (some l3) K))) : MD_heldFirst_47 g h l1 l2 l3 K := by
  refine rc_iload_n mq171 (mvDec_of cd171 rfl) rfl ?_
  refine rc_if_eq (t := 55) mq171 (mvDec_of cd171 rfl) rfl (fun hc => ?_) (fun hc => ?_)
  · replace H := H.1 hc
    refine rc_iload_n mq171 (mvDec_of cd171 rfl) rfl ?_
    refine rc_istore_n [some (mvR 68), some (mvI l1), some (mvI l2), some (mvI l3)] mq171 (mvDec_of cd171 rfl) rfl ?_
    refine rc_iinc [some (mvR 68), some (mvI l1), some (mvI (mw (l2 + 1))), some (mvI l3)] mq171 (mvDec_of cd171 rfl) rfl rfl ?_
    refine rc_goto (t := 4) mq171 (mvDec_of cd171 rfl) rfl ?_
    exact H
  · replace H := H.2 hc
    refine rc_iload_n mq171 (mvDec_of cd171 rfl) rfl ?_
    refine rc_goto (t := 56) mq171 (mvDec_of cd171 rfl) rfl ?_
    refine rc_istore_n [some (mvR 68), some (mvI l2), some (mvI l2), some (mvI l3)] mq171 (mvDec_of cd171 rfl) rfl ?_
    refine rc_iinc [some (mvR 68), some (mvI l2), some (mvI (mw (l2 + 1))), some (mvI l3)] mq171 (mvDec_of cd171 rfl) rfl rfl ?_
    refine rc_goto (t := 4) mq171 (mvDec_of cd171 rfl) rfl ?_
    exact H
abbrev MD_aroundNow (g : Nat → Nat → Nat) (h : Nat → Int → Int) (x1 : Int) (K : Int → (Nat → Int → Int) → Prop) : Prop := RI 172 0 [some (mvR 68), some (mvI x1), none, none, none] [] g h K
abbrev MD_aroundNow_7 (g : Nat → Nat → Nat) (h : Nat → Int → Int) (l1 : Int) (l2 : Int) (l3 : Int) (l4 : Int) (K : Int → (Nat → Int → Int) → Prop) : Prop := RI 172 7 [some (mvR 68), some (mvI l1), some (mvI l2), some (mvI l3), some (mvI l4)] [] g h K
abbrev MD_aroundNow_15 (g : Nat → Nat → Nat) (h : Nat → Int → Int) (l1 : Int) (l2 : Int) (l3 : Int) (l4 : Int) (K : Int → (Nat → Int → Int) → Prop) : Prop := RI 172 15 [some (mvR 68), some (mvI l1), some (mvI l2), some (mvI l3), some (mvI l4)] [] g h K
theorem MD_aroundNow_wp {sw : Bool} {g : Nat → Nat → Nat} {h : Nat → Int → Int} {x1 : Int} {K : Int → (Nat → Int → Int) → Prop} (hG : Gok sw g)  (H :
  MD_aroundNow_7 g h x1 0 (-1) 0 K) : MD_aroundNow g h x1 K := by
  refine rc_iconst mq172 (mvDec_of cd172 rfl) (by decide) ?_
  refine rc_istore_n [some (mvR 68), some (mvI x1), some (mvI 0), none, none] mq172 (mvDec_of cd172 rfl) rfl ?_
  refine rc_iconst mq172 (mvDec_of cd172 rfl) (by decide) ?_
  refine rc_istore_n [some (mvR 68), some (mvI x1), some (mvI 0), some (mvI (-1)), none] mq172 (mvDec_of cd172 rfl) rfl ?_
  refine rc_iconst mq172 (mvDec_of cd172 rfl) (by decide) ?_
  refine rc_istore [some (mvR 68), some (mvI x1), some (mvI 0), some (mvI (-1)), some (mvI 0)] mq172 (mvDec_of cd172 rfl) rfl ?_
  exact H
theorem MD_aroundNow_7_wp {sw : Bool} {g : Nat → Nat → Nat} {h : Nat → Int → Int} {l1 : Int} {l2 : Int} {l3 : Int} {l4 : Int} {K : Int → (Nat → Int → Int) → Prop} (hG : Gok sw g)  (H :
  ((l1 < l4 →
    K l3 h) ∧
  (l4 ≤ l1 →
    MD_aroundNow_15 g h l1 l2 0 l4 K))) : MD_aroundNow_7 g h l1 l2 l3 l4 K := by
  refine rc_iload mq172 (mvDec_of cd172 rfl) rfl ?_
  refine rc_iload_n mq172 (mvDec_of cd172 rfl) rfl ?_
  refine rc_icmp_gt (t := 59) mq172 (mvDec_of cd172 rfl) rfl (fun hc => ?_) (fun hc => ?_)
  · replace H := H.1 hc
    refine rc_iload_n mq172 (mvDec_of cd172 rfl) rfl ?_
    exact rc_iret mq172 (mvDec_of cd172 rfl) ⟨_, _, rfl, rfl, H⟩
  · replace H := H.2 hc
    refine rc_iconst mq172 (mvDec_of cd172 rfl) (by decide) ?_
    refine rc_istore_n [some (mvR 68), some (mvI l1), some (mvI l2), some (mvI 0), some (mvI l4)] mq172 (mvDec_of cd172 rfl) rfl ?_
    exact H
theorem MD_aroundNow_15_wp {sw : Bool} {g : Nat → Nat → Nat} {h : Nat → Int → Int} {l1 : Int} {l2 : Int} {l3 : Int} {l4 : Int} {K : Int → (Nat → Int → Int) → Prop} (hG : Gok sw g)  (H :
  MD_canGoOn g h l2 l3 (fun r2 h1 =>
    ((r2 = 0 →
      MD_aroundNow_15 g h1 l1 l2 (mw (l3 + 1)) l4 K) ∧
    (¬ r2 = 0 →
      MD_stride g h1 l3 (fun r4 h3 =>
        (0 ≤ (mw (l2 + r4)) ∧ (mw (l2 + r4)) < 640) ∧
        ((¬ (h3 86 (mw (l2 + r4))) = 0 →
          MD_stride g h3 l3 (fun r6 h5 =>
            (∀ v7, v7 = (mw (l2 + r6)) →
            MD_aroundNow_7 g h5 l1 v7 l3 (mw (l4 + 1)) K))) ∧
        ((h3 86 (mw (l2 + r4))) = 0 →
          MD_aroundNow_15 g h3 l1 l2 (mw (l3 + 1)) l4 K))))))) : MD_aroundNow_15 g h l1 l2 l3 l4 K := by
  refine rc_aload_n mq172 (mvDec_of cd172 rfl) rfl ?_
  refine rc_iload_n mq172 (mvDec_of cd172 rfl) rfl ?_
  refine rc_iload_n mq172 (mvDec_of cd172 rfl) rfl ?_
  refine rc_callV [mvR 68, mvI l2, mvI l3] [] [some (mvR 68), some (mvI l2), some (mvI l3)] mq172 (mvDec_of cd172 rfl) lk_10_243 mq124 (by decide) rfl rfl (Nat.le_of_ble_eq_true rfl) (Nat.le_of_ble_eq_true rfl) (by decide) rfl mis68 rfl (ri_bind H (fun r2 h1 H => ?_))
  refine rc_if_eq (t := 39) mq172 (mvDec_of cd172 rfl) rfl (fun hc => ?_) (fun hc => ?_)
  · replace H := H.1 hc
    refine rc_iinc [some (mvR 68), some (mvI l1), some (mvI l2), some (mvI (mw (l3 + 1))), some (mvI l4)] mq172 (mvDec_of cd172 rfl) rfl rfl ?_
    refine rc_goto (t := 15) mq172 (mvDec_of cd172 rfl) rfl ?_
    exact H
  · replace H := H.2 hc
    refine rc_aload_n mq172 (mvDec_of cd172 rfl) rfl ?_
    refine rc_getR 86 mq172 (mvDec_of cd172 rfl) fl_10_62 mis68 rfl (gr_68_31 hG) (by decide) ?_
    refine rc_iload_n mq172 (mvDec_of cd172 rfl) rfl ?_
    refine rc_aload_n mq172 (mvDec_of cd172 rfl) rfl ?_
    refine rc_iload_n mq172 (mvDec_of cd172 rfl) rfl ?_
    refine rc_callV [mvR 68, mvI l3] [mvI l2, mvR 86] [some (mvR 68), some (mvI l3), none, none] mq172 (mvDec_of cd172 rfl) lk_10_246 mq51 (by decide) rfl rfl (Nat.le_of_ble_eq_true rfl) (Nat.le_of_ble_eq_true rfl) (by decide) rfl mis68 rfl (ri_bind H (fun r4 h3 H => ?_))
    refine rc_iadd mq172 (mvDec_of cd172 rfl) ?_
    obtain ⟨⟨hb0, hb1⟩, H⟩ := H
    refine rc_bald mq172 (mvDec_of cd172 rfl) mis86 hb0 hb1 ?_
    refine rc_if_ne (t := 45) mq172 (mvDec_of cd172 rfl) rfl (fun hc => ?_) (fun hc => ?_)
    · replace H := H.1 hc
      refine rc_iload_n mq172 (mvDec_of cd172 rfl) rfl ?_
      refine rc_aload_n mq172 (mvDec_of cd172 rfl) rfl ?_
      refine rc_iload_n mq172 (mvDec_of cd172 rfl) rfl ?_
      refine rc_callV [mvR 68, mvI l3] [mvI l2] [some (mvR 68), some (mvI l3), none, none] mq172 (mvDec_of cd172 rfl) lk_10_246 mq51 (by decide) rfl rfl (Nat.le_of_ble_eq_true rfl) (Nat.le_of_ble_eq_true rfl) (by decide) rfl mis68 rfl (ri_bind H (fun r6 h5 H => ?_))
      refine rc_iadd mq172 (mvDec_of cd172 rfl) ?_
      refine rc_top (fun v7 hv => ?_)
      replace H := H v7 hv
      refine rc_istore_n [some (mvR 68), some (mvI l1), some (mvI v7), some (mvI l3), some (mvI l4)] mq172 (mvDec_of cd172 rfl) rfl ?_
      refine rc_iinc [some (mvR 68), some (mvI l1), some (mvI v7), some (mvI l3), some (mvI (mw (l4 + 1)))] mq172 (mvDec_of cd172 rfl) rfl rfl ?_
      refine rc_goto (t := 7) mq172 (mvDec_of cd172 rfl) rfl ?_
      exact H
    · replace H := H.2 hc
      refine rc_iinc [some (mvR 68), some (mvI l1), some (mvI l2), some (mvI (mw (l3 + 1))), some (mvI l4)] mq172 (mvDec_of cd172 rfl) rfl rfl ?_
      refine rc_goto (t := 15) mq172 (mvDec_of cd172 rfl) rfl ?_
      exact H
abbrev MD_beginOf (g : Nat → Nat → Nat) (h : Nat → Int → Int) (x1 : Int) (x2 : Int) (K : Int → (Nat → Int → Int) → Prop) : Prop := RI 173 0 [some (mvR 68), some (mvI x1), some (mvI x2), none, none, none] [] g h K
abbrev MD_beginOf_5 (g : Nat → Nat → Nat) (h : Nat → Int → Int) (l1 : Int) (l2 : Int) (l3 : Int) (l4 : Int) (u5 : Option Int) (K : Int → (Nat → Int → Int) → Prop) : Prop := RI 173 5 [some (mvR 68), some (mvI l1), some (mvI l2), some (mvI l3), some (mvI l4), u5.map mvI] [] g h K
abbrev MD_beginOf_54 (g : Nat → Nat → Nat) (h : Nat → Int → Int) (l1 : Int) (l2 : Int) (l3 : Int) (l4 : Int) (l5 : Int) (K : Int → (Nat → Int → Int) → Prop) : Prop := RI 173 54 [some (mvR 68), some (mvI l1), some (mvI l2), some (mvI l3), some (mvI l4), some (mvI l5)] [] g h K
theorem MD_beginOf_wp {sw : Bool} {g : Nat → Nat → Nat} {h : Nat → Int → Int} {x1 : Int} {x2 : Int} {K : Int → (Nat → Int → Int) → Prop} (hG : Gok sw g)  (H :
  MD_beginOf_5 g h x1 x2 x2 0 none K) : MD_beginOf g h x1 x2 K := by
  refine rc_iload_n mq173 (mvDec_of cd173 rfl) rfl ?_
  refine rc_istore_n [some (mvR 68), some (mvI x1), some (mvI x2), some (mvI x2), none, none] mq173 (mvDec_of cd173 rfl) rfl ?_
  refine rc_iconst mq173 (mvDec_of cd173 rfl) (by decide) ?_
  refine rc_istore [some (mvR 68), some (mvI x1), some (mvI x2), some (mvI x2), some (mvI 0), none] mq173 (mvDec_of cd173 rfl) rfl ?_
  exact H
theorem MD_beginOf_5_wp {sw : Bool} {g : Nat → Nat → Nat} {h : Nat → Int → Int} {l1 : Int} {l2 : Int} {l3 : Int} {l4 : Int} {u5 : Option Int} {K : Int → (Nat → Int → Int) → Prop} (hG : Gok sw g)  (H :
  (0 ≤ l1 ∧ l1 < 4) ∧
  (((h 69 l1) < l4 →
    K (-1) h) ∧
  (l4 ≤ (h 69 l1) →
    ((l2 < 0 →
      K (-1) h) ∧
    (0 ≤ l2 →
      MD_isAllowed g h l1 l4 (fun r2 h1 =>
        ((r2 = 0 →
          MD_beginOf_54 g h1 l1 l2 l3 l4 0 K) ∧
        (¬ r2 = 0 →
          ((l4 = 0 →
            MD_beginOf_54 g h1 l1 l2 l3 l4 1 K) ∧
          (¬ l4 = 0 →
            MD_isAllowed g h1 l1 (mw (l4 - 1)) (fun r4 h3 =>
              ((¬ r4 = 0 →
                MD_beginOf_54 g h3 l1 l2 l3 l4 0 K) ∧
              (r4 = 0 →
                MD_beginOf_54 g h3 l1 l2 l3 l4 1 K))))))))))))) : MD_beginOf_5 g h l1 l2 l3 l4 u5 K := by
  refine rc_iload mq173 (mvDec_of cd173 rfl) rfl ?_
  refine rc_aload_n mq173 (mvDec_of cd173 rfl) rfl ?_
  refine rc_getR 69 mq173 (mvDec_of cd173 rfl) fl_10_7 mis68 rfl (gr_68_1 hG) (by decide) ?_
  refine rc_iload_n mq173 (mvDec_of cd173 rfl) rfl ?_
  obtain ⟨⟨hb0, hb1⟩, H⟩ := H
  refine rc_iald mq173 (mvDec_of cd173 rfl) mis69 hb0 hb1 ?_
  refine rc_icmp_gt (t := 85) mq173 (mvDec_of cd173 rfl) rfl (fun hc => ?_) (fun hc => ?_)
  · replace H := H.1 hc
    refine rc_iconst mq173 (mvDec_of cd173 rfl) (by decide) ?_
    exact rc_iret mq173 (mvDec_of cd173 rfl) ⟨_, _, rfl, rfl, H⟩
  · replace H := H.2 hc
    refine rc_iload_n mq173 (mvDec_of cd173 rfl) rfl ?_
    refine rc_if_lt (t := 85) mq173 (mvDec_of cd173 rfl) rfl (fun hc => ?_) (fun hc => ?_)
    · replace H := H.1 hc
      refine rc_iconst mq173 (mvDec_of cd173 rfl) (by decide) ?_
      exact rc_iret mq173 (mvDec_of cd173 rfl) ⟨_, _, rfl, rfl, H⟩
    · replace H := H.2 hc
      refine rc_aload_n mq173 (mvDec_of cd173 rfl) rfl ?_
      refine rc_iload_n mq173 (mvDec_of cd173 rfl) rfl ?_
      refine rc_iload mq173 (mvDec_of cd173 rfl) rfl ?_
      refine rc_callV [mvR 68, mvI l1, mvI l4] [] [some (mvR 68), some (mvI l1), some (mvI l4)] mq173 (mvDec_of cd173 rfl) lk_10_210 mq121 (by decide) rfl rfl (Nat.le_of_ble_eq_true rfl) (Nat.le_of_ble_eq_true rfl) (by decide) rfl mis68 rfl (ri_bind H (fun r2 h1 H => ?_))
      refine rc_if_eq (t := 51) mq173 (mvDec_of cd173 rfl) rfl (fun hc => ?_) (fun hc => ?_)
      · replace H := H.1 hc
        refine rc_iconst mq173 (mvDec_of cd173 rfl) (by decide) ?_
        refine rc_istore [some (mvR 68), some (mvI l1), some (mvI l2), some (mvI l3), some (mvI l4), some (mvI 0)] mq173 (mvDec_of cd173 rfl) rfl ?_
        exact H
      · replace H := H.2 hc
        refine rc_iload mq173 (mvDec_of cd173 rfl) rfl ?_
        refine rc_if_eq (t := 47) mq173 (mvDec_of cd173 rfl) rfl (fun hc => ?_) (fun hc => ?_)
        · replace H := H.1 hc
          refine rc_iconst mq173 (mvDec_of cd173 rfl) (by decide) ?_
          refine rc_goto (t := 52) mq173 (mvDec_of cd173 rfl) rfl ?_
          refine rc_istore [some (mvR 68), some (mvI l1), some (mvI l2), some (mvI l3), some (mvI l4), some (mvI 1)] mq173 (mvDec_of cd173 rfl) rfl ?_
          exact H
        · replace H := H.2 hc
          refine rc_aload_n mq173 (mvDec_of cd173 rfl) rfl ?_
          refine rc_iload_n mq173 (mvDec_of cd173 rfl) rfl ?_
          refine rc_iload mq173 (mvDec_of cd173 rfl) rfl ?_
          refine rc_iconst mq173 (mvDec_of cd173 rfl) (by decide) ?_
          refine rc_isub mq173 (mvDec_of cd173 rfl) ?_
          refine rc_callV [mvR 68, mvI l1, mvI (mw (l4 - 1))] [] [some (mvR 68), some (mvI l1), some (mvI (mw (l4 - 1)))] mq173 (mvDec_of cd173 rfl) lk_10_210 mq121 (by decide) rfl rfl (Nat.le_of_ble_eq_true rfl) (Nat.le_of_ble_eq_true rfl) (by decide) rfl mis68 rfl (ri_bind H (fun r4 h3 H => ?_))
          refine rc_if_ne (t := 51) mq173 (mvDec_of cd173 rfl) rfl (fun hc => ?_) (fun hc => ?_)
          · replace H := H.1 hc
            refine rc_iconst mq173 (mvDec_of cd173 rfl) (by decide) ?_
            refine rc_istore [some (mvR 68), some (mvI l1), some (mvI l2), some (mvI l3), some (mvI l4), some (mvI 0)] mq173 (mvDec_of cd173 rfl) rfl ?_
            exact H
          · replace H := H.2 hc
            refine rc_iconst mq173 (mvDec_of cd173 rfl) (by decide) ?_
            refine rc_goto (t := 52) mq173 (mvDec_of cd173 rfl) rfl ?_
            refine rc_istore [some (mvR 68), some (mvI l1), some (mvI l2), some (mvI l3), some (mvI l4), some (mvI 1)] mq173 (mvDec_of cd173 rfl) rfl ?_
            exact H
theorem MD_beginOf_54_wp {sw : Bool} {g : Nat → Nat → Nat} {h : Nat → Int → Int} {l1 : Int} {l2 : Int} {l3 : Int} {l4 : Int} {l5 : Int} {K : Int → (Nat → Int → Int) → Prop} (hG : Gok sw g)  (H :
  ((l5 = 0 →
    ((l5 = 0 →
      (∀ v1, v1 = (mw (l3 - 0)) →
      MD_beginOf_5 g h l1 l2 v1 (mw (l4 + 1)) (some l5) K)) ∧
    (¬ l5 = 0 →
      (∀ v2, v2 = (mw (l3 - 1)) →
      MD_beginOf_5 g h l1 l2 v2 (mw (l4 + 1)) (some l5) K)))) ∧
  (¬ l5 = 0 →
    ((¬ l3 = 0 →
      ((l5 = 0 →
        (∀ v3, v3 = (mw (l3 - 0)) →
        MD_beginOf_5 g h l1 l2 v3 (mw (l4 + 1)) (some l5) K)) ∧
      (¬ l5 = 0 →
        (∀ v4, v4 = (mw (l3 - 1)) →
        MD_beginOf_5 g h l1 l2 v4 (mw (l4 + 1)) (some l5) K)))) ∧
    (l3 = 0 →
      K l4 h))))) : MD_beginOf_54 g h l1 l2 l3 l4 l5 K := by
  refine rc_iload mq173 (mvDec_of cd173 rfl) rfl ?_
  refine rc_if_eq (t := 66) mq173 (mvDec_of cd173 rfl) rfl (fun hc => ?_) (fun hc => ?_)
  · replace H := H.1 hc
    refine rc_iload_n mq173 (mvDec_of cd173 rfl) rfl ?_
    refine rc_iload mq173 (mvDec_of cd173 rfl) rfl ?_
    refine rc_if_eq (t := 76) mq173 (mvDec_of cd173 rfl) rfl (fun hc => ?_) (fun hc => ?_)
    · replace H := H.1 hc
      refine rc_iconst mq173 (mvDec_of cd173 rfl) (by decide) ?_
      refine rc_isub mq173 (mvDec_of cd173 rfl) ?_
      refine rc_top (fun v1 hv => ?_)
      replace H := H v1 hv
      refine rc_istore_n [some (mvR 68), some (mvI l1), some (mvI l2), some (mvI v1), some (mvI l4), some (mvI l5)] mq173 (mvDec_of cd173 rfl) rfl ?_
      refine rc_iinc [some (mvR 68), some (mvI l1), some (mvI l2), some (mvI v1), some (mvI (mw (l4 + 1))), some (mvI l5)] mq173 (mvDec_of cd173 rfl) rfl rfl ?_
      refine rc_goto (t := 5) mq173 (mvDec_of cd173 rfl) rfl ?_
      exact H
    · replace H := H.2 hc
      refine rc_iconst mq173 (mvDec_of cd173 rfl) (by decide) ?_
      refine rc_goto (t := 77) mq173 (mvDec_of cd173 rfl) rfl ?_
      refine rc_isub mq173 (mvDec_of cd173 rfl) ?_
      refine rc_top (fun v2 hv => ?_)
      replace H := H v2 hv
      refine rc_istore_n [some (mvR 68), some (mvI l1), some (mvI l2), some (mvI v2), some (mvI l4), some (mvI l5)] mq173 (mvDec_of cd173 rfl) rfl ?_
      refine rc_iinc [some (mvR 68), some (mvI l1), some (mvI l2), some (mvI v2), some (mvI (mw (l4 + 1))), some (mvI l5)] mq173 (mvDec_of cd173 rfl) rfl rfl ?_
      refine rc_goto (t := 5) mq173 (mvDec_of cd173 rfl) rfl ?_
      exact H
  · replace H := H.2 hc
    refine rc_iload_n mq173 (mvDec_of cd173 rfl) rfl ?_
    refine rc_if_ne (t := 66) mq173 (mvDec_of cd173 rfl) rfl (fun hc => ?_) (fun hc => ?_)
    · replace H := H.1 hc
      refine rc_iload_n mq173 (mvDec_of cd173 rfl) rfl ?_
      refine rc_iload mq173 (mvDec_of cd173 rfl) rfl ?_
      refine rc_if_eq (t := 76) mq173 (mvDec_of cd173 rfl) rfl (fun hc => ?_) (fun hc => ?_)
      · replace H := H.1 hc
        refine rc_iconst mq173 (mvDec_of cd173 rfl) (by decide) ?_
        refine rc_isub mq173 (mvDec_of cd173 rfl) ?_
        refine rc_top (fun v3 hv => ?_)
        replace H := H v3 hv
        refine rc_istore_n [some (mvR 68), some (mvI l1), some (mvI l2), some (mvI v3), some (mvI l4), some (mvI l5)] mq173 (mvDec_of cd173 rfl) rfl ?_
        refine rc_iinc [some (mvR 68), some (mvI l1), some (mvI l2), some (mvI v3), some (mvI (mw (l4 + 1))), some (mvI l5)] mq173 (mvDec_of cd173 rfl) rfl rfl ?_
        refine rc_goto (t := 5) mq173 (mvDec_of cd173 rfl) rfl ?_
        exact H
      · replace H := H.2 hc
        refine rc_iconst mq173 (mvDec_of cd173 rfl) (by decide) ?_
        refine rc_goto (t := 77) mq173 (mvDec_of cd173 rfl) rfl ?_
        refine rc_isub mq173 (mvDec_of cd173 rfl) ?_
        refine rc_top (fun v4 hv => ?_)
        replace H := H v4 hv
        refine rc_istore_n [some (mvR 68), some (mvI l1), some (mvI l2), some (mvI v4), some (mvI l4), some (mvI l5)] mq173 (mvDec_of cd173 rfl) rfl ?_
        refine rc_iinc [some (mvR 68), some (mvI l1), some (mvI l2), some (mvI v4), some (mvI (mw (l4 + 1))), some (mvI l5)] mq173 (mvDec_of cd173 rfl) rfl rfl ?_
        refine rc_goto (t := 5) mq173 (mvDec_of cd173 rfl) rfl ?_
        exact H
    · replace H := H.2 hc
      refine rc_iload mq173 (mvDec_of cd173 rfl) rfl ?_
      exact rc_iret mq173 (mvDec_of cd173 rfl) ⟨_, _, rfl, rfl, H⟩
abbrev MD_endOf (g : Nat → Nat → Nat) (h : Nat → Int → Int) (x1 : Int) (x2 : Int) (K : Int → (Nat → Int → Int) → Prop) : Prop := RI 174 0 [some (mvR 68), some (mvI x1), some (mvI x2), none] [] g h K
abbrev MD_endOf_2 (g : Nat → Nat → Nat) (h : Nat → Int → Int) (l1 : Int) (u2 : Option Int) (l3 : Int) (K : Int → (Nat → Int → Int) → Prop) : Prop := RI 174 2 [some (mvR 68), some (mvI l1), u2.map mvI, some (mvI l3)] [] g h K
theorem MD_endOf_wp {sw : Bool} {g : Nat → Nat → Nat} {h : Nat → Int → Int} {x1 : Int} {x2 : Int} {K : Int → (Nat → Int → Int) → Prop} (hG : Gok sw g)  (H :
  MD_endOf_2 g h x1 (some x2) x2 K) : MD_endOf g h x1 x2 K := by
  refine rc_iload_n mq174 (mvDec_of cd174 rfl) rfl ?_
  refine rc_istore_n [some (mvR 68), some (mvI x1), some (mvI x2), some (mvI x2)] mq174 (mvDec_of cd174 rfl) rfl ?_
  exact H
theorem MD_endOf_2_wp {sw : Bool} {g : Nat → Nat → Nat} {h : Nat → Int → Int} {l1 : Int} {u2 : Option Int} {l3 : Int} {K : Int → (Nat → Int → Int) → Prop} (hG : Gok sw g)  (H :
  (0 ≤ l1 ∧ l1 < 4) ∧
  (((h 69 l1) ≤ l3 →
    K l3 h) ∧
  (l3 < (h 69 l1) →
    MD_isAllowed g h l1 (mw (l3 + 1)) (fun r2 h1 =>
      ((r2 = 0 →
        K l3 h1) ∧
      (¬ r2 = 0 →
        MD_endOf_2 g h1 l1 u2 (mw (l3 + 1)) K)))))) : MD_endOf_2 g h l1 u2 l3 K := by
  refine rc_iload_n mq174 (mvDec_of cd174 rfl) rfl ?_
  refine rc_aload_n mq174 (mvDec_of cd174 rfl) rfl ?_
  refine rc_getR 69 mq174 (mvDec_of cd174 rfl) fl_10_7 mis68 rfl (gr_68_1 hG) (by decide) ?_
  refine rc_iload_n mq174 (mvDec_of cd174 rfl) rfl ?_
  obtain ⟨⟨hb0, hb1⟩, H⟩ := H
  refine rc_iald mq174 (mvDec_of cd174 rfl) mis69 hb0 hb1 ?_
  refine rc_icmp_ge (t := 29) mq174 (mvDec_of cd174 rfl) rfl (fun hc => ?_) (fun hc => ?_)
  · replace H := H.1 hc
    refine rc_iload_n mq174 (mvDec_of cd174 rfl) rfl ?_
    exact rc_iret mq174 (mvDec_of cd174 rfl) ⟨_, _, rfl, rfl, H⟩
  · replace H := H.2 hc
    refine rc_aload_n mq174 (mvDec_of cd174 rfl) rfl ?_
    refine rc_iload_n mq174 (mvDec_of cd174 rfl) rfl ?_
    refine rc_iload_n mq174 (mvDec_of cd174 rfl) rfl ?_
    refine rc_iconst mq174 (mvDec_of cd174 rfl) (by decide) ?_
    refine rc_iadd mq174 (mvDec_of cd174 rfl) ?_
    refine rc_callV [mvR 68, mvI l1, mvI (mw (l3 + 1))] [] [some (mvR 68), some (mvI l1), some (mvI (mw (l3 + 1)))] mq174 (mvDec_of cd174 rfl) lk_10_210 mq121 (by decide) rfl rfl (Nat.le_of_ble_eq_true rfl) (Nat.le_of_ble_eq_true rfl) (by decide) rfl mis68 rfl (ri_bind H (fun r2 h1 H => ?_))
    refine rc_if_eq (t := 29) mq174 (mvDec_of cd174 rfl) rfl (fun hc => ?_) (fun hc => ?_)
    · replace H := H.1 hc
      refine rc_iload_n mq174 (mvDec_of cd174 rfl) rfl ?_
      exact rc_iret mq174 (mvDec_of cd174 rfl) ⟨_, _, rfl, rfl, H⟩
    · replace H := H.2 hc
      refine rc_iinc [some (mvR 68), some (mvI l1), u2.map mvI, some (mvI (mw (l3 + 1)))] mq174 (mvDec_of cd174 rfl) rfl (by cases u2 <;> rfl) ?_
      refine rc_goto (t := 2) mq174 (mvDec_of cd174 rfl) rfl ?_
      exact H
abbrev MD_play (g : Nat → Nat → Nat) (h : Nat → Int → Int) (x1 : Int) (K : Int → (Nat → Int → Int) → Prop) : Prop := RI 175 0 [some (mvR 68), some (mvI x1), none, none] [] g h K
abbrev MD_play_35 (g : Nat → Nat → Nat) (h : Nat → Int → Int) (l1 : Int) (l2 : Int) (l3 : Int) (K : Int → (Nat → Int → Int) → Prop) : Prop := RI 175 35 [some (mvR 68), some (mvI l1), some (mvI l2), some (mvI l3)] [] g h K
theorem MD_play_wp {sw : Bool} {g : Nat → Nat → Nat} {h : Nat → Int → Int} {x1 : Int} {K : Int → (Nat → Int → Int) → Prop} (hG : Gok sw g)  (H :
  (((h 68 0) ≤ 0 →
    K (-103) h) ∧
  (0 < (h 68 0) →
    ((0 ≤ x1 →
      (∀ h1, h1 = mvUpd h 68 40 x1 →
      MD_take g h1 0 (fun h2 =>
        MD_eventsAll g h2 (fun r4 h3 =>
          MD_play_35 g h3 x1 r4 0 K)))) ∧
    (x1 < 0 →
      K (-102) h))))) : MD_play g h x1 K := by
  refine rc_aload_n mq175 (mvDec_of cd175 rfl) rfl ?_
  refine rc_callV [mvR 68] [] [some (mvR 68)] mq175 (mvDec_of cd175 rfl) lk_10_262 mq43 (by decide) rfl rfl (Nat.le_of_ble_eq_true rfl) (Nat.le_of_ble_eq_true rfl) (by decide) rfl mis68 rfl ?_
  refine rc_aload_n mq43 (mvDec_of cd43 rfl) rfl ?_
  refine rc_getI 0 mq43 (mvDec_of cd43 rfl) fl_10_138 mis68 rfl (by decide) (by decide) ?_
  refine rc_if_le (t := 11) mq43 (mvDec_of cd43 rfl) rfl (fun hc => ?_) (fun hc => ?_)
  · replace H := H.1 hc
    refine rc_iconst mq43 (mvDec_of cd43 rfl) (by decide) ?_
    refine rc_zret mq43 (mvDec_of cd43 rfl) (Or.inl rfl) ?_
    show Rch 175 4 [some (mvR 68), some (mvI x1), none, none] [mvI 0] (97, g, h) _
    refine rc_ifF (t := 10) mq175 (mvDec_of cd175 rfl) rfl rfl ?_
    refine rc_bipush mq175 (mvDec_of cd175 rfl) (by decide) ?_
    exact rc_iret mq175 (mvDec_of cd175 rfl) ⟨_, _, rfl, rfl, H⟩
  · replace H := H.2 hc
    refine rc_iconst mq43 (mvDec_of cd43 rfl) (by decide) ?_
    refine rc_goto (t := 12) mq43 (mvDec_of cd43 rfl) rfl ?_
    refine rc_zret mq43 (mvDec_of cd43 rfl) (Or.inr rfl) ?_
    show Rch 175 4 [some (mvR 68), some (mvI x1), none, none] [mvI 1] (97, g, h) _
    refine rc_ifT (t := 10) mq175 (mvDec_of cd175 rfl) rfl rfl ?_
    refine rc_iload_n mq175 (mvDec_of cd175 rfl) rfl ?_
    refine rc_if_ge (t := 17) mq175 (mvDec_of cd175 rfl) rfl (fun hc => ?_) (fun hc => ?_)
    · replace H := H.1 hc
      refine rc_aload_n mq175 (mvDec_of cd175 rfl) rfl ?_
      refine rc_iload_n mq175 (mvDec_of cd175 rfl) rfl ?_
      refine rc_i2l mq175 (mvDec_of cd175 rfl) ?_
      refine rc_putJ 40 mq175 (mvDec_of cd175 rfl) fl_10_343 mis68 rfl (fun z => absurd z (by decide)) rfl ?_
      refine rc_heap (fun h1 hh => ?_)
      replace H := H h1 hh
      refine rc_aload_n mq175 (mvDec_of cd175 rfl) rfl ?_
      refine rc_iconst mq175 (mvDec_of cd175 rfl) (by decide) ?_
      refine rc_callV [mvR 68, mvI 0] [] [some (mvR 68), some (mvI 0), none, none] mq175 (mvDec_of cd175 rfl) lk_10_196 mq50 (by decide) rfl rfl (Nat.le_of_ble_eq_true rfl) (Nat.le_of_ble_eq_true rfl) (by decide) rfl mis68 rfl (rv_bind H (fun h2 H => ?_))
      refine rc_aload_n mq175 (mvDec_of cd175 rfl) rfl ?_
      refine rc_callV [mvR 68] [] [some (mvR 68), none, none] mq175 (mvDec_of cd175 rfl) lk_10_173 mq46 (by decide) rfl rfl (Nat.le_of_ble_eq_true rfl) (Nat.le_of_ble_eq_true rfl) (by decide) rfl mis68 rfl (ri_bind H (fun r4 h3 H => ?_))
      refine rc_istore_n [some (mvR 68), some (mvI x1), some (mvI r4), none] mq175 (mvDec_of cd175 rfl) rfl ?_
      refine rc_iconst mq175 (mvDec_of cd175 rfl) (by decide) ?_
      refine rc_istore_n [some (mvR 68), some (mvI x1), some (mvI r4), some (mvI 0)] mq175 (mvDec_of cd175 rfl) rfl ?_
      exact H
    · replace H := H.2 hc
      refine rc_bipush mq175 (mvDec_of cd175 rfl) (by decide) ?_
      exact rc_iret mq175 (mvDec_of cd175 rfl) ⟨_, _, rfl, rfl, H⟩
theorem MD_play_35_wp {sw : Bool} {g : Nat → Nat → Nat} {h : Nat → Int → Int} {l1 : Int} {l2 : Int} {l3 : Int} {K : Int → (Nat → Int → Int) → Prop} (hG : Gok sw g)  (H :
  ((l2 ≤ l3 →
    (∀ h1, h1 = mvUpd h 68 10 1 →
    (∀ h2, h2 = mvUpd h1 68 12 0 →
    K l2 h2))) ∧
  (l3 < l2 →
    ((l1 ≤ 0 →
      MD_comesNext g h 0 (fun r4 h3 =>
        (0 ≤ l3 ∧ l3 < 16) ∧
        (∀ h5, h5 = mvUpd h3 75 l3 r4 →
        (0 ≤ l3 ∧ l3 < 16) ∧
        (0 ≤ (h5 75 l3) ∧ (h5 75 l3) < 4) ∧
        (0 ≤ (h5 75 l3) ∧ (h5 75 l3) < 4) ∧
        (∀ h6, h6 = mvUpd h5 81 (h5 75 l3) (mw ((h5 81 (h5 75 l3)) + 1)) →
        MD_play_35 g h6 l1 l2 (mw (l3 + 1)) K)))) ∧
    (0 < l1 →
      MD_comesNext g h 1 (fun r8 h7 =>
        (0 ≤ l3 ∧ l3 < 16) ∧
        (∀ h9, h9 = mvUpd h7 75 l3 r8 →
        (0 ≤ l3 ∧ l3 < 16) ∧
        (0 ≤ (h9 75 l3) ∧ (h9 75 l3) < 4) ∧
        (0 ≤ (h9 75 l3) ∧ (h9 75 l3) < 4) ∧
        (∀ h10, h10 = mvUpd h9 81 (h9 75 l3) (mw ((h9 81 (h9 75 l3)) + 1)) →
        MD_play_35 g h10 l1 l2 (mw (l3 + 1)) K)))))))) : MD_play_35 g h l1 l2 l3 K := by
  refine rc_iload_n mq175 (mvDec_of cd175 rfl) rfl ?_
  refine rc_iload_n mq175 (mvDec_of cd175 rfl) rfl ?_
  refine rc_icmp_ge (t := 80) mq175 (mvDec_of cd175 rfl) rfl (fun hc => ?_) (fun hc => ?_)
  · replace H := H.1 hc
    refine rc_aload_n mq175 (mvDec_of cd175 rfl) rfl ?_
    refine rc_iconst mq175 (mvDec_of cd175 rfl) (by decide) ?_
    refine rc_putI 10 mq175 (mvDec_of cd175 rfl) fl_10_147 mis68 rfl (fun z => absurd z (by decide)) (Or.inr ⟨rfl, Or.inr rfl⟩) ?_
    refine rc_heap (fun h1 hh => ?_)
    replace H := H h1 hh
    refine rc_aload_n mq175 (mvDec_of cd175 rfl) rfl ?_
    refine rc_iconst mq175 (mvDec_of cd175 rfl) (by decide) ?_
    refine rc_putI 12 mq175 (mvDec_of cd175 rfl) fl_10_151 mis68 rfl (fun z => absurd z (by decide)) (Or.inr ⟨rfl, Or.inl rfl⟩) ?_
    refine rc_heap (fun h2 hh => ?_)
    replace H := H h2 hh
    refine rc_iload_n mq175 (mvDec_of cd175 rfl) rfl ?_
    exact rc_iret mq175 (mvDec_of cd175 rfl) ⟨_, _, rfl, rfl, H⟩
  · replace H := H.2 hc
    refine rc_aload_n mq175 (mvDec_of cd175 rfl) rfl ?_
    refine rc_getR 75 mq175 (mvDec_of cd175 rfl) fl_10_28 mis68 rfl (gr_68_11 hG) (by decide) ?_
    refine rc_iload_n mq175 (mvDec_of cd175 rfl) rfl ?_
    refine rc_aload_n mq175 (mvDec_of cd175 rfl) rfl ?_
    refine rc_iload_n mq175 (mvDec_of cd175 rfl) rfl ?_
    refine rc_if_le (t := 54) mq175 (mvDec_of cd175 rfl) rfl (fun hc => ?_) (fun hc => ?_)
    · replace H := H.1 hc
      refine rc_iconst mq175 (mvDec_of cd175 rfl) (by decide) ?_
      refine rc_callV [mvR 68, mvI 0] [mvI l3, mvR 75] [some (mvR 68), some (mvI 0), none, none, none] mq175 (mvDec_of cd175 rfl) lk_10_359 mq133 (by decide) rfl rfl (Nat.le_of_ble_eq_true rfl) (Nat.le_of_ble_eq_true rfl) (by decide) rfl mis68 rfl (ri_bind H (fun r4 h3 H => ?_))
      obtain ⟨⟨hb0, hb1⟩, H⟩ := H
      refine rc_iast mq175 (mvDec_of cd175 rfl) mis75 hb0 hb1 ?_
      refine rc_heap (fun h5 hh => ?_)
      replace H := H h5 hh
      refine rc_aload_n mq175 (mvDec_of cd175 rfl) rfl ?_
      refine rc_getR 81 mq175 (mvDec_of cd175 rfl) fl_10_46 mis68 rfl (gr_68_26 hG) (by decide) ?_
      refine rc_aload_n mq175 (mvDec_of cd175 rfl) rfl ?_
      refine rc_getR 75 mq175 (mvDec_of cd175 rfl) fl_10_28 mis68 rfl (gr_68_11 hG) (by decide) ?_
      refine rc_iload_n mq175 (mvDec_of cd175 rfl) rfl ?_
      obtain ⟨⟨hb0, hb1⟩, H⟩ := H
      refine rc_iald mq175 (mvDec_of cd175 rfl) mis75 hb0 hb1 ?_
      refine rc_dup2 mq175 (mvDec_of cd175 rfl) rfl rfl ?_
      obtain ⟨⟨hb0, hb1⟩, H⟩ := H
      refine rc_iald mq175 (mvDec_of cd175 rfl) mis81 hb0 hb1 ?_
      refine rc_iconst mq175 (mvDec_of cd175 rfl) (by decide) ?_
      refine rc_iadd mq175 (mvDec_of cd175 rfl) ?_
      obtain ⟨⟨hb0, hb1⟩, H⟩ := H
      refine rc_iast mq175 (mvDec_of cd175 rfl) mis81 hb0 hb1 ?_
      refine rc_heap (fun h6 hh => ?_)
      replace H := H h6 hh
      refine rc_iinc [some (mvR 68), some (mvI l1), some (mvI l2), some (mvI (mw (l3 + 1)))] mq175 (mvDec_of cd175 rfl) rfl rfl ?_
      refine rc_goto (t := 35) mq175 (mvDec_of cd175 rfl) rfl ?_
      exact H
    · replace H := H.2 hc
      refine rc_iconst mq175 (mvDec_of cd175 rfl) (by decide) ?_
      refine rc_goto (t := 55) mq175 (mvDec_of cd175 rfl) rfl ?_
      refine rc_callV [mvR 68, mvI 1] [mvI l3, mvR 75] [some (mvR 68), some (mvI 1), none, none, none] mq175 (mvDec_of cd175 rfl) lk_10_359 mq133 (by decide) rfl rfl (Nat.le_of_ble_eq_true rfl) (Nat.le_of_ble_eq_true rfl) (by decide) rfl mis68 rfl (ri_bind H (fun r8 h7 H => ?_))
      obtain ⟨⟨hb0, hb1⟩, H⟩ := H
      refine rc_iast mq175 (mvDec_of cd175 rfl) mis75 hb0 hb1 ?_
      refine rc_heap (fun h9 hh => ?_)
      replace H := H h9 hh
      refine rc_aload_n mq175 (mvDec_of cd175 rfl) rfl ?_
      refine rc_getR 81 mq175 (mvDec_of cd175 rfl) fl_10_46 mis68 rfl (gr_68_26 hG) (by decide) ?_
      refine rc_aload_n mq175 (mvDec_of cd175 rfl) rfl ?_
      refine rc_getR 75 mq175 (mvDec_of cd175 rfl) fl_10_28 mis68 rfl (gr_68_11 hG) (by decide) ?_
      refine rc_iload_n mq175 (mvDec_of cd175 rfl) rfl ?_
      obtain ⟨⟨hb0, hb1⟩, H⟩ := H
      refine rc_iald mq175 (mvDec_of cd175 rfl) mis75 hb0 hb1 ?_
      refine rc_dup2 mq175 (mvDec_of cd175 rfl) rfl rfl ?_
      obtain ⟨⟨hb0, hb1⟩, H⟩ := H
      refine rc_iald mq175 (mvDec_of cd175 rfl) mis81 hb0 hb1 ?_
      refine rc_iconst mq175 (mvDec_of cd175 rfl) (by decide) ?_
      refine rc_iadd mq175 (mvDec_of cd175 rfl) ?_
      obtain ⟨⟨hb0, hb1⟩, H⟩ := H
      refine rc_iast mq175 (mvDec_of cd175 rfl) mis81 hb0 hb1 ?_
      refine rc_heap (fun h10 hh => ?_)
      replace H := H h10 hh
      refine rc_iinc [some (mvR 68), some (mvI l1), some (mvI l2), some (mvI (mw (l3 + 1)))] mq175 (mvDec_of cd175 rfl) rfl rfl ?_
      refine rc_goto (t := 35) mq175 (mvDec_of cd175 rfl) rfl ?_
      exact H
abbrev MD_markerComes (g : Nat → Nat → Nat) (h : Nat → Int → Int) (x1 : Int) (x2 : Int) (K : (Nat → Int → Int) → Prop) : Prop := RV 176 0 [some (mvR 68), some (mvI x1), some (mvI x2)] [] g h K
theorem MD_markerComes_wp {sw : Bool} {g : Nat → Nat → Nat} {h : Nat → Int → Int} {x1 : Int} {x2 : Int} {K : (Nat → Int → Int) → Prop} (hG : Gok sw g)  (H :
  (0 ≤ x1 ∧ x1 < 16) ∧
  (∀ h1, h1 = mvUpd h 96 x1 (-1) →
  (0 ≤ (x1.tmod 4) ∧ (x1.tmod 4) < 4) ∧
  ((¬ (h1 95 (x1.tmod 4)) = (-1) →
    K h1) ∧
  ((h1 95 (x1.tmod 4)) = (-1) →
    MD_notes g h1 (x1.tmod 4) x2 (fun h2 =>
      K h2))))) : MD_markerComes g h x1 x2 K := by
  refine rc_aload_n mq176 (mvDec_of cd176 rfl) rfl ?_
  refine rc_getR 96 mq176 (mvDec_of cd176 rfl) fl_10_92 mis68 rfl (gr_68_42 hG) (by decide) ?_
  refine rc_iload_n mq176 (mvDec_of cd176 rfl) rfl ?_
  refine rc_iconst mq176 (mvDec_of cd176 rfl) (by decide) ?_
  obtain ⟨⟨hb0, hb1⟩, H⟩ := H
  refine rc_iast mq176 (mvDec_of cd176 rfl) mis96 hb0 hb1 ?_
  refine rc_heap (fun h1 hh => ?_)
  replace H := H h1 hh
  refine rc_aload_n mq176 (mvDec_of cd176 rfl) rfl ?_
  refine rc_getR 95 mq176 (mvDec_of cd176 rfl) fl_10_89 mis68 rfl (gr_68_41 hG) (by decide) ?_
  refine rc_iload_n mq176 (mvDec_of cd176 rfl) rfl ?_
  refine rc_iconst mq176 (mvDec_of cd176 rfl) (by decide) ?_
  refine rc_irem mq176 (mvDec_of cd176 rfl) (by decide) ?_
  obtain ⟨⟨hb0, hb1⟩, H⟩ := H
  refine rc_iald mq176 (mvDec_of cd176 rfl) mis95 hb0 hb1 ?_
  refine rc_iconst mq176 (mvDec_of cd176 rfl) (by decide) ?_
  refine rc_icmp_ne (t := 27) mq176 (mvDec_of cd176 rfl) rfl (fun hc => ?_) (fun hc => ?_)
  · replace H := H.1 hc
    exact rc_vret mq176 (mvDec_of cd176 rfl) ⟨_, rfl, rfl, H⟩
  · replace H := H.2 hc
    refine rc_aload_n mq176 (mvDec_of cd176 rfl) rfl ?_
    refine rc_iload_n mq176 (mvDec_of cd176 rfl) rfl ?_
    refine rc_iconst mq176 (mvDec_of cd176 rfl) (by decide) ?_
    refine rc_irem mq176 (mvDec_of cd176 rfl) (by decide) ?_
    refine rc_iload_n mq176 (mvDec_of cd176 rfl) rfl ?_
    refine rc_callV [mvR 68, mvI (x1.tmod 4), mvI x2] [] [some (mvR 68), some (mvI (x1.tmod 4)), some (mvI x2), none] mq176 (mvDec_of cd176 rfl) lk_10_369 mq135 (by decide) rfl rfl (Nat.le_of_ble_eq_true rfl) (Nat.le_of_ble_eq_true rfl) (by decide) rfl mis68 rfl (rv_bind H (fun h2 H => ?_))
    exact rc_vret mq176 (mvDec_of cd176 rfl) ⟨_, rfl, rfl, H⟩
abbrev MD_count (g : Nat → Nat → Nat) (h : Nat → Int → Int) (x1 : Int) (K : Int → (Nat → Int → Int) → Prop) : Prop := RI 177 0 [some (mvR 68), some (mvI x1)] [] g h K
theorem MD_count_wp {sw : Bool} {g : Nat → Nat → Nat} {h : Nat → Int → Int} {x1 : Int} {K : Int → (Nat → Int → Int) → Prop} (hG : Gok sw g)  (H :
  MD_howMany g h x1 (fun r2 h1 =>
    K r2 h1)) : MD_count g h x1 K := by
  refine rc_aload_n mq177 (mvDec_of cd177 rfl) rfl ?_
  refine rc_iload_n mq177 (mvDec_of cd177 rfl) rfl ?_
  refine rc_callV [mvR 68, mvI x1] [] [some (mvR 68), some (mvI x1)] mq177 (mvDec_of cd177 rfl) lk_10_399 mq138 (by decide) rfl rfl (Nat.le_of_ble_eq_true rfl) (Nat.le_of_ble_eq_true rfl) (by decide) rfl mis68 rfl (ri_bind H (fun r2 h1 H => ?_))
  exact rc_iret mq177 (mvDec_of cd177 rfl) ⟨_, _, rfl, rfl, H⟩
abbrev MD_fault (g : Nat → Nat → Nat) (h : Nat → Int → Int)  (K : Int → (Nat → Int → Int) → Prop) : Prop := RI 188 0 [some (mvR 68)] [] g h K
theorem MD_fault_wp {sw : Bool} {g : Nat → Nat → Nat} {h : Nat → Int → Int}  {K : Int → (Nat → Int → Int) → Prop} (hG : Gok sw g)  (H :
  MD_read g h (fun r2 h1 =>
    K r2 h1)) : MD_fault g h  K := by
  refine rc_aload_n mq188 (mvDec_of cd188 rfl) rfl ?_
  refine rc_callV [mvR 68] [] [some (mvR 68), none] mq188 (mvDec_of cd188 rfl) lk_10_120 mq159 (by decide) rfl rfl (Nat.le_of_ble_eq_true rfl) (Nat.le_of_ble_eq_true rfl) (by decide) rfl mis68 rfl (ri_bind H (fun r2 h1 H => ?_))
  exact rc_iret mq188 (mvDec_of cd188 rfl) ⟨_, _, rfl, rfl, H⟩
abbrev MD_changes (g : Nat → Nat → Nat) (h : Nat → Int → Int)  (K : (Nat → Int → Int) → Prop) : Prop := RV 189 0 [some (mvR 68)] [] g h K
theorem MD_changes_wp {sw : Bool} {g : Nat → Nat → Nat} {h : Nat → Int → Int}  {K : (Nat → Int → Int) → Prop} (hG : Gok sw g)  (H :
  (∀ h1, h1 = mvUpd h 68 10 0 →
  (∀ h2, h2 = mvUpd h1 68 12 0 →
  MD_layPartners g h2 (fun h3 =>
    MD_layVectors g h3 (fun h4 =>
      K h4))))) : MD_changes g h  K := by
  refine rc_aload_n mq189 (mvDec_of cd189 rfl) rfl ?_
  refine rc_iconst mq189 (mvDec_of cd189 rfl) (by decide) ?_
  refine rc_putI 10 mq189 (mvDec_of cd189 rfl) fl_10_147 mis68 rfl (fun z => absurd z (by decide)) (Or.inr ⟨rfl, Or.inl rfl⟩) ?_
  refine rc_heap (fun h1 hh => ?_)
  replace H := H h1 hh
  refine rc_aload_n mq189 (mvDec_of cd189 rfl) rfl ?_
  refine rc_iconst mq189 (mvDec_of cd189 rfl) (by decide) ?_
  refine rc_putI 12 mq189 (mvDec_of cd189 rfl) fl_10_151 mis68 rfl (fun z => absurd z (by decide)) (Or.inr ⟨rfl, Or.inl rfl⟩) ?_
  refine rc_heap (fun h2 hh => ?_)
  replace H := H h2 hh
  refine rc_aload_n mq189 (mvDec_of cd189 rfl) rfl ?_
  refine rc_callV [mvR 68] [] [some (mvR 68), none, none, none, none] mq189 (mvDec_of cd189 rfl) lk_10_154 mq161 (by decide) rfl rfl (Nat.le_of_ble_eq_true rfl) (Nat.le_of_ble_eq_true rfl) (by decide) rfl mis68 rfl (rv_bind H (fun h3 H => ?_))
  refine rc_aload_n mq189 (mvDec_of cd189 rfl) rfl ?_
  refine rc_callV [mvR 68] [] [some (mvR 68), none, none, none] mq189 (mvDec_of cd189 rfl) lk_10_157 mq115 (by decide) rfl rfl (Nat.le_of_ble_eq_true rfl) (Nat.le_of_ble_eq_true rfl) (by decide) rfl mis68 rfl (rv_bind H (fun h4 H => ?_))
  exact rc_vret mq189 (mvDec_of cd189 rfl) ⟨_, rfl, rfl, H⟩
abbrev MD_event (g : Nat → Nat → Nat) (h : Nat → Int → Int) (x1 : Int) (x2 : Int) (x3 : Int) (K : Int → (Nat → Int → Int) → Prop) : Prop := RI 190 0 [some (mvR 68), some (mvI x1), some (mvI x2), some (mvI x3)] [] g h K
theorem MD_event_wp {sw : Bool} {g : Nat → Nat → Nat} {h : Nat → Int → Int} {x1 : Int} {x2 : Int} {x3 : Int} {K : Int → (Nat → Int → Int) → Prop} (hG : Gok sw g)  (H :
  ((x1 < 0 →
    K (-101) h) ∧
  (0 ≤ x1 →
    (((mw ((h 68 0) - 1)) < x1 →
      K (-101) h) ∧
    (x1 ≤ (mw ((h 68 0) - 1)) →
      (0 ≤ x1 ∧ x1 < 4) ∧
      ((x2 < 0 →
        K (-101) h) ∧
      (0 ≤ x2 →
        (((mw ((h 69 x1) - 1)) < x2 →
          K (-101) h) ∧
        (x2 ≤ (mw ((h 69 x1) - 1)) →
          ((x3 < 0 →
            K (-102) h) ∧
          (0 ≤ x3 →
            ((6 < x3 →
              K (-102) h) ∧
            (x3 ≤ 6 →
              MD_eventNow g h x1 x2 x3 (fun r2 h1 =>
                K r2 h1)))))))))))))) : MD_event g h x1 x2 x3 K := by
  refine rc_aload_n mq190 (mvDec_of cd190 rfl) rfl ?_
  refine rc_iload_n mq190 (mvDec_of cd190 rfl) rfl ?_
  refine rc_iload_n mq190 (mvDec_of cd190 rfl) rfl ?_
  refine rc_callV [mvR 68, mvI x1, mvI x2] [] [some (mvR 68), some (mvI x1), some (mvI x2)] mq190 (mvDec_of cd190 rfl) lk_10_183 mq162 (by decide) rfl rfl (Nat.le_of_ble_eq_true rfl) (Nat.le_of_ble_eq_true rfl) (by decide) rfl mis68 rfl ?_
  refine rc_aload_n mq162 (mvDec_of cd162 rfl) rfl ?_
  refine rc_iload_n mq162 (mvDec_of cd162 rfl) rfl ?_
  refine rc_callV [mvR 68, mvI x1] [] [some (mvR 68), some (mvI x1)] mq162 (mvDec_of cd162 rfl) lk_10_170 mq116 (by decide) rfl rfl (Nat.le_of_ble_eq_true rfl) (Nat.le_of_ble_eq_true rfl) (by decide) rfl mis68 rfl ?_
  refine rc_iload_n mq116 (mvDec_of cd116 rfl) rfl ?_
  refine rc_iconst mq116 (mvDec_of cd116 rfl) (by decide) ?_
  refine rc_aload_n mq116 (mvDec_of cd116 rfl) rfl ?_
  refine rc_getI 0 mq116 (mvDec_of cd116 rfl) fl_10_138 mis68 rfl (by decide) (by decide) ?_
  refine rc_iconst mq116 (mvDec_of cd116 rfl) (by decide) ?_
  refine rc_isub mq116 (mvDec_of cd116 rfl) ?_
  refine rc_callS [mvI x1, mvI 0, mvI (mw ((h 68 0) - 1))] [] [some (mvI x1), some (mvI 0), some (mvI (mw ((h 68 0) - 1)))] mq116 (mvDec_of cd116 rfl) lk_10_95 mq38 (by decide) rfl rfl (Nat.le_of_ble_eq_true rfl) (Nat.le_of_ble_eq_true rfl) (by decide) rfl ?_
  refine rc_iload_n mq38 (mvDec_of cd38 rfl) rfl ?_
  refine rc_iload_n mq38 (mvDec_of cd38 rfl) rfl ?_
  refine rc_icmp_lt (t := 14) mq38 (mvDec_of cd38 rfl) rfl (fun hc => ?_) (fun hc => ?_)
  · replace H := H.1 hc
    refine rc_iconst mq38 (mvDec_of cd38 rfl) (by decide) ?_
    refine rc_zret mq38 (mvDec_of cd38 rfl) (Or.inl rfl) ?_
    show Rch 116 11 [some (mvR 68), some (mvI x1)] [mvI 0] (97, g, h) _
    refine rc_zret mq116 (mvDec_of cd116 rfl) (Or.inl rfl) ?_
    show Rch 162 5 [some (mvR 68), some (mvI x1), some (mvI x2)] [mvI 0] (97, g, h) _
    refine rc_ifT (t := 28) mq162 (mvDec_of cd162 rfl) rfl rfl ?_
    refine rc_iconst mq162 (mvDec_of cd162 rfl) (by decide) ?_
    refine rc_zret mq162 (mvDec_of cd162 rfl) (Or.inl rfl) ?_
    show Rch 190 6 [some (mvR 68), some (mvI x1), some (mvI x2), some (mvI x3)] [mvI 0] (97, g, h) _
    refine rc_ifF (t := 14) mq190 (mvDec_of cd190 rfl) rfl rfl ?_
    refine rc_bipush mq190 (mvDec_of cd190 rfl) (by decide) ?_
    refine rc_goto (t := 36) mq190 (mvDec_of cd190 rfl) rfl ?_
    exact rc_iret mq190 (mvDec_of cd190 rfl) ⟨_, _, rfl, rfl, H⟩
  · replace H := H.2 hc
    refine rc_iload_n mq38 (mvDec_of cd38 rfl) rfl ?_
    refine rc_iload_n mq38 (mvDec_of cd38 rfl) rfl ?_
    refine rc_icmp_gt (t := 14) mq38 (mvDec_of cd38 rfl) rfl (fun hc => ?_) (fun hc => ?_)
    · replace H := H.1 hc
      refine rc_iconst mq38 (mvDec_of cd38 rfl) (by decide) ?_
      refine rc_zret mq38 (mvDec_of cd38 rfl) (Or.inl rfl) ?_
      show Rch 116 11 [some (mvR 68), some (mvI x1)] [mvI 0] (97, g, h) _
      refine rc_zret mq116 (mvDec_of cd116 rfl) (Or.inl rfl) ?_
      show Rch 162 5 [some (mvR 68), some (mvI x1), some (mvI x2)] [mvI 0] (97, g, h) _
      refine rc_ifT (t := 28) mq162 (mvDec_of cd162 rfl) rfl rfl ?_
      refine rc_iconst mq162 (mvDec_of cd162 rfl) (by decide) ?_
      refine rc_zret mq162 (mvDec_of cd162 rfl) (Or.inl rfl) ?_
      show Rch 190 6 [some (mvR 68), some (mvI x1), some (mvI x2), some (mvI x3)] [mvI 0] (97, g, h) _
      refine rc_ifF (t := 14) mq190 (mvDec_of cd190 rfl) rfl rfl ?_
      refine rc_bipush mq190 (mvDec_of cd190 rfl) (by decide) ?_
      refine rc_goto (t := 36) mq190 (mvDec_of cd190 rfl) rfl ?_
      exact rc_iret mq190 (mvDec_of cd190 rfl) ⟨_, _, rfl, rfl, H⟩
    · replace H := H.2 hc
      refine rc_iconst mq38 (mvDec_of cd38 rfl) (by decide) ?_
      refine rc_goto (t := 15) mq38 (mvDec_of cd38 rfl) rfl ?_
      refine rc_zret mq38 (mvDec_of cd38 rfl) (Or.inr rfl) ?_
      show Rch 116 11 [some (mvR 68), some (mvI x1)] [mvI 1] (97, g, h) _
      refine rc_zret mq116 (mvDec_of cd116 rfl) (Or.inr rfl) ?_
      show Rch 162 5 [some (mvR 68), some (mvI x1), some (mvI x2)] [mvI 1] (97, g, h) _
      refine rc_ifF (t := 28) mq162 (mvDec_of cd162 rfl) rfl rfl ?_
      refine rc_iload_n mq162 (mvDec_of cd162 rfl) rfl ?_
      refine rc_iconst mq162 (mvDec_of cd162 rfl) (by decide) ?_
      refine rc_aload_n mq162 (mvDec_of cd162 rfl) rfl ?_
      refine rc_getR 69 mq162 (mvDec_of cd162 rfl) fl_10_7 mis68 rfl (gr_68_1 hG) (by decide) ?_
      refine rc_iload_n mq162 (mvDec_of cd162 rfl) rfl ?_
      obtain ⟨⟨hb0, hb1⟩, H⟩ := H
      refine rc_iald mq162 (mvDec_of cd162 rfl) mis69 hb0 hb1 ?_
      refine rc_iconst mq162 (mvDec_of cd162 rfl) (by decide) ?_
      refine rc_isub mq162 (mvDec_of cd162 rfl) ?_
      refine rc_callS [mvI x2, mvI 0, mvI (mw ((h 69 x1) - 1))] [] [some (mvI x2), some (mvI 0), some (mvI (mw ((h 69 x1) - 1)))] mq162 (mvDec_of cd162 rfl) lk_10_95 mq38 (by decide) rfl rfl (Nat.le_of_ble_eq_true rfl) (Nat.le_of_ble_eq_true rfl) (by decide) rfl ?_
      refine rc_iload_n mq38 (mvDec_of cd38 rfl) rfl ?_
      refine rc_iload_n mq38 (mvDec_of cd38 rfl) rfl ?_
      refine rc_icmp_lt (t := 14) mq38 (mvDec_of cd38 rfl) rfl (fun hc => ?_) (fun hc => ?_)
      · replace H := H.1 hc
        refine rc_iconst mq38 (mvDec_of cd38 rfl) (by decide) ?_
        refine rc_zret mq38 (mvDec_of cd38 rfl) (Or.inl rfl) ?_
        show Rch 162 21 [some (mvR 68), some (mvI x1), some (mvI x2)] [mvI 0] (97, g, h) _
        refine rc_ifT (t := 28) mq162 (mvDec_of cd162 rfl) rfl rfl ?_
        refine rc_iconst mq162 (mvDec_of cd162 rfl) (by decide) ?_
        refine rc_zret mq162 (mvDec_of cd162 rfl) (Or.inl rfl) ?_
        show Rch 190 6 [some (mvR 68), some (mvI x1), some (mvI x2), some (mvI x3)] [mvI 0] (97, g, h) _
        refine rc_ifF (t := 14) mq190 (mvDec_of cd190 rfl) rfl rfl ?_
        refine rc_bipush mq190 (mvDec_of cd190 rfl) (by decide) ?_
        refine rc_goto (t := 36) mq190 (mvDec_of cd190 rfl) rfl ?_
        exact rc_iret mq190 (mvDec_of cd190 rfl) ⟨_, _, rfl, rfl, H⟩
      · replace H := H.2 hc
        refine rc_iload_n mq38 (mvDec_of cd38 rfl) rfl ?_
        refine rc_iload_n mq38 (mvDec_of cd38 rfl) rfl ?_
        refine rc_icmp_gt (t := 14) mq38 (mvDec_of cd38 rfl) rfl (fun hc => ?_) (fun hc => ?_)
        · replace H := H.1 hc
          refine rc_iconst mq38 (mvDec_of cd38 rfl) (by decide) ?_
          refine rc_zret mq38 (mvDec_of cd38 rfl) (Or.inl rfl) ?_
          show Rch 162 21 [some (mvR 68), some (mvI x1), some (mvI x2)] [mvI 0] (97, g, h) _
          refine rc_ifT (t := 28) mq162 (mvDec_of cd162 rfl) rfl rfl ?_
          refine rc_iconst mq162 (mvDec_of cd162 rfl) (by decide) ?_
          refine rc_zret mq162 (mvDec_of cd162 rfl) (Or.inl rfl) ?_
          show Rch 190 6 [some (mvR 68), some (mvI x1), some (mvI x2), some (mvI x3)] [mvI 0] (97, g, h) _
          refine rc_ifF (t := 14) mq190 (mvDec_of cd190 rfl) rfl rfl ?_
          refine rc_bipush mq190 (mvDec_of cd190 rfl) (by decide) ?_
          refine rc_goto (t := 36) mq190 (mvDec_of cd190 rfl) rfl ?_
          exact rc_iret mq190 (mvDec_of cd190 rfl) ⟨_, _, rfl, rfl, H⟩
        · replace H := H.2 hc
          refine rc_iconst mq38 (mvDec_of cd38 rfl) (by decide) ?_
          refine rc_goto (t := 15) mq38 (mvDec_of cd38 rfl) rfl ?_
          refine rc_zret mq38 (mvDec_of cd38 rfl) (Or.inr rfl) ?_
          show Rch 162 21 [some (mvR 68), some (mvI x1), some (mvI x2)] [mvI 1] (97, g, h) _
          refine rc_ifF (t := 28) mq162 (mvDec_of cd162 rfl) rfl rfl ?_
          refine rc_iconst mq162 (mvDec_of cd162 rfl) (by decide) ?_
          refine rc_goto (t := 29) mq162 (mvDec_of cd162 rfl) rfl ?_
          refine rc_zret mq162 (mvDec_of cd162 rfl) (Or.inr rfl) ?_
          show Rch 190 6 [some (mvR 68), some (mvI x1), some (mvI x2), some (mvI x3)] [mvI 1] (97, g, h) _
          refine rc_ifT (t := 14) mq190 (mvDec_of cd190 rfl) rfl rfl ?_
          refine rc_iload_n mq190 (mvDec_of cd190 rfl) rfl ?_
          refine rc_iconst mq190 (mvDec_of cd190 rfl) (by decide) ?_
          refine rc_bipush mq190 (mvDec_of cd190 rfl) (by decide) ?_
          refine rc_callS [mvI x3, mvI 0, mvI 6] [] [some (mvI x3), some (mvI 0), some (mvI 6)] mq190 (mvDec_of cd190 rfl) lk_10_95 mq38 (by decide) rfl rfl (Nat.le_of_ble_eq_true rfl) (Nat.le_of_ble_eq_true rfl) (by decide) rfl ?_
          refine rc_iload_n mq38 (mvDec_of cd38 rfl) rfl ?_
          refine rc_iload_n mq38 (mvDec_of cd38 rfl) rfl ?_
          refine rc_icmp_lt (t := 14) mq38 (mvDec_of cd38 rfl) rfl (fun hc => ?_) (fun hc => ?_)
          · replace H := H.1 hc
            refine rc_iconst mq38 (mvDec_of cd38 rfl) (by decide) ?_
            refine rc_zret mq38 (mvDec_of cd38 rfl) (Or.inl rfl) ?_
            show Rch 190 21 [some (mvR 68), some (mvI x1), some (mvI x2), some (mvI x3)] [mvI 0] (97, g, h) _
            refine rc_ifT (t := 34) mq190 (mvDec_of cd190 rfl) rfl rfl ?_
            refine rc_bipush mq190 (mvDec_of cd190 rfl) (by decide) ?_
            exact rc_iret mq190 (mvDec_of cd190 rfl) ⟨_, _, rfl, rfl, H⟩
          · replace H := H.2 hc
            refine rc_iload_n mq38 (mvDec_of cd38 rfl) rfl ?_
            refine rc_iload_n mq38 (mvDec_of cd38 rfl) rfl ?_
            refine rc_icmp_gt (t := 14) mq38 (mvDec_of cd38 rfl) rfl (fun hc => ?_) (fun hc => ?_)
            · replace H := H.1 hc
              refine rc_iconst mq38 (mvDec_of cd38 rfl) (by decide) ?_
              refine rc_zret mq38 (mvDec_of cd38 rfl) (Or.inl rfl) ?_
              show Rch 190 21 [some (mvR 68), some (mvI x1), some (mvI x2), some (mvI x3)] [mvI 0] (97, g, h) _
              refine rc_ifT (t := 34) mq190 (mvDec_of cd190 rfl) rfl rfl ?_
              refine rc_bipush mq190 (mvDec_of cd190 rfl) (by decide) ?_
              exact rc_iret mq190 (mvDec_of cd190 rfl) ⟨_, _, rfl, rfl, H⟩
            · replace H := H.2 hc
              refine rc_iconst mq38 (mvDec_of cd38 rfl) (by decide) ?_
              refine rc_goto (t := 15) mq38 (mvDec_of cd38 rfl) rfl ?_
              refine rc_zret mq38 (mvDec_of cd38 rfl) (Or.inr rfl) ?_
              show Rch 190 21 [some (mvR 68), some (mvI x1), some (mvI x2), some (mvI x3)] [mvI 1] (97, g, h) _
              refine rc_ifF (t := 34) mq190 (mvDec_of cd190 rfl) rfl rfl ?_
              refine rc_aload_n mq190 (mvDec_of cd190 rfl) rfl ?_
              refine rc_iload_n mq190 (mvDec_of cd190 rfl) rfl ?_
              refine rc_iload_n mq190 (mvDec_of cd190 rfl) rfl ?_
              refine rc_iload_n mq190 (mvDec_of cd190 rfl) rfl ?_
              refine rc_callV [mvR 68, mvI x1, mvI x2, mvI x3] [] [some (mvR 68), some (mvI x1), some (mvI x2), some (mvI x3), none] mq190 (mvDec_of cd190 rfl) lk_10_186 mq47 (by decide) rfl rfl (Nat.le_of_ble_eq_true rfl) (Nat.le_of_ble_eq_true rfl) (by decide) rfl mis68 rfl (ri_bind H (fun r2 h1 H => ?_))
              refine rc_goto (t := 36) mq190 (mvDec_of cd190 rfl) rfl ?_
              exact rc_iret mq190 (mvDec_of cd190 rfl) ⟨_, _, rfl, rfl, H⟩
abbrev MD_order (g : Nat → Nat → Nat) (h : Nat → Int → Int) (x1 : Int) (x2 : Int) (x3 : Int) (x4 : Int) (K : Int → (Nat → Int → Int) → Prop) : Prop := RI 191 0 [some (mvR 68), some (mvI x1), some (mvI x2), some (mvI x3), some (mvI x4)] [] g h K
theorem MD_order_wp {sw : Bool} {g : Nat → Nat → Nat} {h : Nat → Int → Int} {x1 : Int} {x2 : Int} {x3 : Int} {x4 : Int} {K : Int → (Nat → Int → Int) → Prop} (hG : Gok sw g)  (H :
  ((x1 < 0 →
    K (-101) h) ∧
  (0 ≤ x1 →
    (((mw ((h 68 0) - 1)) < x1 →
      K (-101) h) ∧
    (x1 ≤ (mw ((h 68 0) - 1)) →
      (0 ≤ x1 ∧ x1 < 4) ∧
      ((x2 < 0 →
        K (-101) h) ∧
      (0 ≤ x2 →
        (((mw ((h 69 x1) - 1)) < x2 →
          K (-101) h) ∧
        (x2 ≤ (mw ((h 69 x1) - 1)) →
          ((x3 < 0 →
            K (-101) h) ∧
          (0 ≤ x3 →
            (((mw ((h 68 0) - 1)) < x3 →
              K (-101) h) ∧
            (x3 ≤ (mw ((h 68 0) - 1)) →
              (0 ≤ x3 ∧ x3 < 4) ∧
              ((x4 < 0 →
                K (-101) h) ∧
              (0 ≤ x4 →
                (((mw ((h 69 x3) - 1)) < x4 →
                  K (-101) h) ∧
                (x4 ≤ (mw ((h 69 x3) - 1)) →
                  MD_orderNow g h x1 x2 x3 x4 (fun r2 h1 =>
                    K r2 h1)))))))))))))))))) : MD_order g h x1 x2 x3 x4 K := by
  refine rc_aload_n mq191 (mvDec_of cd191 rfl) rfl ?_
  refine rc_iload_n mq191 (mvDec_of cd191 rfl) rfl ?_
  refine rc_iload_n mq191 (mvDec_of cd191 rfl) rfl ?_
  refine rc_callV [mvR 68, mvI x1, mvI x2] [] [some (mvR 68), some (mvI x1), some (mvI x2)] mq191 (mvDec_of cd191 rfl) lk_10_183 mq162 (by decide) rfl rfl (Nat.le_of_ble_eq_true rfl) (Nat.le_of_ble_eq_true rfl) (by decide) rfl mis68 rfl ?_
  refine rc_aload_n mq162 (mvDec_of cd162 rfl) rfl ?_
  refine rc_iload_n mq162 (mvDec_of cd162 rfl) rfl ?_
  refine rc_callV [mvR 68, mvI x1] [] [some (mvR 68), some (mvI x1)] mq162 (mvDec_of cd162 rfl) lk_10_170 mq116 (by decide) rfl rfl (Nat.le_of_ble_eq_true rfl) (Nat.le_of_ble_eq_true rfl) (by decide) rfl mis68 rfl ?_
  refine rc_iload_n mq116 (mvDec_of cd116 rfl) rfl ?_
  refine rc_iconst mq116 (mvDec_of cd116 rfl) (by decide) ?_
  refine rc_aload_n mq116 (mvDec_of cd116 rfl) rfl ?_
  refine rc_getI 0 mq116 (mvDec_of cd116 rfl) fl_10_138 mis68 rfl (by decide) (by decide) ?_
  refine rc_iconst mq116 (mvDec_of cd116 rfl) (by decide) ?_
  refine rc_isub mq116 (mvDec_of cd116 rfl) ?_
  refine rc_callS [mvI x1, mvI 0, mvI (mw ((h 68 0) - 1))] [] [some (mvI x1), some (mvI 0), some (mvI (mw ((h 68 0) - 1)))] mq116 (mvDec_of cd116 rfl) lk_10_95 mq38 (by decide) rfl rfl (Nat.le_of_ble_eq_true rfl) (Nat.le_of_ble_eq_true rfl) (by decide) rfl ?_
  refine rc_iload_n mq38 (mvDec_of cd38 rfl) rfl ?_
  refine rc_iload_n mq38 (mvDec_of cd38 rfl) rfl ?_
  refine rc_icmp_lt (t := 14) mq38 (mvDec_of cd38 rfl) rfl (fun hc => ?_) (fun hc => ?_)
  · replace H := H.1 hc
    refine rc_iconst mq38 (mvDec_of cd38 rfl) (by decide) ?_
    refine rc_zret mq38 (mvDec_of cd38 rfl) (Or.inl rfl) ?_
    show Rch 116 11 [some (mvR 68), some (mvI x1)] [mvI 0] (97, g, h) _
    refine rc_zret mq116 (mvDec_of cd116 rfl) (Or.inl rfl) ?_
    show Rch 162 5 [some (mvR 68), some (mvI x1), some (mvI x2)] [mvI 0] (97, g, h) _
    refine rc_ifT (t := 28) mq162 (mvDec_of cd162 rfl) rfl rfl ?_
    refine rc_iconst mq162 (mvDec_of cd162 rfl) (by decide) ?_
    refine rc_zret mq162 (mvDec_of cd162 rfl) (Or.inl rfl) ?_
    show Rch 191 6 [some (mvR 68), some (mvI x1), some (mvI x2), some (mvI x3), some (mvI x4)] [mvI 0] (97, g, h) _
    refine rc_ifT (t := 31) mq191 (mvDec_of cd191 rfl) rfl rfl ?_
    refine rc_bipush mq191 (mvDec_of cd191 rfl) (by decide) ?_
    exact rc_iret mq191 (mvDec_of cd191 rfl) ⟨_, _, rfl, rfl, H⟩
  · replace H := H.2 hc
    refine rc_iload_n mq38 (mvDec_of cd38 rfl) rfl ?_
    refine rc_iload_n mq38 (mvDec_of cd38 rfl) rfl ?_
    refine rc_icmp_gt (t := 14) mq38 (mvDec_of cd38 rfl) rfl (fun hc => ?_) (fun hc => ?_)
    · replace H := H.1 hc
      refine rc_iconst mq38 (mvDec_of cd38 rfl) (by decide) ?_
      refine rc_zret mq38 (mvDec_of cd38 rfl) (Or.inl rfl) ?_
      show Rch 116 11 [some (mvR 68), some (mvI x1)] [mvI 0] (97, g, h) _
      refine rc_zret mq116 (mvDec_of cd116 rfl) (Or.inl rfl) ?_
      show Rch 162 5 [some (mvR 68), some (mvI x1), some (mvI x2)] [mvI 0] (97, g, h) _
      refine rc_ifT (t := 28) mq162 (mvDec_of cd162 rfl) rfl rfl ?_
      refine rc_iconst mq162 (mvDec_of cd162 rfl) (by decide) ?_
      refine rc_zret mq162 (mvDec_of cd162 rfl) (Or.inl rfl) ?_
      show Rch 191 6 [some (mvR 68), some (mvI x1), some (mvI x2), some (mvI x3), some (mvI x4)] [mvI 0] (97, g, h) _
      refine rc_ifT (t := 31) mq191 (mvDec_of cd191 rfl) rfl rfl ?_
      refine rc_bipush mq191 (mvDec_of cd191 rfl) (by decide) ?_
      exact rc_iret mq191 (mvDec_of cd191 rfl) ⟨_, _, rfl, rfl, H⟩
    · replace H := H.2 hc
      refine rc_iconst mq38 (mvDec_of cd38 rfl) (by decide) ?_
      refine rc_goto (t := 15) mq38 (mvDec_of cd38 rfl) rfl ?_
      refine rc_zret mq38 (mvDec_of cd38 rfl) (Or.inr rfl) ?_
      show Rch 116 11 [some (mvR 68), some (mvI x1)] [mvI 1] (97, g, h) _
      refine rc_zret mq116 (mvDec_of cd116 rfl) (Or.inr rfl) ?_
      show Rch 162 5 [some (mvR 68), some (mvI x1), some (mvI x2)] [mvI 1] (97, g, h) _
      refine rc_ifF (t := 28) mq162 (mvDec_of cd162 rfl) rfl rfl ?_
      refine rc_iload_n mq162 (mvDec_of cd162 rfl) rfl ?_
      refine rc_iconst mq162 (mvDec_of cd162 rfl) (by decide) ?_
      refine rc_aload_n mq162 (mvDec_of cd162 rfl) rfl ?_
      refine rc_getR 69 mq162 (mvDec_of cd162 rfl) fl_10_7 mis68 rfl (gr_68_1 hG) (by decide) ?_
      refine rc_iload_n mq162 (mvDec_of cd162 rfl) rfl ?_
      obtain ⟨⟨hb0, hb1⟩, H⟩ := H
      refine rc_iald mq162 (mvDec_of cd162 rfl) mis69 hb0 hb1 ?_
      refine rc_iconst mq162 (mvDec_of cd162 rfl) (by decide) ?_
      refine rc_isub mq162 (mvDec_of cd162 rfl) ?_
      refine rc_callS [mvI x2, mvI 0, mvI (mw ((h 69 x1) - 1))] [] [some (mvI x2), some (mvI 0), some (mvI (mw ((h 69 x1) - 1)))] mq162 (mvDec_of cd162 rfl) lk_10_95 mq38 (by decide) rfl rfl (Nat.le_of_ble_eq_true rfl) (Nat.le_of_ble_eq_true rfl) (by decide) rfl ?_
      refine rc_iload_n mq38 (mvDec_of cd38 rfl) rfl ?_
      refine rc_iload_n mq38 (mvDec_of cd38 rfl) rfl ?_
      refine rc_icmp_lt (t := 14) mq38 (mvDec_of cd38 rfl) rfl (fun hc => ?_) (fun hc => ?_)
      · replace H := H.1 hc
        refine rc_iconst mq38 (mvDec_of cd38 rfl) (by decide) ?_
        refine rc_zret mq38 (mvDec_of cd38 rfl) (Or.inl rfl) ?_
        show Rch 162 21 [some (mvR 68), some (mvI x1), some (mvI x2)] [mvI 0] (97, g, h) _
        refine rc_ifT (t := 28) mq162 (mvDec_of cd162 rfl) rfl rfl ?_
        refine rc_iconst mq162 (mvDec_of cd162 rfl) (by decide) ?_
        refine rc_zret mq162 (mvDec_of cd162 rfl) (Or.inl rfl) ?_
        show Rch 191 6 [some (mvR 68), some (mvI x1), some (mvI x2), some (mvI x3), some (mvI x4)] [mvI 0] (97, g, h) _
        refine rc_ifT (t := 31) mq191 (mvDec_of cd191 rfl) rfl rfl ?_
        refine rc_bipush mq191 (mvDec_of cd191 rfl) (by decide) ?_
        exact rc_iret mq191 (mvDec_of cd191 rfl) ⟨_, _, rfl, rfl, H⟩
      · replace H := H.2 hc
        refine rc_iload_n mq38 (mvDec_of cd38 rfl) rfl ?_
        refine rc_iload_n mq38 (mvDec_of cd38 rfl) rfl ?_
        refine rc_icmp_gt (t := 14) mq38 (mvDec_of cd38 rfl) rfl (fun hc => ?_) (fun hc => ?_)
        · replace H := H.1 hc
          refine rc_iconst mq38 (mvDec_of cd38 rfl) (by decide) ?_
          refine rc_zret mq38 (mvDec_of cd38 rfl) (Or.inl rfl) ?_
          show Rch 162 21 [some (mvR 68), some (mvI x1), some (mvI x2)] [mvI 0] (97, g, h) _
          refine rc_ifT (t := 28) mq162 (mvDec_of cd162 rfl) rfl rfl ?_
          refine rc_iconst mq162 (mvDec_of cd162 rfl) (by decide) ?_
          refine rc_zret mq162 (mvDec_of cd162 rfl) (Or.inl rfl) ?_
          show Rch 191 6 [some (mvR 68), some (mvI x1), some (mvI x2), some (mvI x3), some (mvI x4)] [mvI 0] (97, g, h) _
          refine rc_ifT (t := 31) mq191 (mvDec_of cd191 rfl) rfl rfl ?_
          refine rc_bipush mq191 (mvDec_of cd191 rfl) (by decide) ?_
          exact rc_iret mq191 (mvDec_of cd191 rfl) ⟨_, _, rfl, rfl, H⟩
        · replace H := H.2 hc
          refine rc_iconst mq38 (mvDec_of cd38 rfl) (by decide) ?_
          refine rc_goto (t := 15) mq38 (mvDec_of cd38 rfl) rfl ?_
          refine rc_zret mq38 (mvDec_of cd38 rfl) (Or.inr rfl) ?_
          show Rch 162 21 [some (mvR 68), some (mvI x1), some (mvI x2)] [mvI 1] (97, g, h) _
          refine rc_ifF (t := 28) mq162 (mvDec_of cd162 rfl) rfl rfl ?_
          refine rc_iconst mq162 (mvDec_of cd162 rfl) (by decide) ?_
          refine rc_goto (t := 29) mq162 (mvDec_of cd162 rfl) rfl ?_
          refine rc_zret mq162 (mvDec_of cd162 rfl) (Or.inr rfl) ?_
          show Rch 191 6 [some (mvR 68), some (mvI x1), some (mvI x2), some (mvI x3), some (mvI x4)] [mvI 1] (97, g, h) _
          refine rc_ifF (t := 31) mq191 (mvDec_of cd191 rfl) rfl rfl ?_
          refine rc_aload_n mq191 (mvDec_of cd191 rfl) rfl ?_
          refine rc_iload_n mq191 (mvDec_of cd191 rfl) rfl ?_
          refine rc_iload mq191 (mvDec_of cd191 rfl) rfl ?_
          refine rc_callV [mvR 68, mvI x3, mvI x4] [] [some (mvR 68), some (mvI x3), some (mvI x4)] mq191 (mvDec_of cd191 rfl) lk_10_183 mq162 (by decide) rfl rfl (Nat.le_of_ble_eq_true rfl) (Nat.le_of_ble_eq_true rfl) (by decide) rfl mis68 rfl ?_
          refine rc_aload_n mq162 (mvDec_of cd162 rfl) rfl ?_
          refine rc_iload_n mq162 (mvDec_of cd162 rfl) rfl ?_
          refine rc_callV [mvR 68, mvI x3] [] [some (mvR 68), some (mvI x3)] mq162 (mvDec_of cd162 rfl) lk_10_170 mq116 (by decide) rfl rfl (Nat.le_of_ble_eq_true rfl) (Nat.le_of_ble_eq_true rfl) (by decide) rfl mis68 rfl ?_
          refine rc_iload_n mq116 (mvDec_of cd116 rfl) rfl ?_
          refine rc_iconst mq116 (mvDec_of cd116 rfl) (by decide) ?_
          refine rc_aload_n mq116 (mvDec_of cd116 rfl) rfl ?_
          refine rc_getI 0 mq116 (mvDec_of cd116 rfl) fl_10_138 mis68 rfl (by decide) (by decide) ?_
          refine rc_iconst mq116 (mvDec_of cd116 rfl) (by decide) ?_
          refine rc_isub mq116 (mvDec_of cd116 rfl) ?_
          refine rc_callS [mvI x3, mvI 0, mvI (mw ((h 68 0) - 1))] [] [some (mvI x3), some (mvI 0), some (mvI (mw ((h 68 0) - 1)))] mq116 (mvDec_of cd116 rfl) lk_10_95 mq38 (by decide) rfl rfl (Nat.le_of_ble_eq_true rfl) (Nat.le_of_ble_eq_true rfl) (by decide) rfl ?_
          refine rc_iload_n mq38 (mvDec_of cd38 rfl) rfl ?_
          refine rc_iload_n mq38 (mvDec_of cd38 rfl) rfl ?_
          refine rc_icmp_lt (t := 14) mq38 (mvDec_of cd38 rfl) rfl (fun hc => ?_) (fun hc => ?_)
          · replace H := H.1 hc
            refine rc_iconst mq38 (mvDec_of cd38 rfl) (by decide) ?_
            refine rc_zret mq38 (mvDec_of cd38 rfl) (Or.inl rfl) ?_
            show Rch 116 11 [some (mvR 68), some (mvI x3)] [mvI 0] (97, g, h) _
            refine rc_zret mq116 (mvDec_of cd116 rfl) (Or.inl rfl) ?_
            show Rch 162 5 [some (mvR 68), some (mvI x3), some (mvI x4)] [mvI 0] (97, g, h) _
            refine rc_ifT (t := 28) mq162 (mvDec_of cd162 rfl) rfl rfl ?_
            refine rc_iconst mq162 (mvDec_of cd162 rfl) (by decide) ?_
            refine rc_zret mq162 (mvDec_of cd162 rfl) (Or.inl rfl) ?_
            show Rch 191 16 [some (mvR 68), some (mvI x1), some (mvI x2), some (mvI x3), some (mvI x4)] [mvI 0] (97, g, h) _
            refine rc_ifT (t := 31) mq191 (mvDec_of cd191 rfl) rfl rfl ?_
            refine rc_bipush mq191 (mvDec_of cd191 rfl) (by decide) ?_
            exact rc_iret mq191 (mvDec_of cd191 rfl) ⟨_, _, rfl, rfl, H⟩
          · replace H := H.2 hc
            refine rc_iload_n mq38 (mvDec_of cd38 rfl) rfl ?_
            refine rc_iload_n mq38 (mvDec_of cd38 rfl) rfl ?_
            refine rc_icmp_gt (t := 14) mq38 (mvDec_of cd38 rfl) rfl (fun hc => ?_) (fun hc => ?_)
            · replace H := H.1 hc
              refine rc_iconst mq38 (mvDec_of cd38 rfl) (by decide) ?_
              refine rc_zret mq38 (mvDec_of cd38 rfl) (Or.inl rfl) ?_
              show Rch 116 11 [some (mvR 68), some (mvI x3)] [mvI 0] (97, g, h) _
              refine rc_zret mq116 (mvDec_of cd116 rfl) (Or.inl rfl) ?_
              show Rch 162 5 [some (mvR 68), some (mvI x3), some (mvI x4)] [mvI 0] (97, g, h) _
              refine rc_ifT (t := 28) mq162 (mvDec_of cd162 rfl) rfl rfl ?_
              refine rc_iconst mq162 (mvDec_of cd162 rfl) (by decide) ?_
              refine rc_zret mq162 (mvDec_of cd162 rfl) (Or.inl rfl) ?_
              show Rch 191 16 [some (mvR 68), some (mvI x1), some (mvI x2), some (mvI x3), some (mvI x4)] [mvI 0] (97, g, h) _
              refine rc_ifT (t := 31) mq191 (mvDec_of cd191 rfl) rfl rfl ?_
              refine rc_bipush mq191 (mvDec_of cd191 rfl) (by decide) ?_
              exact rc_iret mq191 (mvDec_of cd191 rfl) ⟨_, _, rfl, rfl, H⟩
            · replace H := H.2 hc
              refine rc_iconst mq38 (mvDec_of cd38 rfl) (by decide) ?_
              refine rc_goto (t := 15) mq38 (mvDec_of cd38 rfl) rfl ?_
              refine rc_zret mq38 (mvDec_of cd38 rfl) (Or.inr rfl) ?_
              show Rch 116 11 [some (mvR 68), some (mvI x3)] [mvI 1] (97, g, h) _
              refine rc_zret mq116 (mvDec_of cd116 rfl) (Or.inr rfl) ?_
              show Rch 162 5 [some (mvR 68), some (mvI x3), some (mvI x4)] [mvI 1] (97, g, h) _
              refine rc_ifF (t := 28) mq162 (mvDec_of cd162 rfl) rfl rfl ?_
              refine rc_iload_n mq162 (mvDec_of cd162 rfl) rfl ?_
              refine rc_iconst mq162 (mvDec_of cd162 rfl) (by decide) ?_
              refine rc_aload_n mq162 (mvDec_of cd162 rfl) rfl ?_
              refine rc_getR 69 mq162 (mvDec_of cd162 rfl) fl_10_7 mis68 rfl (gr_68_1 hG) (by decide) ?_
              refine rc_iload_n mq162 (mvDec_of cd162 rfl) rfl ?_
              obtain ⟨⟨hb0, hb1⟩, H⟩ := H
              refine rc_iald mq162 (mvDec_of cd162 rfl) mis69 hb0 hb1 ?_
              refine rc_iconst mq162 (mvDec_of cd162 rfl) (by decide) ?_
              refine rc_isub mq162 (mvDec_of cd162 rfl) ?_
              refine rc_callS [mvI x4, mvI 0, mvI (mw ((h 69 x3) - 1))] [] [some (mvI x4), some (mvI 0), some (mvI (mw ((h 69 x3) - 1)))] mq162 (mvDec_of cd162 rfl) lk_10_95 mq38 (by decide) rfl rfl (Nat.le_of_ble_eq_true rfl) (Nat.le_of_ble_eq_true rfl) (by decide) rfl ?_
              refine rc_iload_n mq38 (mvDec_of cd38 rfl) rfl ?_
              refine rc_iload_n mq38 (mvDec_of cd38 rfl) rfl ?_
              refine rc_icmp_lt (t := 14) mq38 (mvDec_of cd38 rfl) rfl (fun hc => ?_) (fun hc => ?_)
              · replace H := H.1 hc
                refine rc_iconst mq38 (mvDec_of cd38 rfl) (by decide) ?_
                refine rc_zret mq38 (mvDec_of cd38 rfl) (Or.inl rfl) ?_
                show Rch 162 21 [some (mvR 68), some (mvI x3), some (mvI x4)] [mvI 0] (97, g, h) _
                refine rc_ifT (t := 28) mq162 (mvDec_of cd162 rfl) rfl rfl ?_
                refine rc_iconst mq162 (mvDec_of cd162 rfl) (by decide) ?_
                refine rc_zret mq162 (mvDec_of cd162 rfl) (Or.inl rfl) ?_
                show Rch 191 16 [some (mvR 68), some (mvI x1), some (mvI x2), some (mvI x3), some (mvI x4)] [mvI 0] (97, g, h) _
                refine rc_ifT (t := 31) mq191 (mvDec_of cd191 rfl) rfl rfl ?_
                refine rc_bipush mq191 (mvDec_of cd191 rfl) (by decide) ?_
                exact rc_iret mq191 (mvDec_of cd191 rfl) ⟨_, _, rfl, rfl, H⟩
              · replace H := H.2 hc
                refine rc_iload_n mq38 (mvDec_of cd38 rfl) rfl ?_
                refine rc_iload_n mq38 (mvDec_of cd38 rfl) rfl ?_
                refine rc_icmp_gt (t := 14) mq38 (mvDec_of cd38 rfl) rfl (fun hc => ?_) (fun hc => ?_)
                · replace H := H.1 hc
                  refine rc_iconst mq38 (mvDec_of cd38 rfl) (by decide) ?_
                  refine rc_zret mq38 (mvDec_of cd38 rfl) (Or.inl rfl) ?_
                  show Rch 162 21 [some (mvR 68), some (mvI x3), some (mvI x4)] [mvI 0] (97, g, h) _
                  refine rc_ifT (t := 28) mq162 (mvDec_of cd162 rfl) rfl rfl ?_
                  refine rc_iconst mq162 (mvDec_of cd162 rfl) (by decide) ?_
                  refine rc_zret mq162 (mvDec_of cd162 rfl) (Or.inl rfl) ?_
                  show Rch 191 16 [some (mvR 68), some (mvI x1), some (mvI x2), some (mvI x3), some (mvI x4)] [mvI 0] (97, g, h) _
                  refine rc_ifT (t := 31) mq191 (mvDec_of cd191 rfl) rfl rfl ?_
                  refine rc_bipush mq191 (mvDec_of cd191 rfl) (by decide) ?_
                  exact rc_iret mq191 (mvDec_of cd191 rfl) ⟨_, _, rfl, rfl, H⟩
                · replace H := H.2 hc
                  refine rc_iconst mq38 (mvDec_of cd38 rfl) (by decide) ?_
                  refine rc_goto (t := 15) mq38 (mvDec_of cd38 rfl) rfl ?_
                  refine rc_zret mq38 (mvDec_of cd38 rfl) (Or.inr rfl) ?_
                  show Rch 162 21 [some (mvR 68), some (mvI x3), some (mvI x4)] [mvI 1] (97, g, h) _
                  refine rc_ifF (t := 28) mq162 (mvDec_of cd162 rfl) rfl rfl ?_
                  refine rc_iconst mq162 (mvDec_of cd162 rfl) (by decide) ?_
                  refine rc_goto (t := 29) mq162 (mvDec_of cd162 rfl) rfl ?_
                  refine rc_zret mq162 (mvDec_of cd162 rfl) (Or.inr rfl) ?_
                  show Rch 191 16 [some (mvR 68), some (mvI x1), some (mvI x2), some (mvI x3), some (mvI x4)] [mvI 1] (97, g, h) _
                  refine rc_ifF (t := 31) mq191 (mvDec_of cd191 rfl) rfl rfl ?_
                  refine rc_aload_n mq191 (mvDec_of cd191 rfl) rfl ?_
                  refine rc_iload_n mq191 (mvDec_of cd191 rfl) rfl ?_
                  refine rc_iload_n mq191 (mvDec_of cd191 rfl) rfl ?_
                  refine rc_iload_n mq191 (mvDec_of cd191 rfl) rfl ?_
                  refine rc_iload mq191 (mvDec_of cd191 rfl) rfl ?_
                  refine rc_callV [mvR 68, mvI x1, mvI x2, mvI x3, mvI x4] [] [some (mvR 68), some (mvI x1), some (mvI x2), some (mvI x3), some (mvI x4)] mq191 (mvDec_of cd191 rfl) lk_10_193 mq118 (by decide) rfl rfl (Nat.le_of_ble_eq_true rfl) (Nat.le_of_ble_eq_true rfl) (by decide) rfl mis68 rfl (ri_bind H (fun r2 h1 H => ?_))
                  refine rc_goto (t := 33) mq191 (mvDec_of cd191 rfl) rfl ?_
                  exact rc_iret mq191 (mvDec_of cd191 rfl) ⟨_, _, rfl, rfl, H⟩
abbrev MD_holds (g : Nat → Nat → Nat) (h : Nat → Int → Int)  (K : Int → (Nat → Int → Int) → Prop) : Prop := RI 192 0 [some (mvR 68)] [] g h K
theorem MD_holds_wp {sw : Bool} {g : Nat → Nat → Nat} {h : Nat → Int → Int}  {K : Int → (Nat → Int → Int) → Prop} (hG : Gok sw g)  (H :
  ((((h 68 7) < 0 ∨ 2 < (h 68 7)) →
    MD_spreadNow g h (fun r2 h1 =>
      ((r2 < (h1 68 8) →
        K 0 h1) ∧
      ((h1 68 8) ≤ r2 →
        K 1 h1)))) ∧
  ((h 68 7) = 0 →
    MD_areAllowed g h (fun r4 h3 =>
      (r4 = 0 ∨ r4 = 1) ∧ K r4 h3)) ∧
  ((h 68 7) = 1 →
    MD_sumOfValues g h (fun r6 h5 =>
      ((¬ r6 = (h5 68 8) →
        K 0 h5) ∧
      (r6 = (h5 68 8) →
        K 1 h5)))) ∧
  ((h 68 7) = 2 →
    MD_underAll g h (fun r8 h7 =>
      ((¬ r8 = 0 →
        K 0 h7) ∧
      (r8 = 0 →
        K 1 h7)))))) : MD_holds g h  K := by
  refine rc_aload_n mq192 (mvDec_of cd192 rfl) rfl ?_
  refine rc_getI 7 mq192 (mvDec_of cd192 rfl) fl_10_213 mis68 rfl (by decide) (by decide) ?_
  have hsw : ((h 68 7) < 0 ∨ 2 < (h 68 7)) ∨ (h 68 7) = 0 ∨ (h 68 7) = 1 ∨ (h 68 7) = 2 := by omega
  rcases hsw with hsw | hsw | hsw | hsw
  · replace H := H.1 hsw
    refine rc_swD (t := 67) mq192 (mvDec_of cd192 rfl) hsw rfl ?_
    refine rc_aload_n mq192 (mvDec_of cd192 rfl) rfl ?_
    refine rc_callV [mvR 68] [] [some (mvR 68), none, none, none, none] mq192 (mvDec_of cd192 rfl) lk_10_228 mq123 (by decide) rfl rfl (Nat.le_of_ble_eq_true rfl) (Nat.le_of_ble_eq_true rfl) (by decide) rfl mis68 rfl (ri_bind H (fun r2 h1 H => ?_))
    refine rc_aload_n mq192 (mvDec_of cd192 rfl) rfl ?_
    refine rc_getI 8 mq192 (mvDec_of cd192 rfl) fl_10_222 mis68 rfl (by decide) (by decide) ?_
    refine rc_icmp_lt (t := 82) mq192 (mvDec_of cd192 rfl) rfl (fun hc => ?_) (fun hc => ?_)
    · replace H := H.1 hc
      refine rc_iconst mq192 (mvDec_of cd192 rfl) (by decide) ?_
      exact rc_zret mq192 (mvDec_of cd192 rfl) (Or.inl rfl) ⟨_, _, rfl, rfl, H⟩
    · replace H := H.2 hc
      refine rc_iconst mq192 (mvDec_of cd192 rfl) (by decide) ?_
      refine rc_goto (t := 83) mq192 (mvDec_of cd192 rfl) rfl ?_
      exact rc_zret mq192 (mvDec_of cd192 rfl) (Or.inr rfl) ⟨_, _, rfl, rfl, H⟩
  · replace H := H.2.1 hsw
    refine rc_swI (t := 32) mq192 (mvDec_of cd192 rfl) (by omega) (by rw [hsw]; rfl) rfl ?_
    refine rc_aload_n mq192 (mvDec_of cd192 rfl) rfl ?_
    refine rc_callV [mvR 68] [] [some (mvR 68), none, none] mq192 (mvDec_of cd192 rfl) lk_10_216 mq163 (by decide) rfl rfl (Nat.le_of_ble_eq_true rfl) (Nat.le_of_ble_eq_true rfl) (by decide) rfl mis68 rfl (ri_bind H (fun r4 h3 H => ?_))
    exact rc_zret mq192 (mvDec_of cd192 rfl) H.1 ⟨_, _, rfl, rfl, H.2⟩
  · replace H := H.2.2.1 hsw
    refine rc_swI (t := 37) mq192 (mvDec_of cd192 rfl) (by omega) (by rw [hsw]; rfl) rfl ?_
    refine rc_aload_n mq192 (mvDec_of cd192 rfl) rfl ?_
    refine rc_callV [mvR 68] [] [some (mvR 68), none, none] mq192 (mvDec_of cd192 rfl) lk_10_219 mq122 (by decide) rfl rfl (Nat.le_of_ble_eq_true rfl) (Nat.le_of_ble_eq_true rfl) (by decide) rfl mis68 rfl (ri_bind H (fun r6 h5 H => ?_))
    refine rc_aload_n mq192 (mvDec_of cd192 rfl) rfl ?_
    refine rc_getI 8 mq192 (mvDec_of cd192 rfl) fl_10_222 mis68 rfl (by decide) (by decide) ?_
    refine rc_icmp_ne (t := 52) mq192 (mvDec_of cd192 rfl) rfl (fun hc => ?_) (fun hc => ?_)
    · replace H := H.1 hc
      refine rc_iconst mq192 (mvDec_of cd192 rfl) (by decide) ?_
      exact rc_zret mq192 (mvDec_of cd192 rfl) (Or.inl rfl) ⟨_, _, rfl, rfl, H⟩
    · replace H := H.2 hc
      refine rc_iconst mq192 (mvDec_of cd192 rfl) (by decide) ?_
      refine rc_goto (t := 53) mq192 (mvDec_of cd192 rfl) rfl ?_
      exact rc_zret mq192 (mvDec_of cd192 rfl) (Or.inr rfl) ⟨_, _, rfl, rfl, H⟩
  · replace H := H.2.2.2 hsw
    refine rc_swI (t := 54) mq192 (mvDec_of cd192 rfl) (by omega) (by rw [hsw]; rfl) rfl ?_
    refine rc_aload_n mq192 (mvDec_of cd192 rfl) rfl ?_
    refine rc_callV [mvR 68] [] [some (mvR 68), none, none, none, none] mq192 (mvDec_of cd192 rfl) lk_10_225 mq120 (by decide) rfl rfl (Nat.le_of_ble_eq_true rfl) (Nat.le_of_ble_eq_true rfl) (by decide) rfl mis68 rfl (ri_bind H (fun r8 h7 H => ?_))
    refine rc_if_ne (t := 65) mq192 (mvDec_of cd192 rfl) rfl (fun hc => ?_) (fun hc => ?_)
    · replace H := H.1 hc
      refine rc_iconst mq192 (mvDec_of cd192 rfl) (by decide) ?_
      exact rc_zret mq192 (mvDec_of cd192 rfl) (Or.inl rfl) ⟨_, _, rfl, rfl, H⟩
    · replace H := H.2 hc
      refine rc_iconst mq192 (mvDec_of cd192 rfl) (by decide) ?_
      refine rc_goto (t := 66) mq192 (mvDec_of cd192 rfl) rfl ?_
      exact rc_zret mq192 (mvDec_of cd192 rfl) (Or.inr rfl) ⟨_, _, rfl, rfl, H⟩
abbrev MD_intervals (g : Nat → Nat → Nat) (h : Nat → Int → Int) (x1 : Int) (K : Int → (Nat → Int → Int) → Prop) : Prop := RI 193 0 [some (mvR 68), some (mvI x1), none] [] g h K
abbrev MD_intervals_2 (g : Nat → Nat → Nat) (h : Nat → Int → Int) (l1 : Int) (l2 : Int) (K : Int → (Nat → Int → Int) → Prop) : Prop := RI 193 2 [some (mvR 68), some (mvI l1), some (mvI l2)] [] g h K
theorem MD_intervals_wp {sw : Bool} {g : Nat → Nat → Nat} {h : Nat → Int → Int} {x1 : Int} {K : Int → (Nat → Int → Int) → Prop} (hG : Gok sw g)  (H :
  MD_intervals_2 g h x1 0 K) : MD_intervals g h x1 K := by
  refine rc_iconst mq193 (mvDec_of cd193 rfl) (by decide) ?_
  refine rc_istore_n [some (mvR 68), some (mvI x1), some (mvI 0)] mq193 (mvDec_of cd193 rfl) rfl ?_
  exact H
theorem MD_intervals_2_wp {sw : Bool} {g : Nat → Nat → Nat} {h : Nat → Int → Int} {l1 : Int} {l2 : Int} {K : Int → (Nat → Int → Int) → Prop} (hG : Gok sw g)  (H :
  MD_beginOf g h l1 l2 (fun r2 h1 =>
    ((r2 = (-1) →
      K l2 h1) ∧
    (¬ r2 = (-1) →
      MD_intervals_2 g h1 l1 (mw (l2 + 1)) K)))) : MD_intervals_2 g h l1 l2 K := by
  refine rc_aload_n mq193 (mvDec_of cd193 rfl) rfl ?_
  refine rc_iload_n mq193 (mvDec_of cd193 rfl) rfl ?_
  refine rc_iload_n mq193 (mvDec_of cd193 rfl) rfl ?_
  refine rc_callV [mvR 68, mvI l1, mvI l2] [] [some (mvR 68), some (mvI l1), some (mvI l2), none, none, none] mq193 (mvDec_of cd193 rfl) lk_10_314 mq173 (by decide) rfl rfl (Nat.le_of_ble_eq_true rfl) (Nat.le_of_ble_eq_true rfl) (by decide) rfl mis68 rfl (ri_bind H (fun r2 h1 H => ?_))
  refine rc_iconst mq193 (mvDec_of cd193 rfl) (by decide) ?_
  refine rc_icmp_eq (t := 18) mq193 (mvDec_of cd193 rfl) rfl (fun hc => ?_) (fun hc => ?_)
  · replace H := H.1 hc
    refine rc_iload_n mq193 (mvDec_of cd193 rfl) rfl ?_
    exact rc_iret mq193 (mvDec_of cd193 rfl) ⟨_, _, rfl, rfl, H⟩
  · replace H := H.2 hc
    refine rc_iinc [some (mvR 68), some (mvI l1), some (mvI (mw (l2 + 1)))] mq193 (mvDec_of cd193 rfl) rfl rfl ?_
    refine rc_goto (t := 2) mq193 (mvDec_of cd193 rfl) rfl ?_
    exact H
abbrev MD_interval (g : Nat → Nat → Nat) (h : Nat → Int → Int) (x1 : Int) (x2 : Int) (x3 : Int) (K : Int → (Nat → Int → Int) → Prop) : Prop := RI 194 0 [some (mvR 68), some (mvI x1), some (mvI x2), some (mvI x3), none] [] g h K
theorem MD_interval_wp {sw : Bool} {g : Nat → Nat → Nat} {h : Nat → Int → Int} {x1 : Int} {x2 : Int} {x3 : Int} {K : Int → (Nat → Int → Int) → Prop} (hG : Gok sw g)  (H :
  (((h 68 0) ≤ 0 →
    K (-103) h) ∧
  (0 < (h 68 0) →
    ((¬ (h 68 7) = 0 →
      K (-103) h) ∧
    ((h 68 7) = 0 →
      ((x1 < 0 →
        K (-101) h) ∧
      (0 ≤ x1 →
        (((mw ((h 68 0) - 1)) < x1 →
          K (-101) h) ∧
        (x1 ≤ (mw ((h 68 0) - 1)) →
          MD_beginOf g h x1 x2 (fun r2 h1 =>
            ((¬ r2 = (-1) →
              MD_beginOf g h1 x1 x2 (fun r4 h3 =>
                ((x3 < 0 →
                  K (-102) h3) ∧
                (0 ≤ x3 →
                  ((1 < x3 →
                    K (-102) h3) ∧
                  (x3 ≤ 1 →
                    ((¬ x3 = 0 →
                      MD_endOf g h3 x1 r4 (fun r6 h5 =>
                        K r6 h5)) ∧
                    (x3 = 0 →
                      K r4 h3)))))))) ∧
            (r2 = (-1) →
              K (-101) h1)))))))))))) : MD_interval g h x1 x2 x3 K := by
  refine rc_aload_n mq194 (mvDec_of cd194 rfl) rfl ?_
  refine rc_callV [mvR 68] [] [some (mvR 68)] mq194 (mvDec_of cd194 rfl) lk_10_308 mq131 (by decide) rfl rfl (Nat.le_of_ble_eq_true rfl) (Nat.le_of_ble_eq_true rfl) (by decide) rfl mis68 rfl ?_
  refine rc_aload_n mq131 (mvDec_of cd131 rfl) rfl ?_
  refine rc_callV [mvR 68] [] [some (mvR 68)] mq131 (mvDec_of cd131 rfl) lk_10_262 mq43 (by decide) rfl rfl (Nat.le_of_ble_eq_true rfl) (Nat.le_of_ble_eq_true rfl) (by decide) rfl mis68 rfl ?_
  refine rc_aload_n mq43 (mvDec_of cd43 rfl) rfl ?_
  refine rc_getI 0 mq43 (mvDec_of cd43 rfl) fl_10_138 mis68 rfl (by decide) (by decide) ?_
  refine rc_if_le (t := 11) mq43 (mvDec_of cd43 rfl) rfl (fun hc => ?_) (fun hc => ?_)
  · replace H := H.1 hc
    refine rc_iconst mq43 (mvDec_of cd43 rfl) (by decide) ?_
    refine rc_zret mq43 (mvDec_of cd43 rfl) (Or.inl rfl) ?_
    show Rch 131 4 [some (mvR 68)] [mvI 0] (97, g, h) _
    refine rc_ifT (t := 18) mq131 (mvDec_of cd131 rfl) rfl rfl ?_
    refine rc_iconst mq131 (mvDec_of cd131 rfl) (by decide) ?_
    refine rc_zret mq131 (mvDec_of cd131 rfl) (Or.inl rfl) ?_
    show Rch 194 4 [some (mvR 68), some (mvI x1), some (mvI x2), some (mvI x3), none] [mvI 0] (97, g, h) _
    refine rc_ifF (t := 10) mq194 (mvDec_of cd194 rfl) rfl rfl ?_
    refine rc_bipush mq194 (mvDec_of cd194 rfl) (by decide) ?_
    exact rc_iret mq194 (mvDec_of cd194 rfl) ⟨_, _, rfl, rfl, H⟩
  · replace H := H.2 hc
    refine rc_iconst mq43 (mvDec_of cd43 rfl) (by decide) ?_
    refine rc_goto (t := 12) mq43 (mvDec_of cd43 rfl) rfl ?_
    refine rc_zret mq43 (mvDec_of cd43 rfl) (Or.inr rfl) ?_
    show Rch 131 4 [some (mvR 68)] [mvI 1] (97, g, h) _
    refine rc_ifF (t := 18) mq131 (mvDec_of cd131 rfl) rfl rfl ?_
    refine rc_aload_n mq131 (mvDec_of cd131 rfl) rfl ?_
    refine rc_getI 7 mq131 (mvDec_of cd131 rfl) fl_10_213 mis68 rfl (by decide) (by decide) ?_
    refine rc_if_ne (t := 18) mq131 (mvDec_of cd131 rfl) rfl (fun hc => ?_) (fun hc => ?_)
    · replace H := H.1 hc
      refine rc_iconst mq131 (mvDec_of cd131 rfl) (by decide) ?_
      refine rc_zret mq131 (mvDec_of cd131 rfl) (Or.inl rfl) ?_
      show Rch 194 4 [some (mvR 68), some (mvI x1), some (mvI x2), some (mvI x3), none] [mvI 0] (97, g, h) _
      refine rc_ifF (t := 10) mq194 (mvDec_of cd194 rfl) rfl rfl ?_
      refine rc_bipush mq194 (mvDec_of cd194 rfl) (by decide) ?_
      exact rc_iret mq194 (mvDec_of cd194 rfl) ⟨_, _, rfl, rfl, H⟩
    · replace H := H.2 hc
      refine rc_iconst mq131 (mvDec_of cd131 rfl) (by decide) ?_
      refine rc_goto (t := 19) mq131 (mvDec_of cd131 rfl) rfl ?_
      refine rc_zret mq131 (mvDec_of cd131 rfl) (Or.inr rfl) ?_
      show Rch 194 4 [some (mvR 68), some (mvI x1), some (mvI x2), some (mvI x3), none] [mvI 1] (97, g, h) _
      refine rc_ifT (t := 10) mq194 (mvDec_of cd194 rfl) rfl rfl ?_
      refine rc_aload_n mq194 (mvDec_of cd194 rfl) rfl ?_
      refine rc_iload_n mq194 (mvDec_of cd194 rfl) rfl ?_
      refine rc_callV [mvR 68, mvI x1] [] [some (mvR 68), some (mvI x1)] mq194 (mvDec_of cd194 rfl) lk_10_170 mq116 (by decide) rfl rfl (Nat.le_of_ble_eq_true rfl) (Nat.le_of_ble_eq_true rfl) (by decide) rfl mis68 rfl ?_
      refine rc_iload_n mq116 (mvDec_of cd116 rfl) rfl ?_
      refine rc_iconst mq116 (mvDec_of cd116 rfl) (by decide) ?_
      refine rc_aload_n mq116 (mvDec_of cd116 rfl) rfl ?_
      refine rc_getI 0 mq116 (mvDec_of cd116 rfl) fl_10_138 mis68 rfl (by decide) (by decide) ?_
      refine rc_iconst mq116 (mvDec_of cd116 rfl) (by decide) ?_
      refine rc_isub mq116 (mvDec_of cd116 rfl) ?_
      refine rc_callS [mvI x1, mvI 0, mvI (mw ((h 68 0) - 1))] [] [some (mvI x1), some (mvI 0), some (mvI (mw ((h 68 0) - 1)))] mq116 (mvDec_of cd116 rfl) lk_10_95 mq38 (by decide) rfl rfl (Nat.le_of_ble_eq_true rfl) (Nat.le_of_ble_eq_true rfl) (by decide) rfl ?_
      refine rc_iload_n mq38 (mvDec_of cd38 rfl) rfl ?_
      refine rc_iload_n mq38 (mvDec_of cd38 rfl) rfl ?_
      refine rc_icmp_lt (t := 14) mq38 (mvDec_of cd38 rfl) rfl (fun hc => ?_) (fun hc => ?_)
      · replace H := H.1 hc
        refine rc_iconst mq38 (mvDec_of cd38 rfl) (by decide) ?_
        refine rc_zret mq38 (mvDec_of cd38 rfl) (Or.inl rfl) ?_
        show Rch 116 11 [some (mvR 68), some (mvI x1)] [mvI 0] (97, g, h) _
        refine rc_zret mq116 (mvDec_of cd116 rfl) (Or.inl rfl) ?_
        show Rch 194 15 [some (mvR 68), some (mvI x1), some (mvI x2), some (mvI x3), none] [mvI 0] (97, g, h) _
        refine rc_ifT (t := 28) mq194 (mvDec_of cd194 rfl) rfl rfl ?_
        refine rc_bipush mq194 (mvDec_of cd194 rfl) (by decide) ?_
        exact rc_iret mq194 (mvDec_of cd194 rfl) ⟨_, _, rfl, rfl, H⟩
      · replace H := H.2 hc
        refine rc_iload_n mq38 (mvDec_of cd38 rfl) rfl ?_
        refine rc_iload_n mq38 (mvDec_of cd38 rfl) rfl ?_
        refine rc_icmp_gt (t := 14) mq38 (mvDec_of cd38 rfl) rfl (fun hc => ?_) (fun hc => ?_)
        · replace H := H.1 hc
          refine rc_iconst mq38 (mvDec_of cd38 rfl) (by decide) ?_
          refine rc_zret mq38 (mvDec_of cd38 rfl) (Or.inl rfl) ?_
          show Rch 116 11 [some (mvR 68), some (mvI x1)] [mvI 0] (97, g, h) _
          refine rc_zret mq116 (mvDec_of cd116 rfl) (Or.inl rfl) ?_
          show Rch 194 15 [some (mvR 68), some (mvI x1), some (mvI x2), some (mvI x3), none] [mvI 0] (97, g, h) _
          refine rc_ifT (t := 28) mq194 (mvDec_of cd194 rfl) rfl rfl ?_
          refine rc_bipush mq194 (mvDec_of cd194 rfl) (by decide) ?_
          exact rc_iret mq194 (mvDec_of cd194 rfl) ⟨_, _, rfl, rfl, H⟩
        · replace H := H.2 hc
          refine rc_iconst mq38 (mvDec_of cd38 rfl) (by decide) ?_
          refine rc_goto (t := 15) mq38 (mvDec_of cd38 rfl) rfl ?_
          refine rc_zret mq38 (mvDec_of cd38 rfl) (Or.inr rfl) ?_
          show Rch 116 11 [some (mvR 68), some (mvI x1)] [mvI 1] (97, g, h) _
          refine rc_zret mq116 (mvDec_of cd116 rfl) (Or.inr rfl) ?_
          show Rch 194 15 [some (mvR 68), some (mvI x1), some (mvI x2), some (mvI x3), none] [mvI 1] (97, g, h) _
          refine rc_ifF (t := 28) mq194 (mvDec_of cd194 rfl) rfl rfl ?_
          refine rc_aload_n mq194 (mvDec_of cd194 rfl) rfl ?_
          refine rc_iload_n mq194 (mvDec_of cd194 rfl) rfl ?_
          refine rc_iload_n mq194 (mvDec_of cd194 rfl) rfl ?_
          refine rc_callV [mvR 68, mvI x1, mvI x2] [] [some (mvR 68), some (mvI x1), some (mvI x2), none, none, none] mq194 (mvDec_of cd194 rfl) lk_10_314 mq173 (by decide) rfl rfl (Nat.le_of_ble_eq_true rfl) (Nat.le_of_ble_eq_true rfl) (by decide) rfl mis68 rfl (ri_bind H (fun r2 h1 H => ?_))
          refine rc_iconst mq194 (mvDec_of cd194 rfl) (by decide) ?_
          refine rc_icmp_ne (t := 31) mq194 (mvDec_of cd194 rfl) rfl (fun hc => ?_) (fun hc => ?_)
          · replace H := H.1 hc
            refine rc_aload_n mq194 (mvDec_of cd194 rfl) rfl ?_
            refine rc_iload_n mq194 (mvDec_of cd194 rfl) rfl ?_
            refine rc_iload_n mq194 (mvDec_of cd194 rfl) rfl ?_
            refine rc_callV [mvR 68, mvI x1, mvI x2] [] [some (mvR 68), some (mvI x1), some (mvI x2), none, none, none] mq194 (mvDec_of cd194 rfl) lk_10_314 mq173 (by decide) rfl rfl (Nat.le_of_ble_eq_true rfl) (Nat.le_of_ble_eq_true rfl) (by decide) rfl mis68 rfl (ri_bind H (fun r4 h3 H => ?_))
            refine rc_istore [some (mvR 68), some (mvI x1), some (mvI x2), some (mvI x3), some (mvI r4)] mq194 (mvDec_of cd194 rfl) rfl ?_
            refine rc_iload_n mq194 (mvDec_of cd194 rfl) rfl ?_
            refine rc_iconst mq194 (mvDec_of cd194 rfl) (by decide) ?_
            refine rc_iconst mq194 (mvDec_of cd194 rfl) (by decide) ?_
            refine rc_callS [mvI x3, mvI 0, mvI 1] [] [some (mvI x3), some (mvI 0), some (mvI 1)] mq194 (mvDec_of cd194 rfl) lk_10_95 mq38 (by decide) rfl rfl (Nat.le_of_ble_eq_true rfl) (Nat.le_of_ble_eq_true rfl) (by decide) rfl ?_
            refine rc_iload_n mq38 (mvDec_of cd38 rfl) rfl ?_
            refine rc_iload_n mq38 (mvDec_of cd38 rfl) rfl ?_
            refine rc_icmp_lt (t := 14) mq38 (mvDec_of cd38 rfl) rfl (fun hc => ?_) (fun hc => ?_)
            · replace H := H.1 hc
              refine rc_iconst mq38 (mvDec_of cd38 rfl) (by decide) ?_
              refine rc_zret mq38 (mvDec_of cd38 rfl) (Or.inl rfl) ?_
              show Rch 194 45 [some (mvR 68), some (mvI x1), some (mvI x2), some (mvI x3), some (mvI r4)] [mvI 0] (97, g, h3) _
              refine rc_ifF (t := 53) mq194 (mvDec_of cd194 rfl) rfl rfl ?_
              refine rc_bipush mq194 (mvDec_of cd194 rfl) (by decide) ?_
              refine rc_goto (t := 69) mq194 (mvDec_of cd194 rfl) rfl ?_
              exact rc_iret mq194 (mvDec_of cd194 rfl) ⟨_, _, rfl, rfl, H⟩
            · replace H := H.2 hc
              refine rc_iload_n mq38 (mvDec_of cd38 rfl) rfl ?_
              refine rc_iload_n mq38 (mvDec_of cd38 rfl) rfl ?_
              refine rc_icmp_gt (t := 14) mq38 (mvDec_of cd38 rfl) rfl (fun hc => ?_) (fun hc => ?_)
              · replace H := H.1 hc
                refine rc_iconst mq38 (mvDec_of cd38 rfl) (by decide) ?_
                refine rc_zret mq38 (mvDec_of cd38 rfl) (Or.inl rfl) ?_
                show Rch 194 45 [some (mvR 68), some (mvI x1), some (mvI x2), some (mvI x3), some (mvI r4)] [mvI 0] (97, g, h3) _
                refine rc_ifF (t := 53) mq194 (mvDec_of cd194 rfl) rfl rfl ?_
                refine rc_bipush mq194 (mvDec_of cd194 rfl) (by decide) ?_
                refine rc_goto (t := 69) mq194 (mvDec_of cd194 rfl) rfl ?_
                exact rc_iret mq194 (mvDec_of cd194 rfl) ⟨_, _, rfl, rfl, H⟩
              · replace H := H.2 hc
                refine rc_iconst mq38 (mvDec_of cd38 rfl) (by decide) ?_
                refine rc_goto (t := 15) mq38 (mvDec_of cd38 rfl) rfl ?_
                refine rc_zret mq38 (mvDec_of cd38 rfl) (Or.inr rfl) ?_
                show Rch 194 45 [some (mvR 68), some (mvI x1), some (mvI x2), some (mvI x3), some (mvI r4)] [mvI 1] (97, g, h3) _
                refine rc_ifT (t := 53) mq194 (mvDec_of cd194 rfl) rfl rfl ?_
                refine rc_iload_n mq194 (mvDec_of cd194 rfl) rfl ?_
                refine rc_if_ne (t := 62) mq194 (mvDec_of cd194 rfl) rfl (fun hc => ?_) (fun hc => ?_)
                · replace H := H.1 hc
                  refine rc_aload_n mq194 (mvDec_of cd194 rfl) rfl ?_
                  refine rc_iload_n mq194 (mvDec_of cd194 rfl) rfl ?_
                  refine rc_iload mq194 (mvDec_of cd194 rfl) rfl ?_
                  refine rc_callV [mvR 68, mvI x1, mvI r4] [] [some (mvR 68), some (mvI x1), some (mvI r4), none] mq194 (mvDec_of cd194 rfl) lk_10_317 mq174 (by decide) rfl rfl (Nat.le_of_ble_eq_true rfl) (Nat.le_of_ble_eq_true rfl) (by decide) rfl mis68 rfl (ri_bind H (fun r6 h5 H => ?_))
                  exact rc_iret mq194 (mvDec_of cd194 rfl) ⟨_, _, rfl, rfl, H⟩
                · replace H := H.2 hc
                  refine rc_iload mq194 (mvDec_of cd194 rfl) rfl ?_
                  refine rc_goto (t := 69) mq194 (mvDec_of cd194 rfl) rfl ?_
                  exact rc_iret mq194 (mvDec_of cd194 rfl) ⟨_, _, rfl, rfl, H⟩
          · replace H := H.2 hc
            refine rc_bipush mq194 (mvDec_of cd194 rfl) (by decide) ?_
            exact rc_iret mq194 (mvDec_of cd194 rfl) ⟨_, _, rfl, rfl, H⟩
abbrev MD_giveBack (g : Nat → Nat → Nat) (h : Nat → Int → Int)  (K : (Nat → Int → Int) → Prop) : Prop := RV 195 0 [some (mvR 68), none] [] g h K
abbrev MD_giveBack_2 (g : Nat → Nat → Nat) (h : Nat → Int → Int) (l1 : Int) (K : (Nat → Int → Int) → Prop) : Prop := RV 195 2 [some (mvR 68), some (mvI l1)] [] g h K
abbrev MD_giveBack_27 (g : Nat → Nat → Nat) (h : Nat → Int → Int) (l1 : Int) (K : (Nat → Int → Int) → Prop) : Prop := RV 195 27 [some (mvR 68), some (mvI l1)] [] g h K
theorem MD_giveBack_wp {sw : Bool} {g : Nat → Nat → Nat} {h : Nat → Int → Int}  {K : (Nat → Int → Int) → Prop} (hG : Gok sw g)  (H :
  MD_giveBack_2 g h 0 K) : MD_giveBack g h  K := by
  refine rc_iconst mq195 (mvDec_of cd195 rfl) (by decide) ?_
  refine rc_istore_n [some (mvR 68), some (mvI 0)] mq195 (mvDec_of cd195 rfl) rfl ?_
  exact H
theorem MD_giveBack_2_wp {sw : Bool} {g : Nat → Nat → Nat} {h : Nat → Int → Int} {l1 : Int} {K : (Nat → Int → Int) → Prop} (hG : Gok sw g)  (H :
  ((4 ≤ l1 →
    MD_giveBack_27 g h 0 K) ∧
  (l1 < 4 →
    (0 ≤ l1 ∧ l1 < 4) ∧
    (0 ≤ l1 ∧ l1 < 4) ∧
    (∀ h1, h1 = mvUpd h 69 l1 (h 91 l1) →
    MD_giveBack_2 g h1 (mw (l1 + 1)) K)))) : MD_giveBack_2 g h l1 K := by
  refine rc_iload_n mq195 (mvDec_of cd195 rfl) rfl ?_
  refine rc_iconst mq195 (mvDec_of cd195 rfl) (by decide) ?_
  refine rc_icmp_ge (t := 25) mq195 (mvDec_of cd195 rfl) rfl (fun hc => ?_) (fun hc => ?_)
  · replace H := H.1 hc
    refine rc_iconst mq195 (mvDec_of cd195 rfl) (by decide) ?_
    refine rc_istore_n [some (mvR 68), some (mvI 0)] mq195 (mvDec_of cd195 rfl) rfl ?_
    exact H
  · replace H := H.2 hc
    refine rc_aload_n mq195 (mvDec_of cd195 rfl) rfl ?_
    refine rc_getR 69 mq195 (mvDec_of cd195 rfl) fl_10_7 mis68 rfl (gr_68_1 hG) (by decide) ?_
    refine rc_iload_n mq195 (mvDec_of cd195 rfl) rfl ?_
    refine rc_aload_n mq195 (mvDec_of cd195 rfl) rfl ?_
    refine rc_getR 91 mq195 (mvDec_of cd195 rfl) fl_10_77 mis68 rfl (gr_68_36 hG) (by decide) ?_
    refine rc_iload_n mq195 (mvDec_of cd195 rfl) rfl ?_
    obtain ⟨⟨hb0, hb1⟩, H⟩ := H
    refine rc_iald mq195 (mvDec_of cd195 rfl) mis91 hb0 hb1 ?_
    obtain ⟨⟨hb0, hb1⟩, H⟩ := H
    refine rc_iast mq195 (mvDec_of cd195 rfl) mis69 hb0 hb1 ?_
    refine rc_heap (fun h1 hh => ?_)
    replace H := H h1 hh
    refine rc_iinc [some (mvR 68), some (mvI (mw (l1 + 1)))] mq195 (mvDec_of cd195 rfl) rfl rfl ?_
    refine rc_goto (t := 2) mq195 (mvDec_of cd195 rfl) rfl ?_
    exact H
theorem MD_giveBack_27_wp {sw : Bool} {g : Nat → Nat → Nat} {h : Nat → Int → Int} {l1 : Int} {K : (Nat → Int → Int) → Prop} (hG : Gok sw g)  (H :
  ((36 ≤ l1 →
    MD_layPartners g h (fun h1 =>
      MD_layVectors g h1 (fun h2 =>
        K h2))) ∧
  (l1 < 36 →
    (0 ≤ l1 ∧ l1 < 36) ∧
    (0 ≤ l1 ∧ l1 < 36) ∧
    (∀ h3, h3 = mvUpd h 70 l1 (h 92 l1) →
    (0 ≤ l1 ∧ l1 < 36) ∧
    (0 ≤ l1 ∧ l1 < 36) ∧
    (∀ h4, h4 = mvUpd h3 71 l1 (h3 93 l1) →
    MD_giveBack_27 g h4 (mw (l1 + 1)) K))))) : MD_giveBack_27 g h l1 K := by
  refine rc_iload_n mq195 (mvDec_of cd195 rfl) rfl ?_
  refine rc_bipush mq195 (mvDec_of cd195 rfl) (by decide) ?_
  refine rc_icmp_ge (t := 63) mq195 (mvDec_of cd195 rfl) rfl (fun hc => ?_) (fun hc => ?_)
  · replace H := H.1 hc
    refine rc_aload_n mq195 (mvDec_of cd195 rfl) rfl ?_
    refine rc_callV [mvR 68] [] [some (mvR 68), none, none, none, none] mq195 (mvDec_of cd195 rfl) lk_10_154 mq161 (by decide) rfl rfl (Nat.le_of_ble_eq_true rfl) (Nat.le_of_ble_eq_true rfl) (by decide) rfl mis68 rfl (rv_bind H (fun h1 H => ?_))
    refine rc_aload_n mq195 (mvDec_of cd195 rfl) rfl ?_
    refine rc_callV [mvR 68] [] [some (mvR 68), none, none, none] mq195 (mvDec_of cd195 rfl) lk_10_157 mq115 (by decide) rfl rfl (Nat.le_of_ble_eq_true rfl) (Nat.le_of_ble_eq_true rfl) (by decide) rfl mis68 rfl (rv_bind H (fun h2 H => ?_))
    exact rc_vret mq195 (mvDec_of cd195 rfl) ⟨_, rfl, rfl, H⟩
  · replace H := H.2 hc
    refine rc_aload_n mq195 (mvDec_of cd195 rfl) rfl ?_
    refine rc_getR 70 mq195 (mvDec_of cd195 rfl) fl_10_13 mis68 rfl (gr_68_2 hG) (by decide) ?_
    refine rc_iload_n mq195 (mvDec_of cd195 rfl) rfl ?_
    refine rc_aload_n mq195 (mvDec_of cd195 rfl) rfl ?_
    refine rc_getR 92 mq195 (mvDec_of cd195 rfl) fl_10_80 mis68 rfl (gr_68_37 hG) (by decide) ?_
    refine rc_iload_n mq195 (mvDec_of cd195 rfl) rfl ?_
    obtain ⟨⟨hb0, hb1⟩, H⟩ := H
    refine rc_iald mq195 (mvDec_of cd195 rfl) mis92 hb0 hb1 ?_
    obtain ⟨⟨hb0, hb1⟩, H⟩ := H
    refine rc_iast mq195 (mvDec_of cd195 rfl) mis70 hb0 hb1 ?_
    refine rc_heap (fun h3 hh => ?_)
    replace H := H h3 hh
    refine rc_aload_n mq195 (mvDec_of cd195 rfl) rfl ?_
    refine rc_getR 71 mq195 (mvDec_of cd195 rfl) fl_10_16 mis68 rfl (gr_68_3 hG) (by decide) ?_
    refine rc_iload_n mq195 (mvDec_of cd195 rfl) rfl ?_
    refine rc_aload_n mq195 (mvDec_of cd195 rfl) rfl ?_
    refine rc_getR 93 mq195 (mvDec_of cd195 rfl) fl_10_83 mis68 rfl (gr_68_38 hG) (by decide) ?_
    refine rc_iload_n mq195 (mvDec_of cd195 rfl) rfl ?_
    obtain ⟨⟨hb0, hb1⟩, H⟩ := H
    refine rc_iald mq195 (mvDec_of cd195 rfl) mis93 hb0 hb1 ?_
    obtain ⟨⟨hb0, hb1⟩, H⟩ := H
    refine rc_iast mq195 (mvDec_of cd195 rfl) mis71 hb0 hb1 ?_
    refine rc_heap (fun h4 hh => ?_)
    replace H := H h4 hh
    refine rc_iinc [some (mvR 68), some (mvI (mw (l1 + 1)))] mq195 (mvDec_of cd195 rfl) rfl rfl ?_
    refine rc_goto (t := 27) mq195 (mvDec_of cd195 rfl) rfl ?_
    exact H
abbrev MD_makeLean (g : Nat → Nat → Nat) (h : Nat → Int → Int)  (K : (Nat → Int → Int) → Prop) : Prop := RV 196 0 [some (mvR 68), none, none, none, none] [] g h K
abbrev MD_makeLean_2 (g : Nat → Nat → Nat) (h : Nat → Int → Int) (l1 : Int) (u2 : Option Int) (u3 : Option Int) (u4 : Option Int) (K : (Nat → Int → Int) → Prop) : Prop := RV 196 2 [some (mvR 68), some (mvI l1), u2.map mvI, u3.map mvI, u4.map mvI] [] g h K
abbrev MD_makeLean_12 (g : Nat → Nat → Nat) (h : Nat → Int → Int) (l1 : Int) (l2 : Int) (u3 : Option Int) (u4 : Option Int) (K : (Nat → Int → Int) → Prop) : Prop := RV 196 12 [some (mvR 68), some (mvI l1), some (mvI l2), u3.map mvI, u4.map mvI] [] g h K
abbrev MD_makeLean_83 (g : Nat → Nat → Nat) (h : Nat → Int → Int) (l1 : Int) (u2 : Option Int) (u3 : Option Int) (u4 : Option Int) (K : (Nat → Int → Int) → Prop) : Prop := RV 196 83 [some (mvR 68), some (mvI l1), u2.map mvI, u3.map mvI, u4.map mvI] [] g h K
abbrev MD_makeLean_95 (g : Nat → Nat → Nat) (h : Nat → Int → Int) (l1 : Int) (l2 : Int) (l3 : Int) (u4 : Option Int) (K : (Nat → Int → Int) → Prop) : Prop := RV 196 95 [some (mvR 68), some (mvI l1), some (mvI l2), some (mvI l3), u4.map mvI] [] g h K
theorem MD_makeLean_wp {sw : Bool} {g : Nat → Nat → Nat} {h : Nat → Int → Int}  {K : (Nat → Int → Int) → Prop} (hG : Gok sw g)  (H :
  MD_makeLean_2 g h 0 none none none K) : MD_makeLean g h  K := by
  refine rc_iconst mq196 (mvDec_of cd196 rfl) (by decide) ?_
  refine rc_istore_n [some (mvR 68), some (mvI 0), none, none, none] mq196 (mvDec_of cd196 rfl) rfl ?_
  exact H
theorem MD_makeLean_2_wp {sw : Bool} {g : Nat → Nat → Nat} {h : Nat → Int → Int} {l1 : Int} {u2 : Option Int} {u3 : Option Int} {u4 : Option Int} {K : (Nat → Int → Int) → Prop} (hG : Gok sw g)  (H :
  (((h 68 0) ≤ l1 →
    MD_makeLean_83 g h 0 u2 u3 u4 K) ∧
  (l1 < (h 68 0) →
    MD_makeLean_12 g h l1 0 u3 u4 K))) : MD_makeLean_2 g h l1 u2 u3 u4 K := by
  refine rc_iload_n mq196 (mvDec_of cd196 rfl) rfl ?_
  refine rc_aload_n mq196 (mvDec_of cd196 rfl) rfl ?_
  refine rc_getI 0 mq196 (mvDec_of cd196 rfl) fl_10_138 mis68 rfl (by decide) (by decide) ?_
  refine rc_icmp_ge (t := 81) mq196 (mvDec_of cd196 rfl) rfl (fun hc => ?_) (fun hc => ?_)
  · replace H := H.1 hc
    refine rc_iconst mq196 (mvDec_of cd196 rfl) (by decide) ?_
    refine rc_istore_n [some (mvR 68), some (mvI 0), u2.map mvI, u3.map mvI, u4.map mvI] mq196 (mvDec_of cd196 rfl) rfl ?_
    exact H
  · replace H := H.2 hc
    refine rc_iconst mq196 (mvDec_of cd196 rfl) (by decide) ?_
    refine rc_istore_n [some (mvR 68), some (mvI l1), some (mvI 0), u3.map mvI, u4.map mvI] mq196 (mvDec_of cd196 rfl) rfl ?_
    exact H
theorem MD_makeLean_12_wp {sw : Bool} {g : Nat → Nat → Nat} {h : Nat → Int → Int} {l1 : Int} {l2 : Int} {u3 : Option Int} {u4 : Option Int} {K : (Nat → Int → Int) → Prop} (hG : Gok sw g)  (H :
  (0 ≤ l1 ∧ l1 < 4) ∧
  (((h 69 l1) ≤ l2 →
    MD_makeLean_2 g h (mw (l1 + 1)) (some l2) u3 u4 K) ∧
  (l2 < (h 69 l1) →
    (0 ≤ (mw ((mw (9 * l1)) + l2)) ∧ (mw ((mw (9 * l1)) + l2)) < 36) ∧
    ((¬ (h 70 (mw ((mw (9 * l1)) + l2))) = 0 →
      (0 ≤ (mw ((mw (9 * l1)) + l2)) ∧ (mw ((mw (9 * l1)) + l2)) < 36) ∧
      (∀ h1, h1 = mvUpd h 94 (mw ((mw (9 * l1)) + l2)) 0 →
      MD_makeLean_12 g h1 l1 (mw (l2 + 1)) u3 u4 K)) ∧
    ((h 70 (mw ((mw (9 * l1)) + l2))) = 0 →
      MD_isAllowed g h l1 l2 (fun r3 h2 =>
        MD_isAllowed g h2 l1 (mw (l2 + 1)) (fun r5 h4 =>
          ((¬ r3 = r5 →
            (0 ≤ (mw ((mw (9 * l1)) + l2)) ∧ (mw ((mw (9 * l1)) + l2)) < 36) ∧
            (∀ h6, h6 = mvUpd h4 94 (mw ((mw (9 * l1)) + l2)) 0 →
            MD_makeLean_12 g h6 l1 (mw (l2 + 1)) u3 u4 K)) ∧
          (r3 = r5 →
            (0 ≤ (mw ((mw (9 * l1)) + l2)) ∧ (mw ((mw (9 * l1)) + l2)) < 36) ∧
            (∀ h7, h7 = mvUpd h4 94 (mw ((mw (9 * l1)) + l2)) 1 →
            MD_makeLean_12 g h7 l1 (mw (l2 + 1)) u3 u4 K)))))))))) : MD_makeLean_12 g h l1 l2 u3 u4 K := by
  refine rc_iload_n mq196 (mvDec_of cd196 rfl) rfl ?_
  refine rc_aload_n mq196 (mvDec_of cd196 rfl) rfl ?_
  refine rc_getR 69 mq196 (mvDec_of cd196 rfl) fl_10_7 mis68 rfl (gr_68_1 hG) (by decide) ?_
  refine rc_iload_n mq196 (mvDec_of cd196 rfl) rfl ?_
  obtain ⟨⟨hb0, hb1⟩, H⟩ := H
  refine rc_iald mq196 (mvDec_of cd196 rfl) mis69 hb0 hb1 ?_
  refine rc_icmp_ge (t := 75) mq196 (mvDec_of cd196 rfl) rfl (fun hc => ?_) (fun hc => ?_)
  · replace H := H.1 hc
    refine rc_iinc [some (mvR 68), some (mvI (mw (l1 + 1))), some (mvI l2), u3.map mvI, u4.map mvI] mq196 (mvDec_of cd196 rfl) rfl rfl ?_
    refine rc_goto (t := 2) mq196 (mvDec_of cd196 rfl) rfl ?_
    exact H
  · replace H := H.2 hc
    refine rc_aload_n mq196 (mvDec_of cd196 rfl) rfl ?_
    refine rc_getR 94 mq196 (mvDec_of cd196 rfl) fl_10_86 mis68 rfl (gr_68_39 hG) (by decide) ?_
    refine rc_bipush mq196 (mvDec_of cd196 rfl) (by decide) ?_
    refine rc_iload_n mq196 (mvDec_of cd196 rfl) rfl ?_
    refine rc_imul mq196 (mvDec_of cd196 rfl) ?_
    refine rc_iload_n mq196 (mvDec_of cd196 rfl) rfl ?_
    refine rc_iadd mq196 (mvDec_of cd196 rfl) ?_
    refine rc_aload_n mq196 (mvDec_of cd196 rfl) rfl ?_
    refine rc_getR 70 mq196 (mvDec_of cd196 rfl) fl_10_13 mis68 rfl (gr_68_2 hG) (by decide) ?_
    refine rc_bipush mq196 (mvDec_of cd196 rfl) (by decide) ?_
    refine rc_iload_n mq196 (mvDec_of cd196 rfl) rfl ?_
    refine rc_imul mq196 (mvDec_of cd196 rfl) ?_
    refine rc_iload_n mq196 (mvDec_of cd196 rfl) rfl ?_
    refine rc_iadd mq196 (mvDec_of cd196 rfl) ?_
    obtain ⟨⟨hb0, hb1⟩, H⟩ := H
    refine rc_iald mq196 (mvDec_of cd196 rfl) mis70 hb0 hb1 ?_
    refine rc_if_ne (t := 67) mq196 (mvDec_of cd196 rfl) rfl (fun hc => ?_) (fun hc => ?_)
    · replace H := H.1 hc
      refine rc_iconst mq196 (mvDec_of cd196 rfl) (by decide) ?_
      obtain ⟨⟨hb0, hb1⟩, H⟩ := H
      refine rc_bast mq196 (mvDec_of cd196 rfl) mis94 hb0 hb1 (Or.inl rfl) ?_
      refine rc_heap (fun h1 hh => ?_)
      replace H := H h1 hh
      refine rc_iinc [some (mvR 68), some (mvI l1), some (mvI (mw (l2 + 1))), u3.map mvI, u4.map mvI] mq196 (mvDec_of cd196 rfl) rfl rfl ?_
      refine rc_goto (t := 12) mq196 (mvDec_of cd196 rfl) rfl ?_
      exact H
    · replace H := H.2 hc
      refine rc_aload_n mq196 (mvDec_of cd196 rfl) rfl ?_
      refine rc_iload_n mq196 (mvDec_of cd196 rfl) rfl ?_
      refine rc_iload_n mq196 (mvDec_of cd196 rfl) rfl ?_
      refine rc_callV [mvR 68, mvI l1, mvI l2] [mvI (mw ((mw (9 * l1)) + l2)), mvR 94] [some (mvR 68), some (mvI l1), some (mvI l2)] mq196 (mvDec_of cd196 rfl) lk_10_210 mq121 (by decide) rfl rfl (Nat.le_of_ble_eq_true rfl) (Nat.le_of_ble_eq_true rfl) (by decide) rfl mis68 rfl (ri_bind H (fun r3 h2 H => ?_))
      refine rc_aload_n mq196 (mvDec_of cd196 rfl) rfl ?_
      refine rc_iload_n mq196 (mvDec_of cd196 rfl) rfl ?_
      refine rc_iload_n mq196 (mvDec_of cd196 rfl) rfl ?_
      refine rc_iconst mq196 (mvDec_of cd196 rfl) (by decide) ?_
      refine rc_iadd mq196 (mvDec_of cd196 rfl) ?_
      refine rc_callV [mvR 68, mvI l1, mvI (mw (l2 + 1))] [mvI r3, mvI (mw ((mw (9 * l1)) + l2)), mvR 94] [some (mvR 68), some (mvI l1), some (mvI (mw (l2 + 1)))] mq196 (mvDec_of cd196 rfl) lk_10_210 mq121 (by decide) rfl rfl (Nat.le_of_ble_eq_true rfl) (Nat.le_of_ble_eq_true rfl) (by decide) rfl mis68 rfl (ri_bind H (fun r5 h4 H => ?_))
      refine rc_icmp_ne (t := 67) mq196 (mvDec_of cd196 rfl) rfl (fun hc => ?_) (fun hc => ?_)
      · replace H := H.1 hc
        refine rc_iconst mq196 (mvDec_of cd196 rfl) (by decide) ?_
        obtain ⟨⟨hb0, hb1⟩, H⟩ := H
        refine rc_bast mq196 (mvDec_of cd196 rfl) mis94 hb0 hb1 (Or.inl rfl) ?_
        refine rc_heap (fun h6 hh => ?_)
        replace H := H h6 hh
        refine rc_iinc [some (mvR 68), some (mvI l1), some (mvI (mw (l2 + 1))), u3.map mvI, u4.map mvI] mq196 (mvDec_of cd196 rfl) rfl rfl ?_
        refine rc_goto (t := 12) mq196 (mvDec_of cd196 rfl) rfl ?_
        exact H
      · replace H := H.2 hc
        refine rc_iconst mq196 (mvDec_of cd196 rfl) (by decide) ?_
        refine rc_goto (t := 68) mq196 (mvDec_of cd196 rfl) rfl ?_
        obtain ⟨⟨hb0, hb1⟩, H⟩ := H
        refine rc_bast mq196 (mvDec_of cd196 rfl) mis94 hb0 hb1 (Or.inr rfl) ?_
        refine rc_heap (fun h7 hh => ?_)
        replace H := H h7 hh
        refine rc_iinc [some (mvR 68), some (mvI l1), some (mvI (mw (l2 + 1))), u3.map mvI, u4.map mvI] mq196 (mvDec_of cd196 rfl) rfl rfl ?_
        refine rc_goto (t := 12) mq196 (mvDec_of cd196 rfl) rfl ?_
        exact H
theorem MD_makeLean_83_wp {sw : Bool} {g : Nat → Nat → Nat} {h : Nat → Int → Int} {l1 : Int} {u2 : Option Int} {u3 : Option Int} {u4 : Option Int} {K : (Nat → Int → Int) → Prop} (hG : Gok sw g)  (H :
  (((h 68 0) ≤ l1 →
    MD_layPartners g h (fun h1 =>
      MD_layVectors g h1 (fun h2 =>
        K h2))) ∧
  (l1 < (h 68 0) →
    MD_makeLean_95 g h l1 0 0 u4 K))) : MD_makeLean_83 g h l1 u2 u3 u4 K := by
  refine rc_iload_n mq196 (mvDec_of cd196 rfl) rfl ?_
  refine rc_aload_n mq196 (mvDec_of cd196 rfl) rfl ?_
  refine rc_getI 0 mq196 (mvDec_of cd196 rfl) fl_10_138 mis68 rfl (by decide) (by decide) ?_
  refine rc_icmp_ge (t := 181) mq196 (mvDec_of cd196 rfl) rfl (fun hc => ?_) (fun hc => ?_)
  · replace H := H.1 hc
    refine rc_aload_n mq196 (mvDec_of cd196 rfl) rfl ?_
    refine rc_callV [mvR 68] [] [some (mvR 68), none, none, none, none] mq196 (mvDec_of cd196 rfl) lk_10_154 mq161 (by decide) rfl rfl (Nat.le_of_ble_eq_true rfl) (Nat.le_of_ble_eq_true rfl) (by decide) rfl mis68 rfl (rv_bind H (fun h1 H => ?_))
    refine rc_aload_n mq196 (mvDec_of cd196 rfl) rfl ?_
    refine rc_callV [mvR 68] [] [some (mvR 68), none, none, none] mq196 (mvDec_of cd196 rfl) lk_10_157 mq115 (by decide) rfl rfl (Nat.le_of_ble_eq_true rfl) (Nat.le_of_ble_eq_true rfl) (by decide) rfl mis68 rfl (rv_bind H (fun h2 H => ?_))
    exact rc_vret mq196 (mvDec_of cd196 rfl) ⟨_, rfl, rfl, H⟩
  · replace H := H.2 hc
    refine rc_iconst mq196 (mvDec_of cd196 rfl) (by decide) ?_
    refine rc_istore_n [some (mvR 68), some (mvI l1), some (mvI 0), u3.map mvI, u4.map mvI] mq196 (mvDec_of cd196 rfl) rfl ?_
    refine rc_iconst mq196 (mvDec_of cd196 rfl) (by decide) ?_
    refine rc_istore_n [some (mvR 68), some (mvI l1), some (mvI 0), some (mvI 0), u4.map mvI] mq196 (mvDec_of cd196 rfl) rfl ?_
    exact H
theorem MD_makeLean_95_wp {sw : Bool} {g : Nat → Nat → Nat} {h : Nat → Int → Int} {l1 : Int} {l2 : Int} {l3 : Int} {u4 : Option Int} {K : (Nat → Int → Int) → Prop} (hG : Gok sw g)  (H :
  (0 ≤ l1 ∧ l1 < 4) ∧
  (((h 91 l1) ≤ l3 →
    (0 ≤ l1 ∧ l1 < 4) ∧
    (∀ h1, h1 = mvUpd h 69 l1 l2 →
    MD_makeLean_83 g h1 (mw (l1 + 1)) (some l2) (some l3) u4 K)) ∧
  (l3 < (h 91 l1) →
    (∀ v2, v2 = (mw ((mw (9 * l1)) + l3)) →
    (0 ≤ v2 ∧ v2 < 36) ∧
    ((¬ (h 94 v2) = 0 →
      MD_makeLean_95 g h l1 l2 (mw (l3 + 1)) (some v2) K) ∧
    ((h 94 v2) = 0 →
      (0 ≤ v2 ∧ v2 < 36) ∧
      (0 ≤ (mw ((mw (9 * l1)) + l2)) ∧ (mw ((mw (9 * l1)) + l2)) < 36) ∧
      (∀ h3, h3 = mvUpd h 70 (mw ((mw (9 * l1)) + l2)) (h 92 v2) →
      (0 ≤ v2 ∧ v2 < 36) ∧
      (0 ≤ (mw ((mw (9 * l1)) + l2)) ∧ (mw ((mw (9 * l1)) + l2)) < 36) ∧
      (∀ h4, h4 = mvUpd h3 71 (mw ((mw (9 * l1)) + l2)) (h3 93 v2) →
      MD_makeLean_95 g h4 l1 (mw (l2 + 1)) (mw (l3 + 1)) (some v2) K)))))))) : MD_makeLean_95 g h l1 l2 l3 u4 K := by
  refine rc_iload_n mq196 (mvDec_of cd196 rfl) rfl ?_
  refine rc_aload_n mq196 (mvDec_of cd196 rfl) rfl ?_
  refine rc_getR 91 mq196 (mvDec_of cd196 rfl) fl_10_77 mis68 rfl (gr_68_36 hG) (by decide) ?_
  refine rc_iload_n mq196 (mvDec_of cd196 rfl) rfl ?_
  obtain ⟨⟨hb0, hb1⟩, H⟩ := H
  refine rc_iald mq196 (mvDec_of cd196 rfl) mis91 hb0 hb1 ?_
  refine rc_icmp_ge (t := 168) mq196 (mvDec_of cd196 rfl) rfl (fun hc => ?_) (fun hc => ?_)
  · replace H := H.1 hc
    refine rc_aload_n mq196 (mvDec_of cd196 rfl) rfl ?_
    refine rc_getR 69 mq196 (mvDec_of cd196 rfl) fl_10_7 mis68 rfl (gr_68_1 hG) (by decide) ?_
    refine rc_iload_n mq196 (mvDec_of cd196 rfl) rfl ?_
    refine rc_iload_n mq196 (mvDec_of cd196 rfl) rfl ?_
    obtain ⟨⟨hb0, hb1⟩, H⟩ := H
    refine rc_iast mq196 (mvDec_of cd196 rfl) mis69 hb0 hb1 ?_
    refine rc_heap (fun h1 hh => ?_)
    replace H := H h1 hh
    refine rc_iinc [some (mvR 68), some (mvI (mw (l1 + 1))), some (mvI l2), some (mvI l3), u4.map mvI] mq196 (mvDec_of cd196 rfl) rfl rfl ?_
    refine rc_goto (t := 83) mq196 (mvDec_of cd196 rfl) rfl ?_
    exact H
  · replace H := H.2 hc
    refine rc_bipush mq196 (mvDec_of cd196 rfl) (by decide) ?_
    refine rc_iload_n mq196 (mvDec_of cd196 rfl) rfl ?_
    refine rc_imul mq196 (mvDec_of cd196 rfl) ?_
    refine rc_iload_n mq196 (mvDec_of cd196 rfl) rfl ?_
    refine rc_iadd mq196 (mvDec_of cd196 rfl) ?_
    refine rc_top (fun v2 hv => ?_)
    replace H := H v2 hv
    refine rc_istore [some (mvR 68), some (mvI l1), some (mvI l2), some (mvI l3), some (mvI v2)] mq196 (mvDec_of cd196 rfl) rfl ?_
    refine rc_aload_n mq196 (mvDec_of cd196 rfl) rfl ?_
    refine rc_getR 94 mq196 (mvDec_of cd196 rfl) fl_10_86 mis68 rfl (gr_68_39 hG) (by decide) ?_
    refine rc_iload mq196 (mvDec_of cd196 rfl) rfl ?_
    obtain ⟨⟨hb0, hb1⟩, H⟩ := H
    refine rc_bald mq196 (mvDec_of cd196 rfl) mis94 hb0 hb1 ?_
    refine rc_if_ne (t := 162) mq196 (mvDec_of cd196 rfl) rfl (fun hc => ?_) (fun hc => ?_)
    · replace H := H.1 hc
      refine rc_iinc [some (mvR 68), some (mvI l1), some (mvI l2), some (mvI (mw (l3 + 1))), some (mvI v2)] mq196 (mvDec_of cd196 rfl) rfl rfl ?_
      refine rc_goto (t := 95) mq196 (mvDec_of cd196 rfl) rfl ?_
      exact H
    · replace H := H.2 hc
      refine rc_aload_n mq196 (mvDec_of cd196 rfl) rfl ?_
      refine rc_getR 70 mq196 (mvDec_of cd196 rfl) fl_10_13 mis68 rfl (gr_68_2 hG) (by decide) ?_
      refine rc_bipush mq196 (mvDec_of cd196 rfl) (by decide) ?_
      refine rc_iload_n mq196 (mvDec_of cd196 rfl) rfl ?_
      refine rc_imul mq196 (mvDec_of cd196 rfl) ?_
      refine rc_iload_n mq196 (mvDec_of cd196 rfl) rfl ?_
      refine rc_iadd mq196 (mvDec_of cd196 rfl) ?_
      refine rc_aload_n mq196 (mvDec_of cd196 rfl) rfl ?_
      refine rc_getR 92 mq196 (mvDec_of cd196 rfl) fl_10_80 mis68 rfl (gr_68_37 hG) (by decide) ?_
      refine rc_iload mq196 (mvDec_of cd196 rfl) rfl ?_
      obtain ⟨⟨hb0, hb1⟩, H⟩ := H
      refine rc_iald mq196 (mvDec_of cd196 rfl) mis92 hb0 hb1 ?_
      obtain ⟨⟨hb0, hb1⟩, H⟩ := H
      refine rc_iast mq196 (mvDec_of cd196 rfl) mis70 hb0 hb1 ?_
      refine rc_heap (fun h3 hh => ?_)
      replace H := H h3 hh
      refine rc_aload_n mq196 (mvDec_of cd196 rfl) rfl ?_
      refine rc_getR 71 mq196 (mvDec_of cd196 rfl) fl_10_16 mis68 rfl (gr_68_3 hG) (by decide) ?_
      refine rc_bipush mq196 (mvDec_of cd196 rfl) (by decide) ?_
      refine rc_iload_n mq196 (mvDec_of cd196 rfl) rfl ?_
      refine rc_imul mq196 (mvDec_of cd196 rfl) ?_
      refine rc_iload_n mq196 (mvDec_of cd196 rfl) rfl ?_
      refine rc_iadd mq196 (mvDec_of cd196 rfl) ?_
      refine rc_aload_n mq196 (mvDec_of cd196 rfl) rfl ?_
      refine rc_getR 93 mq196 (mvDec_of cd196 rfl) fl_10_83 mis68 rfl (gr_68_38 hG) (by decide) ?_
      refine rc_iload mq196 (mvDec_of cd196 rfl) rfl ?_
      obtain ⟨⟨hb0, hb1⟩, H⟩ := H
      refine rc_iald mq196 (mvDec_of cd196 rfl) mis93 hb0 hb1 ?_
      obtain ⟨⟨hb0, hb1⟩, H⟩ := H
      refine rc_iast mq196 (mvDec_of cd196 rfl) mis71 hb0 hb1 ?_
      refine rc_heap (fun h4 hh => ?_)
      replace H := H h4 hh
      refine rc_iinc [some (mvR 68), some (mvI l1), some (mvI (mw (l2 + 1))), some (mvI l3), some (mvI v2)] mq196 (mvDec_of cd196 rfl) rfl rfl ?_
      refine rc_iinc [some (mvR 68), some (mvI l1), some (mvI (mw (l2 + 1))), some (mvI (mw (l3 + 1))), some (mvI v2)] mq196 (mvDec_of cd196 rfl) rfl rfl ?_
      refine rc_goto (t := 95) mq196 (mvDec_of cd196 rfl) rfl ?_
      exact H
abbrev MD_markersCome (g : Nat → Nat → Nat) (h : Nat → Int → Int) (x1 : Int) (K : (Nat → Int → Int) → Prop) : Prop := RV 197 0 [some (mvR 68), some (mvI x1), none] [] g h K
abbrev MD_markersCome_6 (g : Nat → Nat → Nat) (h : Nat → Int → Int) (l1 : Int) (l2 : Int) (K : (Nat → Int → Int) → Prop) : Prop := RV 197 6 [some (mvR 68), some (mvI l1), some (mvI l2)] [] g h K
theorem MD_markersCome_wp {sw : Bool} {g : Nat → Nat → Nat} {h : Nat → Int → Int} {x1 : Int} {K : (Nat → Int → Int) → Prop} (hG : Gok sw g)  (H :
  MD_nextMarker g h 0 (fun r2 h1 =>
    MD_markersCome_6 g h1 x1 r2 K)) : MD_markersCome g h x1 K := by
  refine rc_aload_n mq197 (mvDec_of cd197 rfl) rfl ?_
  refine rc_iconst mq197 (mvDec_of cd197 rfl) (by decide) ?_
  refine rc_callV [mvR 68, mvI 0] [] [some (mvR 68), some (mvI 0), none, none, none] mq197 (mvDec_of cd197 rfl) lk_10_372 mq136 (by decide) rfl rfl (Nat.le_of_ble_eq_true rfl) (Nat.le_of_ble_eq_true rfl) (by decide) rfl mis68 rfl (ri_bind H (fun r2 h1 H => ?_))
  refine rc_istore_n [some (mvR 68), some (mvI x1), some (mvI r2)] mq197 (mvDec_of cd197 rfl) rfl ?_
  exact H
theorem MD_markersCome_6_wp {sw : Bool} {g : Nat → Nat → Nat} {h : Nat → Int → Int} {l1 : Int} {l2 : Int} {K : (Nat → Int → Int) → Prop} (hG : Gok sw g)  (H :
  ((l2 = (-1) →
    K h) ∧
  (¬ l2 = (-1) →
    MD_markerComes g h l2 l1 (fun h1 =>
      MD_nextMarker g h1 0 (fun r3 h2 =>
        MD_markersCome_6 g h2 l1 r3 K))))) : MD_markersCome_6 g h l1 l2 K := by
  refine rc_iload_n mq197 (mvDec_of cd197 rfl) rfl ?_
  refine rc_iconst mq197 (mvDec_of cd197 rfl) (by decide) ?_
  refine rc_icmp_eq (t := 26) mq197 (mvDec_of cd197 rfl) rfl (fun hc => ?_) (fun hc => ?_)
  · replace H := H.1 hc
    exact rc_vret mq197 (mvDec_of cd197 rfl) ⟨_, rfl, rfl, H⟩
  · replace H := H.2 hc
    refine rc_aload_n mq197 (mvDec_of cd197 rfl) rfl ?_
    refine rc_iload_n mq197 (mvDec_of cd197 rfl) rfl ?_
    refine rc_iload_n mq197 (mvDec_of cd197 rfl) rfl ?_
    refine rc_callV [mvR 68, mvI l2, mvI l1] [] [some (mvR 68), some (mvI l2), some (mvI l1)] mq197 (mvDec_of cd197 rfl) lk_10_375 mq176 (by decide) rfl rfl (Nat.le_of_ble_eq_true rfl) (Nat.le_of_ble_eq_true rfl) (by decide) rfl mis68 rfl (rv_bind H (fun h1 H => ?_))
    refine rc_aload_n mq197 (mvDec_of cd197 rfl) rfl ?_
    refine rc_iconst mq197 (mvDec_of cd197 rfl) (by decide) ?_
    refine rc_callV [mvR 68, mvI 0] [] [some (mvR 68), some (mvI 0), none, none, none] mq197 (mvDec_of cd197 rfl) lk_10_372 mq136 (by decide) rfl rfl (Nat.le_of_ble_eq_true rfl) (Nat.le_of_ble_eq_true rfl) (by decide) rfl mis68 rfl (ri_bind H (fun r3 h2 H => ?_))
    refine rc_istore_n [some (mvR 68), some (mvI l1), some (mvI r3)] mq197 (mvDec_of cd197 rfl) rfl ?_
    refine rc_goto (t := 6) mq197 (mvDec_of cd197 rfl) rfl ?_
    exact H
abbrev MD_mixCut (g : Nat → Nat → Nat) (h : Nat → Int → Int) (x1 : Int) (K : (Nat → Int → Int) → Prop) : Prop := RV 198 0 [some (mvR 68), some (mvI x1)] [] g h K
abbrev MD_mixCut_28 (g : Nat → Nat → Nat) (h : Nat → Int → Int) (l1 : Int) (K : (Nat → Int → Int) → Prop) : Prop := RV 198 28 [some (mvR 68), some (mvI l1)] [] g h K
theorem MD_mixCut_wp {sw : Bool} {g : Nat → Nat → Nat} {h : Nat → Int → Int} {x1 : Int} {K : (Nat → Int → Int) → Prop} (hG : Gok sw g)  (H :
  MD_take g h x1 (fun h1 =>
    MD_toldNow g h1 (fun r3 h2 =>
      (∀ h4, h4 = mvUpd h2 68 44 (mwl ((mwl (31 * (h2 68 44))) + r3)) →
      (0 ≤ x1 ∧ x1 < 640) ∧
      (((h4 83 x1) = 0 →
        (∀ h5, h5 = mvUpd h4 68 44 (mwl ((mwl (31 * (h4 68 44))) + 0)) →
        MD_mixCut_28 g h5 x1 K)) ∧
      (¬ (h4 83 x1) = 0 →
        (∀ h6, h6 = mvUpd h4 68 44 (mwl ((mwl (31 * (h4 68 44))) + 1)) →
        MD_mixCut_28 g h6 x1 K))))))) : MD_mixCut g h x1 K := by
  refine rc_aload_n mq198 (mvDec_of cd198 rfl) rfl ?_
  refine rc_aload_n mq198 (mvDec_of cd198 rfl) rfl ?_
  refine rc_iload_n mq198 (mvDec_of cd198 rfl) rfl ?_
  refine rc_callV [mvR 68, mvI x1] [mvR 68] [some (mvR 68), some (mvI x1)] mq198 (mvDec_of cd198 rfl) lk_10_290 mq119 (by decide) rfl rfl (Nat.le_of_ble_eq_true rfl) (Nat.le_of_ble_eq_true rfl) (by decide) rfl mis68 rfl ?_
  refine rc_aload_n mq119 (mvDec_of cd119 rfl) rfl ?_
  refine rc_iload_n mq119 (mvDec_of cd119 rfl) rfl ?_
  refine rc_callV [mvR 68, mvI x1] [] [some (mvR 68), some (mvI x1), none, none] mq119 (mvDec_of cd119 rfl) lk_10_196 mq50 (by decide) rfl rfl (Nat.le_of_ble_eq_true rfl) (Nat.le_of_ble_eq_true rfl) (by decide) rfl mis68 rfl (rv_bind H (fun h1 H => ?_))
  refine rc_aload_n mq119 (mvDec_of cd119 rfl) rfl ?_
  refine rc_callV [mvR 68] [] [some (mvR 68), none, none] mq119 (mvDec_of cd119 rfl) lk_10_200 mq53 (by decide) rfl rfl (Nat.le_of_ble_eq_true rfl) (Nat.le_of_ble_eq_true rfl) (by decide) rfl mis68 rfl (ri_bind H (fun r3 h2 H => ?_))
  refine rc_iret mq119 (mvDec_of cd119 rfl) ?_
  show Rch 198 6 [some (mvR 68), some (mvI x1)] [mvI r3, mvR 68] (97, g, h2) _
  refine rc_i2l mq198 (mvDec_of cd198 rfl) ?_
  refine rc_callV [mvR 68, mvJ r3] [] [some (mvR 68), some (mvJ r3), none] mq198 (mvDec_of cd198 rfl) lk_10_407 mq64 (by decide) rfl rfl (Nat.le_of_ble_eq_true rfl) (Nat.le_of_ble_eq_true rfl) (by decide) rfl mis68 rfl ?_
  refine rc_aload_n mq64 (mvDec_of cd64 rfl) rfl ?_
  refine rc_ldc2 mq64 (mvDec_of cd64 rfl) rfl ?_
  refine rc_aload_n mq64 (mvDec_of cd64 rfl) rfl ?_
  refine rc_getJ 44 mq64 (mvDec_of cd64 rfl) fl_10_404 mis68 rfl (by decide) rfl ?_
  refine rc_lmul mq64 (mvDec_of cd64 rfl) ?_
  refine rc_lload_n mq64 (mvDec_of cd64 rfl) rfl ?_
  refine rc_ladd mq64 (mvDec_of cd64 rfl) ?_
  refine rc_putJ 44 mq64 (mvDec_of cd64 rfl) fl_10_404 mis68 rfl (fun z => absurd z (by decide)) rfl ?_
  refine rc_heap (fun h4 hh => ?_)
  replace H := H h4 hh
  refine rc_vret mq64 (mvDec_of cd64 rfl) ?_
  show Rch 198 10 [some (mvR 68), some (mvI x1)] [] (97, g, h4) _
  refine rc_aload_n mq198 (mvDec_of cd198 rfl) rfl ?_
  refine rc_aload_n mq198 (mvDec_of cd198 rfl) rfl ?_
  refine rc_getR 83 mq198 (mvDec_of cd198 rfl) fl_10_53 mis68 rfl (gr_68_28 hG) (by decide) ?_
  refine rc_iload_n mq198 (mvDec_of cd198 rfl) rfl ?_
  obtain ⟨⟨hb0, hb1⟩, H⟩ := H
  refine rc_bald mq198 (mvDec_of cd198 rfl) mis83 hb0 hb1 ?_
  refine rc_if_eq (t := 24) mq198 (mvDec_of cd198 rfl) rfl (fun hc => ?_) (fun hc => ?_)
  · replace H := H.1 hc
    refine rc_lconst mq198 (mvDec_of cd198 rfl) ?_
    refine rc_callV [mvR 68, mvJ 0] [] [some (mvR 68), some (mvJ 0), none] mq198 (mvDec_of cd198 rfl) lk_10_407 mq64 (by decide) rfl rfl (Nat.le_of_ble_eq_true rfl) (Nat.le_of_ble_eq_true rfl) (by decide) rfl mis68 rfl ?_
    refine rc_aload_n mq64 (mvDec_of cd64 rfl) rfl ?_
    refine rc_ldc2 mq64 (mvDec_of cd64 rfl) rfl ?_
    refine rc_aload_n mq64 (mvDec_of cd64 rfl) rfl ?_
    refine rc_getJ 44 mq64 (mvDec_of cd64 rfl) fl_10_404 mis68 rfl (by decide) rfl ?_
    refine rc_lmul mq64 (mvDec_of cd64 rfl) ?_
    refine rc_lload_n mq64 (mvDec_of cd64 rfl) rfl ?_
    refine rc_ladd mq64 (mvDec_of cd64 rfl) ?_
    refine rc_putJ 44 mq64 (mvDec_of cd64 rfl) fl_10_404 mis68 rfl (fun z => absurd z (by decide)) rfl ?_
    refine rc_heap (fun h5 hh => ?_)
    replace H := H h5 hh
    refine rc_vret mq64 (mvDec_of cd64 rfl) ?_
    show Rch 198 28 [some (mvR 68), some (mvI x1)] [] (97, g, h5) _
    exact H
  · replace H := H.2 hc
    refine rc_lconst mq198 (mvDec_of cd198 rfl) ?_
    refine rc_goto (t := 25) mq198 (mvDec_of cd198 rfl) rfl ?_
    refine rc_callV [mvR 68, mvJ 1] [] [some (mvR 68), some (mvJ 1), none] mq198 (mvDec_of cd198 rfl) lk_10_407 mq64 (by decide) rfl rfl (Nat.le_of_ble_eq_true rfl) (Nat.le_of_ble_eq_true rfl) (by decide) rfl mis68 rfl ?_
    refine rc_aload_n mq64 (mvDec_of cd64 rfl) rfl ?_
    refine rc_ldc2 mq64 (mvDec_of cd64 rfl) rfl ?_
    refine rc_aload_n mq64 (mvDec_of cd64 rfl) rfl ?_
    refine rc_getJ 44 mq64 (mvDec_of cd64 rfl) fl_10_404 mis68 rfl (by decide) rfl ?_
    refine rc_lmul mq64 (mvDec_of cd64 rfl) ?_
    refine rc_lload_n mq64 (mvDec_of cd64 rfl) rfl ?_
    refine rc_ladd mq64 (mvDec_of cd64 rfl) ?_
    refine rc_putJ 44 mq64 (mvDec_of cd64 rfl) fl_10_404 mis68 rfl (fun z => absurd z (by decide)) rfl ?_
    refine rc_heap (fun h6 hh => ?_)
    replace H := H h6 hh
    refine rc_vret mq64 (mvDec_of cd64 rfl) ?_
    show Rch 198 28 [some (mvR 68), some (mvI x1)] [] (97, g, h6) _
    exact H
theorem MD_mixCut_28_wp {sw : Bool} {g : Nat → Nat → Nat} {h : Nat → Int → Int} {l1 : Int} {K : (Nat → Int → Int) → Prop} (hG : Gok sw g)  (H :
  MD_nextBits g h l1 (fun r2 h1 =>
    (∀ h3, h3 = mvUpd h1 68 44 (mwl ((mwl (31 * (h1 68 44))) + r2)) →
    MD_take g h3 l1 (fun h4 =>
      MD_underAll g h4 (fun r6 h5 =>
        (∀ h7, h7 = mvUpd h5 68 44 (mwl ((mwl (31 * (h5 68 44))) + r6)) →
        (0 ≤ l1 ∧ l1 < 640) ∧
        (0 ≤ l1 ∧ l1 < 640) ∧
        (∀ h8, h8 = mvUpd h7 68 44 (mwl ((mwl (31 * (h7 68 44))) + (mw ((h7 84 l1) * (h7 85 l1))))) →
        K h8))))))) : MD_mixCut_28 g h l1 K := by
  refine rc_aload_n mq198 (mvDec_of cd198 rfl) rfl ?_
  refine rc_aload_n mq198 (mvDec_of cd198 rfl) rfl ?_
  refine rc_iload_n mq198 (mvDec_of cd198 rfl) rfl ?_
  refine rc_callV [mvR 68, mvI l1] [mvR 68] [some (mvR 68), some (mvI l1), none, none] mq198 (mvDec_of cd198 rfl) lk_10_259 mq164 (by decide) rfl rfl (Nat.le_of_ble_eq_true rfl) (Nat.le_of_ble_eq_true rfl) (by decide) rfl mis68 rfl (ri_bind H (fun r2 h1 H => ?_))
  refine rc_i2l mq198 (mvDec_of cd198 rfl) ?_
  refine rc_callV [mvR 68, mvJ r2] [] [some (mvR 68), some (mvJ r2), none] mq198 (mvDec_of cd198 rfl) lk_10_407 mq64 (by decide) rfl rfl (Nat.le_of_ble_eq_true rfl) (Nat.le_of_ble_eq_true rfl) (by decide) rfl mis68 rfl ?_
  refine rc_aload_n mq64 (mvDec_of cd64 rfl) rfl ?_
  refine rc_ldc2 mq64 (mvDec_of cd64 rfl) rfl ?_
  refine rc_aload_n mq64 (mvDec_of cd64 rfl) rfl ?_
  refine rc_getJ 44 mq64 (mvDec_of cd64 rfl) fl_10_404 mis68 rfl (by decide) rfl ?_
  refine rc_lmul mq64 (mvDec_of cd64 rfl) ?_
  refine rc_lload_n mq64 (mvDec_of cd64 rfl) rfl ?_
  refine rc_ladd mq64 (mvDec_of cd64 rfl) ?_
  refine rc_putJ 44 mq64 (mvDec_of cd64 rfl) fl_10_404 mis68 rfl (fun z => absurd z (by decide)) rfl ?_
  refine rc_heap (fun h3 hh => ?_)
  replace H := H h3 hh
  refine rc_vret mq64 (mvDec_of cd64 rfl) ?_
  show Rch 198 38 [some (mvR 68), some (mvI l1)] [] (97, g, h3) _
  refine rc_aload_n mq198 (mvDec_of cd198 rfl) rfl ?_
  refine rc_iload_n mq198 (mvDec_of cd198 rfl) rfl ?_
  refine rc_callV [mvR 68, mvI l1] [] [some (mvR 68), some (mvI l1), none, none] mq198 (mvDec_of cd198 rfl) lk_10_196 mq50 (by decide) rfl rfl (Nat.le_of_ble_eq_true rfl) (Nat.le_of_ble_eq_true rfl) (by decide) rfl mis68 rfl (rv_bind H (fun h4 H => ?_))
  refine rc_aload_n mq198 (mvDec_of cd198 rfl) rfl ?_
  refine rc_aload_n mq198 (mvDec_of cd198 rfl) rfl ?_
  refine rc_callV [mvR 68] [mvR 68] [some (mvR 68), none, none, none, none] mq198 (mvDec_of cd198 rfl) lk_10_225 mq120 (by decide) rfl rfl (Nat.le_of_ble_eq_true rfl) (Nat.le_of_ble_eq_true rfl) (by decide) rfl mis68 rfl (ri_bind H (fun r6 h5 H => ?_))
  refine rc_i2l mq198 (mvDec_of cd198 rfl) ?_
  refine rc_callV [mvR 68, mvJ r6] [] [some (mvR 68), some (mvJ r6), none] mq198 (mvDec_of cd198 rfl) lk_10_407 mq64 (by decide) rfl rfl (Nat.le_of_ble_eq_true rfl) (Nat.le_of_ble_eq_true rfl) (by decide) rfl mis68 rfl ?_
  refine rc_aload_n mq64 (mvDec_of cd64 rfl) rfl ?_
  refine rc_ldc2 mq64 (mvDec_of cd64 rfl) rfl ?_
  refine rc_aload_n mq64 (mvDec_of cd64 rfl) rfl ?_
  refine rc_getJ 44 mq64 (mvDec_of cd64 rfl) fl_10_404 mis68 rfl (by decide) rfl ?_
  refine rc_lmul mq64 (mvDec_of cd64 rfl) ?_
  refine rc_lload_n mq64 (mvDec_of cd64 rfl) rfl ?_
  refine rc_ladd mq64 (mvDec_of cd64 rfl) ?_
  refine rc_putJ 44 mq64 (mvDec_of cd64 rfl) fl_10_404 mis68 rfl (fun z => absurd z (by decide)) rfl ?_
  refine rc_heap (fun h7 hh => ?_)
  replace H := H h7 hh
  refine rc_vret mq64 (mvDec_of cd64 rfl) ?_
  show Rch 198 52 [some (mvR 68), some (mvI l1)] [] (97, g, h7) _
  refine rc_aload_n mq198 (mvDec_of cd198 rfl) rfl ?_
  refine rc_aload_n mq198 (mvDec_of cd198 rfl) rfl ?_
  refine rc_getR 84 mq198 (mvDec_of cd198 rfl) fl_10_56 mis68 rfl (gr_68_29 hG) (by decide) ?_
  refine rc_iload_n mq198 (mvDec_of cd198 rfl) rfl ?_
  obtain ⟨⟨hb0, hb1⟩, H⟩ := H
  refine rc_iald mq198 (mvDec_of cd198 rfl) mis84 hb0 hb1 ?_
  refine rc_aload_n mq198 (mvDec_of cd198 rfl) rfl ?_
  refine rc_getR 85 mq198 (mvDec_of cd198 rfl) fl_10_59 mis68 rfl (gr_68_30 hG) (by decide) ?_
  refine rc_iload_n mq198 (mvDec_of cd198 rfl) rfl ?_
  obtain ⟨⟨hb0, hb1⟩, H⟩ := H
  refine rc_iald mq198 (mvDec_of cd198 rfl) mis85 hb0 hb1 ?_
  refine rc_imul mq198 (mvDec_of cd198 rfl) ?_
  refine rc_i2l mq198 (mvDec_of cd198 rfl) ?_
  refine rc_callV [mvR 68, mvJ (mw ((h7 84 l1) * (h7 85 l1)))] [] [some (mvR 68), some (mvJ (mw ((h7 84 l1) * (h7 85 l1)))), none] mq198 (mvDec_of cd198 rfl) lk_10_407 mq64 (by decide) rfl rfl (Nat.le_of_ble_eq_true rfl) (Nat.le_of_ble_eq_true rfl) (by decide) rfl mis68 rfl ?_
  refine rc_aload_n mq64 (mvDec_of cd64 rfl) rfl ?_
  refine rc_ldc2 mq64 (mvDec_of cd64 rfl) rfl ?_
  refine rc_aload_n mq64 (mvDec_of cd64 rfl) rfl ?_
  refine rc_getJ 44 mq64 (mvDec_of cd64 rfl) fl_10_404 mis68 rfl (by decide) rfl ?_
  refine rc_lmul mq64 (mvDec_of cd64 rfl) ?_
  refine rc_lload_n mq64 (mvDec_of cd64 rfl) rfl ?_
  refine rc_ladd mq64 (mvDec_of cd64 rfl) ?_
  refine rc_putJ 44 mq64 (mvDec_of cd64 rfl) fl_10_404 mis68 rfl (fun z => absurd z (by decide)) rfl ?_
  refine rc_heap (fun h8 hh => ?_)
  replace H := H h8 hh
  refine rc_vret mq64 (mvDec_of cd64 rfl) ?_
  show Rch 198 70 [some (mvR 68), some (mvI l1)] [] (97, g, h8) _
  exact rc_vret mq198 (mvDec_of cd198 rfl) ⟨_, rfl, rfl, H⟩
abbrev MD_run (g : Nat → Nat → Nat) (h : Nat → Int → Int)  (K : Int → (Nat → Int → Int) → Prop) : Prop := RI 210 0 [some (mvR 68), none, none] [] g h K
abbrev MD_run_64 (g : Nat → Nat → Nat) (h : Nat → Int → Int) (u1 : Option Int) (l2 : Int) (K : Int → (Nat → Int → Int) → Prop) : Prop := RI 210 64 [some (mvR 68), u1.map mvI, some (mvI l2)] [] g h K
abbrev MD_run_98 (g : Nat → Nat → Nat) (h : Nat → Int → Int) (u1 : Option Int) (l2 : Int) (K : Int → (Nat → Int → Int) → Prop) : Prop := RI 210 98 [some (mvR 68), u1.map mvI, some (mvI l2)] [] g h K
theorem MD_run_wp {sw : Bool} {g : Nat → Nat → Nat} {h : Nat → Int → Int}  {K : Int → (Nat → Int → Int) → Prop} (hG : Gok sw g)  (H :
  MD_read g h (fun r2 h1 =>
    ((¬ r2 = (h1 68 17) →
      K (-103) h1) ∧
    (r2 = (h1 68 17) →
      ((¬ (h1 68 21) = (-1) →
        K (-103) h1) ∧
      ((h1 68 21) = (-1) →
        (((h1 68 19) ≤ 1 →
          K (-103) h1) ∧
        (1 < (h1 68 19) →
          MD_areOthers g h1 (fun r4 h3 =>
            ((r4 = 0 →
              K (-103) h3) ∧
            (¬ r4 = 0 →
              MD_isOrdered g h3 (fun r6 h5 =>
                ((r6 = 0 →
                  K (-103) h5) ∧
                (¬ r6 = 0 →
                  (∀ h7, h7 = mvUpd h5 68 0 (h5 68 19) →
                  MD_run_64 g h7 (some 1) 0 K))))))))))))))) : MD_run g h  K := by
  refine rc_aload_n mq210 (mvDec_of cd210 rfl) rfl ?_
  refine rc_callV [mvR 68] [] [some (mvR 68), none] mq210 (mvDec_of cd210 rfl) lk_10_120 mq159 (by decide) rfl rfl (Nat.le_of_ble_eq_true rfl) (Nat.le_of_ble_eq_true rfl) (by decide) rfl mis68 rfl (ri_bind H (fun r2 h1 H => ?_))
  refine rc_aload_n mq210 (mvDec_of cd210 rfl) rfl ?_
  refine rc_getI 17 mq210 (mvDec_of cd210 rfl) fl_10_99 mis68 rfl (by decide) (by decide) ?_
  refine rc_icmp_ne (t := 45) mq210 (mvDec_of cd210 rfl) rfl (fun hc => ?_) (fun hc => ?_)
  · replace H := H.1 hc
    refine rc_iconst mq210 (mvDec_of cd210 rfl) (by decide) ?_
    refine rc_istore_n [some (mvR 68), some (mvI 0), none] mq210 (mvDec_of cd210 rfl) rfl ?_
    refine rc_iload_n mq210 (mvDec_of cd210 rfl) rfl ?_
    refine rc_ifF (t := 54) mq210 (mvDec_of cd210 rfl) rfl rfl ?_
    refine rc_bipush mq210 (mvDec_of cd210 rfl) (by decide) ?_
    exact rc_iret mq210 (mvDec_of cd210 rfl) ⟨_, _, rfl, rfl, H⟩
  · replace H := H.2 hc
    refine rc_aload_n mq210 (mvDec_of cd210 rfl) rfl ?_
    refine rc_getI 21 mq210 (mvDec_of cd210 rfl) fl_10_109 mis68 rfl (by decide) (by decide) ?_
    refine rc_iconst mq210 (mvDec_of cd210 rfl) (by decide) ?_
    refine rc_icmp_ne (t := 45) mq210 (mvDec_of cd210 rfl) rfl (fun hc => ?_) (fun hc => ?_)
    · replace H := H.1 hc
      refine rc_iconst mq210 (mvDec_of cd210 rfl) (by decide) ?_
      refine rc_istore_n [some (mvR 68), some (mvI 0), none] mq210 (mvDec_of cd210 rfl) rfl ?_
      refine rc_iload_n mq210 (mvDec_of cd210 rfl) rfl ?_
      refine rc_ifF (t := 54) mq210 (mvDec_of cd210 rfl) rfl rfl ?_
      refine rc_bipush mq210 (mvDec_of cd210 rfl) (by decide) ?_
      exact rc_iret mq210 (mvDec_of cd210 rfl) ⟨_, _, rfl, rfl, H⟩
    · replace H := H.2 hc
      refine rc_aload_n mq210 (mvDec_of cd210 rfl) rfl ?_
      refine rc_getI 19 mq210 (mvDec_of cd210 rfl) fl_10_103 mis68 rfl (by decide) (by decide) ?_
      refine rc_iconst mq210 (mvDec_of cd210 rfl) (by decide) ?_
      refine rc_icmp_le (t := 45) mq210 (mvDec_of cd210 rfl) rfl (fun hc => ?_) (fun hc => ?_)
      · replace H := H.1 hc
        refine rc_iconst mq210 (mvDec_of cd210 rfl) (by decide) ?_
        refine rc_istore_n [some (mvR 68), some (mvI 0), none] mq210 (mvDec_of cd210 rfl) rfl ?_
        refine rc_iload_n mq210 (mvDec_of cd210 rfl) rfl ?_
        refine rc_ifF (t := 54) mq210 (mvDec_of cd210 rfl) rfl rfl ?_
        refine rc_bipush mq210 (mvDec_of cd210 rfl) (by decide) ?_
        exact rc_iret mq210 (mvDec_of cd210 rfl) ⟨_, _, rfl, rfl, H⟩
      · replace H := H.2 hc
        refine rc_aload_n mq210 (mvDec_of cd210 rfl) rfl ?_
        refine rc_callV [mvR 68] [] [some (mvR 68), none, none, none, none] mq210 (mvDec_of cd210 rfl) lk_10_131 mq41 (by decide) rfl rfl (Nat.le_of_ble_eq_true rfl) (Nat.le_of_ble_eq_true rfl) (by decide) rfl mis68 rfl (ri_bind H (fun r4 h3 H => ?_))
        refine rc_if_eq (t := 45) mq210 (mvDec_of cd210 rfl) rfl (fun hc => ?_) (fun hc => ?_)
        · replace H := H.1 hc
          refine rc_iconst mq210 (mvDec_of cd210 rfl) (by decide) ?_
          refine rc_istore_n [some (mvR 68), some (mvI 0), none] mq210 (mvDec_of cd210 rfl) rfl ?_
          refine rc_iload_n mq210 (mvDec_of cd210 rfl) rfl ?_
          refine rc_ifF (t := 54) mq210 (mvDec_of cd210 rfl) rfl rfl ?_
          refine rc_bipush mq210 (mvDec_of cd210 rfl) (by decide) ?_
          exact rc_iret mq210 (mvDec_of cd210 rfl) ⟨_, _, rfl, rfl, H⟩
        · replace H := H.2 hc
          refine rc_aload_n mq210 (mvDec_of cd210 rfl) rfl ?_
          refine rc_callV [mvR 68] [] [some (mvR 68), none, none, none] mq210 (mvDec_of cd210 rfl) lk_10_135 mq160 (by decide) rfl rfl (Nat.le_of_ble_eq_true rfl) (Nat.le_of_ble_eq_true rfl) (by decide) rfl mis68 rfl (ri_bind H (fun r6 h5 H => ?_))
          refine rc_if_eq (t := 45) mq210 (mvDec_of cd210 rfl) rfl (fun hc => ?_) (fun hc => ?_)
          · replace H := H.1 hc
            refine rc_iconst mq210 (mvDec_of cd210 rfl) (by decide) ?_
            refine rc_istore_n [some (mvR 68), some (mvI 0), none] mq210 (mvDec_of cd210 rfl) rfl ?_
            refine rc_iload_n mq210 (mvDec_of cd210 rfl) rfl ?_
            refine rc_ifF (t := 54) mq210 (mvDec_of cd210 rfl) rfl rfl ?_
            refine rc_bipush mq210 (mvDec_of cd210 rfl) (by decide) ?_
            exact rc_iret mq210 (mvDec_of cd210 rfl) ⟨_, _, rfl, rfl, H⟩
          · replace H := H.2 hc
            refine rc_iconst mq210 (mvDec_of cd210 rfl) (by decide) ?_
            refine rc_goto (t := 46) mq210 (mvDec_of cd210 rfl) rfl ?_
            refine rc_istore_n [some (mvR 68), some (mvI 1), none] mq210 (mvDec_of cd210 rfl) rfl ?_
            refine rc_iload_n mq210 (mvDec_of cd210 rfl) rfl ?_
            refine rc_ifT (t := 54) mq210 (mvDec_of cd210 rfl) rfl rfl ?_
            refine rc_aload_n mq210 (mvDec_of cd210 rfl) rfl ?_
            refine rc_aload_n mq210 (mvDec_of cd210 rfl) rfl ?_
            refine rc_getI 19 mq210 (mvDec_of cd210 rfl) fl_10_103 mis68 rfl (by decide) (by decide) ?_
            refine rc_putI 0 mq210 (mvDec_of cd210 rfl) fl_10_138 mis68 rfl (fun z => absurd z (by decide)) (Or.inl rfl) ?_
            refine rc_heap (fun h7 hh => ?_)
            replace H := H h7 hh
            refine rc_iconst mq210 (mvDec_of cd210 rfl) (by decide) ?_
            refine rc_istore_n [some (mvR 68), some (mvI 1), some (mvI 0)] mq210 (mvDec_of cd210 rfl) rfl ?_
            exact H
theorem MD_run_64_wp {sw : Bool} {g : Nat → Nat → Nat} {h : Nat → Int → Int} {u1 : Option Int} {l2 : Int} {K : Int → (Nat → Int → Int) → Prop} (hG : Gok sw g)  (H :
  ((4 ≤ l2 →
    MD_run_98 g h u1 0 K) ∧
  (l2 < 4 →
    (0 ≤ l2 ∧ l2 < 4) ∧
    (0 ≤ l2 ∧ l2 < 4) ∧
    (∀ h1, h1 = mvUpd h 69 l2 (h 77 l2) →
    (0 ≤ l2 ∧ l2 < 4) ∧
    (∀ h2, h2 = mvUpd h1 74 l2 1023 →
    MD_run_64 g h2 u1 (mw (l2 + 1)) K))))) : MD_run_64 g h u1 l2 K := by
  refine rc_iload_n mq210 (mvDec_of cd210 rfl) rfl ?_
  refine rc_iconst mq210 (mvDec_of cd210 rfl) (by decide) ?_
  refine rc_icmp_ge (t := 96) mq210 (mvDec_of cd210 rfl) rfl (fun hc => ?_) (fun hc => ?_)
  · replace H := H.1 hc
    refine rc_iconst mq210 (mvDec_of cd210 rfl) (by decide) ?_
    refine rc_istore_n [some (mvR 68), u1.map mvI, some (mvI 0)] mq210 (mvDec_of cd210 rfl) (by cases u1 <;> rfl) ?_
    exact H
  · replace H := H.2 hc
    refine rc_aload_n mq210 (mvDec_of cd210 rfl) rfl ?_
    refine rc_getR 69 mq210 (mvDec_of cd210 rfl) fl_10_7 mis68 rfl (gr_68_1 hG) (by decide) ?_
    refine rc_iload_n mq210 (mvDec_of cd210 rfl) rfl ?_
    refine rc_aload_n mq210 (mvDec_of cd210 rfl) rfl ?_
    refine rc_getR 77 mq210 (mvDec_of cd210 rfl) fl_10_34 mis68 rfl (gr_68_22 hG) (by decide) ?_
    refine rc_iload_n mq210 (mvDec_of cd210 rfl) rfl ?_
    obtain ⟨⟨hb0, hb1⟩, H⟩ := H
    refine rc_iald mq210 (mvDec_of cd210 rfl) mis77 hb0 hb1 ?_
    obtain ⟨⟨hb0, hb1⟩, H⟩ := H
    refine rc_iast mq210 (mvDec_of cd210 rfl) mis69 hb0 hb1 ?_
    refine rc_heap (fun h1 hh => ?_)
    replace H := H h1 hh
    refine rc_aload_n mq210 (mvDec_of cd210 rfl) rfl ?_
    refine rc_getR 74 mq210 (mvDec_of cd210 rfl) fl_10_25 mis68 rfl (gr_68_6 hG) (by decide) ?_
    refine rc_iload_n mq210 (mvDec_of cd210 rfl) rfl ?_
    refine rc_sipush mq210 (mvDec_of cd210 rfl) (by decide) ?_
    obtain ⟨⟨hb0, hb1⟩, H⟩ := H
    refine rc_iast mq210 (mvDec_of cd210 rfl) mis74 hb0 hb1 ?_
    refine rc_heap (fun h2 hh => ?_)
    replace H := H h2 hh
    refine rc_iinc [some (mvR 68), u1.map mvI, some (mvI (mw (l2 + 1)))] mq210 (mvDec_of cd210 rfl) rfl (by cases u1 <;> rfl) ?_
    refine rc_goto (t := 64) mq210 (mvDec_of cd210 rfl) rfl ?_
    exact H
theorem MD_run_98_wp {sw : Bool} {g : Nat → Nat → Nat} {h : Nat → Int → Int} {u1 : Option Int} {l2 : Int} {K : Int → (Nat → Int → Int) → Prop} (hG : Gok sw g)  (H :
  ((36 ≤ l2 →
    (∀ h1, h1 = mvUpd h 68 9 (mw ((h 68 9) + 1)) →
    (∀ h2, h2 = mvUpd h1 68 17 0 →
    MD_changes g h2 (fun h3 =>
      K (h3 68 0) h3)))) ∧
  (l2 < 36 →
    (0 ≤ l2 ∧ l2 < 36) ∧
    (0 ≤ l2 ∧ l2 < 36) ∧
    (∀ h4, h4 = mvUpd h 70 l2 (h 78 l2) →
    (0 ≤ l2 ∧ l2 < 36) ∧
    (0 ≤ l2 ∧ l2 < 36) ∧
    (∀ h5, h5 = mvUpd h4 71 l2 (h4 79 l2) →
    MD_run_98 g h5 u1 (mw (l2 + 1)) K))))) : MD_run_98 g h u1 l2 K := by
  refine rc_iload_n mq210 (mvDec_of cd210 rfl) rfl ?_
  refine rc_bipush mq210 (mvDec_of cd210 rfl) (by decide) ?_
  refine rc_icmp_ge (t := 134) mq210 (mvDec_of cd210 rfl) rfl (fun hc => ?_) (fun hc => ?_)
  · replace H := H.1 hc
    refine rc_aload_n mq210 (mvDec_of cd210 rfl) rfl ?_
    refine rc_dup mq210 (mvDec_of cd210 rfl) rfl ?_
    refine rc_getI 9 mq210 (mvDec_of cd210 rfl) fl_10_141 mis68 rfl (by decide) (by decide) ?_
    refine rc_iconst mq210 (mvDec_of cd210 rfl) (by decide) ?_
    refine rc_iadd mq210 (mvDec_of cd210 rfl) ?_
    refine rc_putI 9 mq210 (mvDec_of cd210 rfl) fl_10_141 mis68 rfl (fun z => absurd z (by decide)) (Or.inl rfl) ?_
    refine rc_heap (fun h1 hh => ?_)
    replace H := H h1 hh
    refine rc_aload_n mq210 (mvDec_of cd210 rfl) rfl ?_
    refine rc_iconst mq210 (mvDec_of cd210 rfl) (by decide) ?_
    refine rc_putI 17 mq210 (mvDec_of cd210 rfl) fl_10_99 mis68 rfl (fun z => absurd z (by decide)) (Or.inl rfl) ?_
    refine rc_heap (fun h2 hh => ?_)
    replace H := H h2 hh
    refine rc_aload_n mq210 (mvDec_of cd210 rfl) rfl ?_
    refine rc_callV [mvR 68] [] [some (mvR 68)] mq210 (mvDec_of cd210 rfl) lk_10_144 mq189 (by decide) rfl rfl (Nat.le_of_ble_eq_true rfl) (Nat.le_of_ble_eq_true rfl) (by decide) rfl mis68 rfl (rv_bind H (fun h3 H => ?_))
    refine rc_aload_n mq210 (mvDec_of cd210 rfl) rfl ?_
    refine rc_getI 0 mq210 (mvDec_of cd210 rfl) fl_10_138 mis68 rfl (by decide) (by decide) ?_
    exact rc_iret mq210 (mvDec_of cd210 rfl) ⟨_, _, rfl, rfl, H⟩
  · replace H := H.2 hc
    refine rc_aload_n mq210 (mvDec_of cd210 rfl) rfl ?_
    refine rc_getR 70 mq210 (mvDec_of cd210 rfl) fl_10_13 mis68 rfl (gr_68_2 hG) (by decide) ?_
    refine rc_iload_n mq210 (mvDec_of cd210 rfl) rfl ?_
    refine rc_aload_n mq210 (mvDec_of cd210 rfl) rfl ?_
    refine rc_getR 78 mq210 (mvDec_of cd210 rfl) fl_10_37 mis68 rfl (gr_68_23 hG) (by decide) ?_
    refine rc_iload_n mq210 (mvDec_of cd210 rfl) rfl ?_
    obtain ⟨⟨hb0, hb1⟩, H⟩ := H
    refine rc_iald mq210 (mvDec_of cd210 rfl) mis78 hb0 hb1 ?_
    obtain ⟨⟨hb0, hb1⟩, H⟩ := H
    refine rc_iast mq210 (mvDec_of cd210 rfl) mis70 hb0 hb1 ?_
    refine rc_heap (fun h4 hh => ?_)
    replace H := H h4 hh
    refine rc_aload_n mq210 (mvDec_of cd210 rfl) rfl ?_
    refine rc_getR 71 mq210 (mvDec_of cd210 rfl) fl_10_16 mis68 rfl (gr_68_3 hG) (by decide) ?_
    refine rc_iload_n mq210 (mvDec_of cd210 rfl) rfl ?_
    refine rc_aload_n mq210 (mvDec_of cd210 rfl) rfl ?_
    refine rc_getR 79 mq210 (mvDec_of cd210 rfl) fl_10_40 mis68 rfl (gr_68_24 hG) (by decide) ?_
    refine rc_iload_n mq210 (mvDec_of cd210 rfl) rfl ?_
    obtain ⟨⟨hb0, hb1⟩, H⟩ := H
    refine rc_iald mq210 (mvDec_of cd210 rfl) mis79 hb0 hb1 ?_
    obtain ⟨⟨hb0, hb1⟩, H⟩ := H
    refine rc_iast mq210 (mvDec_of cd210 rfl) mis71 hb0 hb1 ?_
    refine rc_heap (fun h5 hh => ?_)
    replace H := H h5 hh
    refine rc_iinc [some (mvR 68), u1.map mvI, some (mvI (mw (l2 + 1)))] mq210 (mvDec_of cd210 rfl) rfl (by cases u1 <;> rfl) ?_
    refine rc_goto (t := 98) mq210 (mvDec_of cd210 rfl) rfl ?_
    exact H
abbrev MD_comes (g : Nat → Nat → Nat) (h : Nat → Int → Int) (x1 : Int) (x2 : Int) (x3 : Int) (K : Int → (Nat → Int → Int) → Prop) : Prop := RI 211 0 [some (mvR 68), some (mvI x1), some (mvI x2), some (mvI x3)] [] g h K
theorem MD_comes_wp {sw : Bool} {g : Nat → Nat → Nat} {h : Nat → Int → Int} {x1 : Int} {x2 : Int} {x3 : Int} {K : Int → (Nat → Int → Int) → Prop} (hG : Gok sw g)  (H :
  (0 ≤ x1 ∧ x1 < 4) ∧
  (0 ≤ (mw ((mw (9 * x1)) + (h 69 x1))) ∧ (mw ((mw (9 * x1)) + (h 69 x1))) < 36) ∧
  (∀ h1, h1 = mvUpd h 70 (mw ((mw (9 * x1)) + (h 69 x1))) x2 →
  (0 ≤ x1 ∧ x1 < 4) ∧
  (0 ≤ (mw ((mw (9 * x1)) + (h1 69 x1))) ∧ (mw ((mw (9 * x1)) + (h1 69 x1))) < 36) ∧
  (∀ h2, h2 = mvUpd h1 71 (mw ((mw (9 * x1)) + (h1 69 x1))) x3 →
  (0 ≤ x1 ∧ x1 < 4) ∧
  (0 ≤ x1 ∧ x1 < 4) ∧
  (∀ h3, h3 = mvUpd h2 69 x1 (mw ((h2 69 x1) + 1)) →
  MD_changes g h3 (fun h4 =>
    (0 ≤ x1 ∧ x1 < 4) ∧
    K (h4 69 x1) h4))))) : MD_comes g h x1 x2 x3 K := by
  refine rc_aload_n mq211 (mvDec_of cd211 rfl) rfl ?_
  refine rc_getR 70 mq211 (mvDec_of cd211 rfl) fl_10_13 mis68 rfl (gr_68_2 hG) (by decide) ?_
  refine rc_bipush mq211 (mvDec_of cd211 rfl) (by decide) ?_
  refine rc_iload_n mq211 (mvDec_of cd211 rfl) rfl ?_
  refine rc_imul mq211 (mvDec_of cd211 rfl) ?_
  refine rc_aload_n mq211 (mvDec_of cd211 rfl) rfl ?_
  refine rc_getR 69 mq211 (mvDec_of cd211 rfl) fl_10_7 mis68 rfl (gr_68_1 hG) (by decide) ?_
  refine rc_iload_n mq211 (mvDec_of cd211 rfl) rfl ?_
  obtain ⟨⟨hb0, hb1⟩, H⟩ := H
  refine rc_iald mq211 (mvDec_of cd211 rfl) mis69 hb0 hb1 ?_
  refine rc_iadd mq211 (mvDec_of cd211 rfl) ?_
  refine rc_iload_n mq211 (mvDec_of cd211 rfl) rfl ?_
  obtain ⟨⟨hb0, hb1⟩, H⟩ := H
  refine rc_iast mq211 (mvDec_of cd211 rfl) mis70 hb0 hb1 ?_
  refine rc_heap (fun h1 hh => ?_)
  replace H := H h1 hh
  refine rc_aload_n mq211 (mvDec_of cd211 rfl) rfl ?_
  refine rc_getR 71 mq211 (mvDec_of cd211 rfl) fl_10_16 mis68 rfl (gr_68_3 hG) (by decide) ?_
  refine rc_bipush mq211 (mvDec_of cd211 rfl) (by decide) ?_
  refine rc_iload_n mq211 (mvDec_of cd211 rfl) rfl ?_
  refine rc_imul mq211 (mvDec_of cd211 rfl) ?_
  refine rc_aload_n mq211 (mvDec_of cd211 rfl) rfl ?_
  refine rc_getR 69 mq211 (mvDec_of cd211 rfl) fl_10_7 mis68 rfl (gr_68_1 hG) (by decide) ?_
  refine rc_iload_n mq211 (mvDec_of cd211 rfl) rfl ?_
  obtain ⟨⟨hb0, hb1⟩, H⟩ := H
  refine rc_iald mq211 (mvDec_of cd211 rfl) mis69 hb0 hb1 ?_
  refine rc_iadd mq211 (mvDec_of cd211 rfl) ?_
  refine rc_iload_n mq211 (mvDec_of cd211 rfl) rfl ?_
  obtain ⟨⟨hb0, hb1⟩, H⟩ := H
  refine rc_iast mq211 (mvDec_of cd211 rfl) mis71 hb0 hb1 ?_
  refine rc_heap (fun h2 hh => ?_)
  replace H := H h2 hh
  refine rc_aload_n mq211 (mvDec_of cd211 rfl) rfl ?_
  refine rc_getR 69 mq211 (mvDec_of cd211 rfl) fl_10_7 mis68 rfl (gr_68_1 hG) (by decide) ?_
  refine rc_iload_n mq211 (mvDec_of cd211 rfl) rfl ?_
  refine rc_dup2 mq211 (mvDec_of cd211 rfl) rfl rfl ?_
  obtain ⟨⟨hb0, hb1⟩, H⟩ := H
  refine rc_iald mq211 (mvDec_of cd211 rfl) mis69 hb0 hb1 ?_
  refine rc_iconst mq211 (mvDec_of cd211 rfl) (by decide) ?_
  refine rc_iadd mq211 (mvDec_of cd211 rfl) ?_
  obtain ⟨⟨hb0, hb1⟩, H⟩ := H
  refine rc_iast mq211 (mvDec_of cd211 rfl) mis69 hb0 hb1 ?_
  refine rc_heap (fun h3 hh => ?_)
  replace H := H h3 hh
  refine rc_aload_n mq211 (mvDec_of cd211 rfl) rfl ?_
  refine rc_callV [mvR 68] [] [some (mvR 68)] mq211 (mvDec_of cd211 rfl) lk_10_144 mq189 (by decide) rfl rfl (Nat.le_of_ble_eq_true rfl) (Nat.le_of_ble_eq_true rfl) (by decide) rfl mis68 rfl (rv_bind H (fun h4 H => ?_))
  refine rc_aload_n mq211 (mvDec_of cd211 rfl) rfl ?_
  refine rc_getR 69 mq211 (mvDec_of cd211 rfl) fl_10_7 mis68 rfl (gr_68_1 hG) (by decide) ?_
  refine rc_iload_n mq211 (mvDec_of cd211 rfl) rfl ?_
  obtain ⟨⟨hb0, hb1⟩, H⟩ := H
  refine rc_iald mq211 (mvDec_of cd211 rfl) mis69 hb0 hb1 ?_
  exact rc_iret mq211 (mvDec_of cd211 rfl) ⟨_, _, rfl, rfl, H⟩
abbrev MD_back (g : Nat → Nat → Nat) (h : Nat → Int → Int) (x1 : Int) (K : Int → (Nat → Int → Int) → Prop) : Prop := RI 212 0 [some (mvR 68), some (mvI x1), none] [] g h K
theorem MD_back_wp {sw : Bool} {g : Nat → Nat → Nat} {h : Nat → Int → Int} {x1 : Int} {K : Int → (Nat → Int → Int) → Prop} (hG : Gok sw g)  (H :
  ((x1 < 0 →
    K (-101) h) ∧
  (0 ≤ x1 →
    (((mw ((h 68 0) - 1)) < x1 →
      K (-101) h) ∧
    (x1 ≤ (mw ((h 68 0) - 1)) →
      (0 ≤ x1 ∧ x1 < 4) ∧
      (∀ v1, v1 = (mw ((mw ((mw (9 * x1)) + (h 69 x1))) - 1)) →
      (0 ≤ x1 ∧ x1 < 4) ∧
      (((h 69 x1) = 0 →
        K (-103) h) ∧
      (¬ (h 69 x1) = 0 →
        (0 ≤ v1 ∧ v1 < 36) ∧
        ((¬ (h 70 v1) = 1 →
          (0 ≤ x1 ∧ x1 < 4) ∧
          (0 ≤ x1 ∧ x1 < 4) ∧
          (∀ h2, h2 = mvUpd h 69 x1 (mw ((h 69 x1) - 1)) →
          MD_changes g h2 (fun h3 =>
            (0 ≤ x1 ∧ x1 < 4) ∧
            K (h3 69 x1) h3))) ∧
        ((h 70 v1) = 1 →
          (0 ≤ v1 ∧ v1 < 36) ∧
          (((h 72 v1) = (-1) →
            (0 ≤ x1 ∧ x1 < 4) ∧
            (0 ≤ x1 ∧ x1 < 4) ∧
            (∀ h4, h4 = mvUpd h 69 x1 (mw ((h 69 x1) - 1)) →
            MD_changes g h4 (fun h5 =>
              (0 ≤ x1 ∧ x1 < 4) ∧
              K (h5 69 x1) h5))) ∧
          (¬ (h 72 v1) = (-1) →
            K (-103) h)))))))))))) : MD_back g h x1 K := by
  refine rc_aload_n mq212 (mvDec_of cd212 rfl) rfl ?_
  refine rc_iload_n mq212 (mvDec_of cd212 rfl) rfl ?_
  refine rc_callV [mvR 68, mvI x1] [] [some (mvR 68), some (mvI x1)] mq212 (mvDec_of cd212 rfl) lk_10_170 mq116 (by decide) rfl rfl (Nat.le_of_ble_eq_true rfl) (Nat.le_of_ble_eq_true rfl) (by decide) rfl mis68 rfl ?_
  refine rc_iload_n mq116 (mvDec_of cd116 rfl) rfl ?_
  refine rc_iconst mq116 (mvDec_of cd116 rfl) (by decide) ?_
  refine rc_aload_n mq116 (mvDec_of cd116 rfl) rfl ?_
  refine rc_getI 0 mq116 (mvDec_of cd116 rfl) fl_10_138 mis68 rfl (by decide) (by decide) ?_
  refine rc_iconst mq116 (mvDec_of cd116 rfl) (by decide) ?_
  refine rc_isub mq116 (mvDec_of cd116 rfl) ?_
  refine rc_callS [mvI x1, mvI 0, mvI (mw ((h 68 0) - 1))] [] [some (mvI x1), some (mvI 0), some (mvI (mw ((h 68 0) - 1)))] mq116 (mvDec_of cd116 rfl) lk_10_95 mq38 (by decide) rfl rfl (Nat.le_of_ble_eq_true rfl) (Nat.le_of_ble_eq_true rfl) (by decide) rfl ?_
  refine rc_iload_n mq38 (mvDec_of cd38 rfl) rfl ?_
  refine rc_iload_n mq38 (mvDec_of cd38 rfl) rfl ?_
  refine rc_icmp_lt (t := 14) mq38 (mvDec_of cd38 rfl) rfl (fun hc => ?_) (fun hc => ?_)
  · replace H := H.1 hc
    refine rc_iconst mq38 (mvDec_of cd38 rfl) (by decide) ?_
    refine rc_zret mq38 (mvDec_of cd38 rfl) (Or.inl rfl) ?_
    show Rch 116 11 [some (mvR 68), some (mvI x1)] [mvI 0] (97, g, h) _
    refine rc_zret mq116 (mvDec_of cd116 rfl) (Or.inl rfl) ?_
    show Rch 212 5 [some (mvR 68), some (mvI x1), none] [mvI 0] (97, g, h) _
    refine rc_ifF (t := 11) mq212 (mvDec_of cd212 rfl) rfl rfl ?_
    refine rc_bipush mq212 (mvDec_of cd212 rfl) (by decide) ?_
    exact rc_iret mq212 (mvDec_of cd212 rfl) ⟨_, _, rfl, rfl, H⟩
  · replace H := H.2 hc
    refine rc_iload_n mq38 (mvDec_of cd38 rfl) rfl ?_
    refine rc_iload_n mq38 (mvDec_of cd38 rfl) rfl ?_
    refine rc_icmp_gt (t := 14) mq38 (mvDec_of cd38 rfl) rfl (fun hc => ?_) (fun hc => ?_)
    · replace H := H.1 hc
      refine rc_iconst mq38 (mvDec_of cd38 rfl) (by decide) ?_
      refine rc_zret mq38 (mvDec_of cd38 rfl) (Or.inl rfl) ?_
      show Rch 116 11 [some (mvR 68), some (mvI x1)] [mvI 0] (97, g, h) _
      refine rc_zret mq116 (mvDec_of cd116 rfl) (Or.inl rfl) ?_
      show Rch 212 5 [some (mvR 68), some (mvI x1), none] [mvI 0] (97, g, h) _
      refine rc_ifF (t := 11) mq212 (mvDec_of cd212 rfl) rfl rfl ?_
      refine rc_bipush mq212 (mvDec_of cd212 rfl) (by decide) ?_
      exact rc_iret mq212 (mvDec_of cd212 rfl) ⟨_, _, rfl, rfl, H⟩
    · replace H := H.2 hc
      refine rc_iconst mq38 (mvDec_of cd38 rfl) (by decide) ?_
      refine rc_goto (t := 15) mq38 (mvDec_of cd38 rfl) rfl ?_
      refine rc_zret mq38 (mvDec_of cd38 rfl) (Or.inr rfl) ?_
      show Rch 116 11 [some (mvR 68), some (mvI x1)] [mvI 1] (97, g, h) _
      refine rc_zret mq116 (mvDec_of cd116 rfl) (Or.inr rfl) ?_
      show Rch 212 5 [some (mvR 68), some (mvI x1), none] [mvI 1] (97, g, h) _
      refine rc_ifT (t := 11) mq212 (mvDec_of cd212 rfl) rfl rfl ?_
      refine rc_bipush mq212 (mvDec_of cd212 rfl) (by decide) ?_
      refine rc_iload_n mq212 (mvDec_of cd212 rfl) rfl ?_
      refine rc_imul mq212 (mvDec_of cd212 rfl) ?_
      refine rc_aload_n mq212 (mvDec_of cd212 rfl) rfl ?_
      refine rc_getR 69 mq212 (mvDec_of cd212 rfl) fl_10_7 mis68 rfl (gr_68_1 hG) (by decide) ?_
      refine rc_iload_n mq212 (mvDec_of cd212 rfl) rfl ?_
      obtain ⟨⟨hb0, hb1⟩, H⟩ := H
      refine rc_iald mq212 (mvDec_of cd212 rfl) mis69 hb0 hb1 ?_
      refine rc_iadd mq212 (mvDec_of cd212 rfl) ?_
      refine rc_iconst mq212 (mvDec_of cd212 rfl) (by decide) ?_
      refine rc_isub mq212 (mvDec_of cd212 rfl) ?_
      refine rc_top (fun v1 hv => ?_)
      replace H := H v1 hv
      refine rc_istore_n [some (mvR 68), some (mvI x1), some (mvI v1)] mq212 (mvDec_of cd212 rfl) rfl ?_
      refine rc_aload_n mq212 (mvDec_of cd212 rfl) rfl ?_
      refine rc_getR 69 mq212 (mvDec_of cd212 rfl) fl_10_7 mis68 rfl (gr_68_1 hG) (by decide) ?_
      refine rc_iload_n mq212 (mvDec_of cd212 rfl) rfl ?_
      obtain ⟨⟨hb0, hb1⟩, H⟩ := H
      refine rc_iald mq212 (mvDec_of cd212 rfl) mis69 hb0 hb1 ?_
      refine rc_if_eq (t := 54) mq212 (mvDec_of cd212 rfl) rfl (fun hc => ?_) (fun hc => ?_)
      · replace H := H.1 hc
        refine rc_bipush mq212 (mvDec_of cd212 rfl) (by decide) ?_
        exact rc_iret mq212 (mvDec_of cd212 rfl) ⟨_, _, rfl, rfl, H⟩
      · replace H := H.2 hc
        refine rc_aload_n mq212 (mvDec_of cd212 rfl) rfl ?_
        refine rc_getR 70 mq212 (mvDec_of cd212 rfl) fl_10_13 mis68 rfl (gr_68_2 hG) (by decide) ?_
        refine rc_iload_n mq212 (mvDec_of cd212 rfl) rfl ?_
        obtain ⟨⟨hb0, hb1⟩, H⟩ := H
        refine rc_iald mq212 (mvDec_of cd212 rfl) mis70 hb0 hb1 ?_
        refine rc_iconst mq212 (mvDec_of cd212 rfl) (by decide) ?_
        refine rc_icmp_ne (t := 57) mq212 (mvDec_of cd212 rfl) rfl (fun hc => ?_) (fun hc => ?_)
        · replace H := H.1 hc
          refine rc_aload_n mq212 (mvDec_of cd212 rfl) rfl ?_
          refine rc_getR 69 mq212 (mvDec_of cd212 rfl) fl_10_7 mis68 rfl (gr_68_1 hG) (by decide) ?_
          refine rc_iload_n mq212 (mvDec_of cd212 rfl) rfl ?_
          refine rc_dup2 mq212 (mvDec_of cd212 rfl) rfl rfl ?_
          obtain ⟨⟨hb0, hb1⟩, H⟩ := H
          refine rc_iald mq212 (mvDec_of cd212 rfl) mis69 hb0 hb1 ?_
          refine rc_iconst mq212 (mvDec_of cd212 rfl) (by decide) ?_
          refine rc_isub mq212 (mvDec_of cd212 rfl) ?_
          obtain ⟨⟨hb0, hb1⟩, H⟩ := H
          refine rc_iast mq212 (mvDec_of cd212 rfl) mis69 hb0 hb1 ?_
          refine rc_heap (fun h2 hh => ?_)
          replace H := H h2 hh
          refine rc_aload_n mq212 (mvDec_of cd212 rfl) rfl ?_
          refine rc_callV [mvR 68] [] [some (mvR 68)] mq212 (mvDec_of cd212 rfl) lk_10_144 mq189 (by decide) rfl rfl (Nat.le_of_ble_eq_true rfl) (Nat.le_of_ble_eq_true rfl) (by decide) rfl mis68 rfl (rv_bind H (fun h3 H => ?_))
          refine rc_aload_n mq212 (mvDec_of cd212 rfl) rfl ?_
          refine rc_getR 69 mq212 (mvDec_of cd212 rfl) fl_10_7 mis68 rfl (gr_68_1 hG) (by decide) ?_
          refine rc_iload_n mq212 (mvDec_of cd212 rfl) rfl ?_
          obtain ⟨⟨hb0, hb1⟩, H⟩ := H
          refine rc_iald mq212 (mvDec_of cd212 rfl) mis69 hb0 hb1 ?_
          exact rc_iret mq212 (mvDec_of cd212 rfl) ⟨_, _, rfl, rfl, H⟩
        · replace H := H.2 hc
          refine rc_aload_n mq212 (mvDec_of cd212 rfl) rfl ?_
          refine rc_getR 72 mq212 (mvDec_of cd212 rfl) fl_10_19 mis68 rfl (gr_68_4 hG) (by decide) ?_
          refine rc_iload_n mq212 (mvDec_of cd212 rfl) rfl ?_
          obtain ⟨⟨hb0, hb1⟩, H⟩ := H
          refine rc_iald mq212 (mvDec_of cd212 rfl) mis72 hb0 hb1 ?_
          refine rc_iconst mq212 (mvDec_of cd212 rfl) (by decide) ?_
          refine rc_icmp_eq (t := 57) mq212 (mvDec_of cd212 rfl) rfl (fun hc => ?_) (fun hc => ?_)
          · replace H := H.1 hc
            refine rc_aload_n mq212 (mvDec_of cd212 rfl) rfl ?_
            refine rc_getR 69 mq212 (mvDec_of cd212 rfl) fl_10_7 mis68 rfl (gr_68_1 hG) (by decide) ?_
            refine rc_iload_n mq212 (mvDec_of cd212 rfl) rfl ?_
            refine rc_dup2 mq212 (mvDec_of cd212 rfl) rfl rfl ?_
            obtain ⟨⟨hb0, hb1⟩, H⟩ := H
            refine rc_iald mq212 (mvDec_of cd212 rfl) mis69 hb0 hb1 ?_
            refine rc_iconst mq212 (mvDec_of cd212 rfl) (by decide) ?_
            refine rc_isub mq212 (mvDec_of cd212 rfl) ?_
            obtain ⟨⟨hb0, hb1⟩, H⟩ := H
            refine rc_iast mq212 (mvDec_of cd212 rfl) mis69 hb0 hb1 ?_
            refine rc_heap (fun h4 hh => ?_)
            replace H := H h4 hh
            refine rc_aload_n mq212 (mvDec_of cd212 rfl) rfl ?_
            refine rc_callV [mvR 68] [] [some (mvR 68)] mq212 (mvDec_of cd212 rfl) lk_10_144 mq189 (by decide) rfl rfl (Nat.le_of_ble_eq_true rfl) (Nat.le_of_ble_eq_true rfl) (by decide) rfl mis68 rfl (rv_bind H (fun h5 H => ?_))
            refine rc_aload_n mq212 (mvDec_of cd212 rfl) rfl ?_
            refine rc_getR 69 mq212 (mvDec_of cd212 rfl) fl_10_7 mis68 rfl (gr_68_1 hG) (by decide) ?_
            refine rc_iload_n mq212 (mvDec_of cd212 rfl) rfl ?_
            obtain ⟨⟨hb0, hb1⟩, H⟩ := H
            refine rc_iald mq212 (mvDec_of cd212 rfl) mis69 hb0 hb1 ?_
            exact rc_iret mq212 (mvDec_of cd212 rfl) ⟨_, _, rfl, rfl, H⟩
          · replace H := H.2 hc
            refine rc_bipush mq212 (mvDec_of cd212 rfl) (by decide) ?_
            exact rc_iret mq212 (mvDec_of cd212 rfl) ⟨_, _, rfl, rfl, H⟩
abbrev MD_layCuts (g : Nat → Nat → Nat) (h : Nat → Int → Int)  (K : (Nat → Int → Int) → Prop) : Prop := RV 213 0 [some (mvR 68), none, none, none] [] g h K
abbrev MD_layCuts_7 (g : Nat → Nat → Nat) (h : Nat → Int → Int) (l1 : Int) (l2 : Int) (u3 : Option Int) (K : (Nat → Int → Int) → Prop) : Prop := RV 213 7 [some (mvR 68), some (mvI l1), some (mvI l2), u3.map mvI] [] g h K
abbrev MD_layCuts_54 (g : Nat → Nat → Nat) (h : Nat → Int → Int) (l1 : Int) (l2 : Int) (u3 : Option Int) (K : (Nat → Int → Int) → Prop) : Prop := RV 213 54 [some (mvR 68), some (mvI l1), some (mvI l2), u3.map mvI] [] g h K
abbrev MD_layCuts_79 (g : Nat → Nat → Nat) (h : Nat → Int → Int) (l1 : Int) (l2 : Int) (u3 : Option Int) (K : (Nat → Int → Int) → Prop) : Prop := RV 213 79 [some (mvR 68), some (mvI l1), some (mvI l2), u3.map mvI] [] g h K
abbrev MD_layCuts_97 (g : Nat → Nat → Nat) (h : Nat → Int → Int) (l1 : Int) (l2 : Int) (u3 : Option Int) (K : (Nat → Int → Int) → Prop) : Prop := RV 213 97 [some (mvR 68), some (mvI l1), some (mvI l2), u3.map mvI] [] g h K
abbrev MD_layCuts_132 (g : Nat → Nat → Nat) (h : Nat → Int → Int) (l1 : Int) (l2 : Int) (u3 : Option Int) (K : (Nat → Int → Int) → Prop) : Prop := RV 213 132 [some (mvR 68), some (mvI l1), some (mvI l2), u3.map mvI] [] g h K
abbrev MD_layCuts_139 (g : Nat → Nat → Nat) (h : Nat → Int → Int) (l1 : Int) (l2 : Int) (l3 : Int) (K : (Nat → Int → Int) → Prop) : Prop := RV 213 139 [some (mvR 68), some (mvI l1), some (mvI l2), some (mvI l3)] [] g h K
abbrev MD_layCuts_202 (g : Nat → Nat → Nat) (h : Nat → Int → Int) (u1 : Option Int) (l2 : Int) (u3 : Option Int) (K : (Nat → Int → Int) → Prop) : Prop := RV 213 202 [some (mvR 68), u1.map mvI, some (mvI l2), u3.map mvI] [] g h K
abbrev MD_layCuts_208 (g : Nat → Nat → Nat) (h : Nat → Int → Int) (u1 : Option Int) (l2 : Int) (l3 : Int) (K : (Nat → Int → Int) → Prop) : Prop := RV 213 208 [some (mvR 68), u1.map mvI, some (mvI l2), some (mvI l3)] [] g h K
theorem MD_layCuts_wp {sw : Bool} {g : Nat → Nat → Nat} {h : Nat → Int → Int}  {K : (Nat → Int → Int) → Prop} (hG : Gok sw g)  (H :
  MD_cutsAll g h (fun r2 h1 =>
    MD_layCuts_7 g h1 r2 0 none K)) : MD_layCuts g h  K := by
  refine rc_aload_n mq213 (mvDec_of cd213 rfl) rfl ?_
  refine rc_callV [mvR 68] [] [some (mvR 68), none, none] mq213 (mvDec_of cd213 rfl) lk_10_231 mq49 (by decide) rfl rfl (Nat.le_of_ble_eq_true rfl) (Nat.le_of_ble_eq_true rfl) (by decide) rfl mis68 rfl (ri_bind H (fun r2 h1 H => ?_))
  refine rc_istore_n [some (mvR 68), some (mvI r2), none, none] mq213 (mvDec_of cd213 rfl) rfl ?_
  refine rc_iconst mq213 (mvDec_of cd213 rfl) (by decide) ?_
  refine rc_istore_n [some (mvR 68), some (mvI r2), some (mvI 0), none] mq213 (mvDec_of cd213 rfl) rfl ?_
  exact H
theorem MD_layCuts_7_wp {sw : Bool} {g : Nat → Nat → Nat} {h : Nat → Int → Int} {l1 : Int} {l2 : Int} {u3 : Option Int} {K : (Nat → Int → Int) → Prop} (hG : Gok sw g)  (H :
  ((l1 ≤ l2 →
    MD_layCuts_132 g h l1 0 u3 K) ∧
  (l2 < l1 →
    MD_take g h l2 (fun h1 =>
      MD_isConsistent g h1 (fun r3 h2 =>
        (r3 = 0 ∨ r3 = 1) ∧
        (0 ≤ l2 ∧ l2 < 640) ∧
        (∀ h4, h4 = mvUpd h2 82 l2 r3 →
        (0 ≤ l2 ∧ l2 < 640) ∧
        (((h4 82 l2) = 0 →
          (0 ≤ l2 ∧ l2 < 640) ∧
          (∀ h5, h5 = mvUpd h4 83 l2 0 →
          MD_layCuts_54 g h5 l1 l2 u3 K)) ∧
        (¬ (h4 82 l2) = 0 →
          MD_holds g h4 (fun r7 h6 =>
            ((r7 = 0 →
              (0 ≤ l2 ∧ l2 < 640) ∧
              (∀ h8, h8 = mvUpd h6 83 l2 0 →
              MD_layCuts_54 g h8 l1 l2 u3 K)) ∧
            (¬ r7 = 0 →
              (0 ≤ l2 ∧ l2 < 640) ∧
              (∀ h9, h9 = mvUpd h6 83 l2 1 →
              MD_layCuts_54 g h9 l1 l2 u3 K)))))))))))) : MD_layCuts_7 g h l1 l2 u3 K := by
  refine rc_iload_n mq213 (mvDec_of cd213 rfl) rfl ?_
  refine rc_iload_n mq213 (mvDec_of cd213 rfl) rfl ?_
  refine rc_icmp_ge (t := 130) mq213 (mvDec_of cd213 rfl) rfl (fun hc => ?_) (fun hc => ?_)
  · replace H := H.1 hc
    refine rc_iconst mq213 (mvDec_of cd213 rfl) (by decide) ?_
    refine rc_istore_n [some (mvR 68), some (mvI l1), some (mvI 0), u3.map mvI] mq213 (mvDec_of cd213 rfl) rfl ?_
    exact H
  · replace H := H.2 hc
    refine rc_aload_n mq213 (mvDec_of cd213 rfl) rfl ?_
    refine rc_iload_n mq213 (mvDec_of cd213 rfl) rfl ?_
    refine rc_callV [mvR 68, mvI l2] [] [some (mvR 68), some (mvI l2), none, none] mq213 (mvDec_of cd213 rfl) lk_10_196 mq50 (by decide) rfl rfl (Nat.le_of_ble_eq_true rfl) (Nat.le_of_ble_eq_true rfl) (by decide) rfl mis68 rfl (rv_bind H (fun h1 H => ?_))
    refine rc_aload_n mq213 (mvDec_of cd213 rfl) rfl ?_
    refine rc_getR 82 mq213 (mvDec_of cd213 rfl) fl_10_49 mis68 rfl (gr_68_27 hG) (by decide) ?_
    refine rc_iload_n mq213 (mvDec_of cd213 rfl) rfl ?_
    refine rc_aload_n mq213 (mvDec_of cd213 rfl) rfl ?_
    refine rc_callV [mvR 68] [mvI l2, mvR 82] [some (mvR 68), none, none, none] mq213 (mvDec_of cd213 rfl) lk_10_234 mq55 (by decide) rfl rfl (Nat.le_of_ble_eq_true rfl) (Nat.le_of_ble_eq_true rfl) (by decide) rfl mis68 rfl (ri_bind H (fun r3 h2 H => ?_))
    obtain ⟨hb2, H⟩ := H
    obtain ⟨⟨hb0, hb1⟩, H⟩ := H
    refine rc_bast mq213 (mvDec_of cd213 rfl) mis82 hb0 hb1 hb2 ?_
    refine rc_heap (fun h4 hh => ?_)
    replace H := H h4 hh
    refine rc_aload_n mq213 (mvDec_of cd213 rfl) rfl ?_
    refine rc_getR 83 mq213 (mvDec_of cd213 rfl) fl_10_53 mis68 rfl (gr_68_28 hG) (by decide) ?_
    refine rc_iload_n mq213 (mvDec_of cd213 rfl) rfl ?_
    refine rc_aload_n mq213 (mvDec_of cd213 rfl) rfl ?_
    refine rc_getR 82 mq213 (mvDec_of cd213 rfl) fl_10_49 mis68 rfl (gr_68_27 hG) (by decide) ?_
    refine rc_iload_n mq213 (mvDec_of cd213 rfl) rfl ?_
    obtain ⟨⟨hb0, hb1⟩, H⟩ := H
    refine rc_bald mq213 (mvDec_of cd213 rfl) mis82 hb0 hb1 ?_
    refine rc_if_eq (t := 52) mq213 (mvDec_of cd213 rfl) rfl (fun hc => ?_) (fun hc => ?_)
    · replace H := H.1 hc
      refine rc_iconst mq213 (mvDec_of cd213 rfl) (by decide) ?_
      obtain ⟨⟨hb0, hb1⟩, H⟩ := H
      refine rc_bast mq213 (mvDec_of cd213 rfl) mis83 hb0 hb1 (Or.inl rfl) ?_
      refine rc_heap (fun h5 hh => ?_)
      replace H := H h5 hh
      exact H
    · replace H := H.2 hc
      refine rc_aload_n mq213 (mvDec_of cd213 rfl) rfl ?_
      refine rc_callV [mvR 68] [mvI l2, mvR 83] [some (mvR 68)] mq213 (mvDec_of cd213 rfl) lk_10_237 mq192 (by decide) rfl rfl (Nat.le_of_ble_eq_true rfl) (Nat.le_of_ble_eq_true rfl) (by decide) rfl mis68 rfl (ri_bind H (fun r7 h6 H => ?_))
      refine rc_if_eq (t := 52) mq213 (mvDec_of cd213 rfl) rfl (fun hc => ?_) (fun hc => ?_)
      · replace H := H.1 hc
        refine rc_iconst mq213 (mvDec_of cd213 rfl) (by decide) ?_
        obtain ⟨⟨hb0, hb1⟩, H⟩ := H
        refine rc_bast mq213 (mvDec_of cd213 rfl) mis83 hb0 hb1 (Or.inl rfl) ?_
        refine rc_heap (fun h8 hh => ?_)
        replace H := H h8 hh
        exact H
      · replace H := H.2 hc
        refine rc_iconst mq213 (mvDec_of cd213 rfl) (by decide) ?_
        refine rc_goto (t := 53) mq213 (mvDec_of cd213 rfl) rfl ?_
        obtain ⟨⟨hb0, hb1⟩, H⟩ := H
        refine rc_bast mq213 (mvDec_of cd213 rfl) mis83 hb0 hb1 (Or.inr rfl) ?_
        refine rc_heap (fun h9 hh => ?_)
        replace H := H h9 hh
        exact H
theorem MD_layCuts_54_wp {sw : Bool} {g : Nat → Nat → Nat} {h : Nat → Int → Int} {l1 : Int} {l2 : Int} {u3 : Option Int} {K : (Nat → Int → Int) → Prop} (hG : Gok sw g)  (H :
  MD_levelNow g h (fun r2 h1 =>
    (0 ≤ l2 ∧ l2 < 640) ∧
    (∀ h3, h3 = mvUpd h1 87 l2 r2 →
    ((¬ l2 = 0 →
      (0 ≤ l2 ∧ l2 < 640) ∧
      (∀ h4, h4 = mvUpd h3 84 l2 0 →
      MD_layCuts_79 g h4 l1 l2 u3 K)) ∧
    (l2 = 0 →
      (0 ≤ l2 ∧ l2 < 640) ∧
      (∀ h5, h5 = mvUpd h3 84 l2 1 →
      MD_layCuts_79 g h5 l1 l2 u3 K)))))) : MD_layCuts_54 g h l1 l2 u3 K := by
  refine rc_aload_n mq213 (mvDec_of cd213 rfl) rfl ?_
  refine rc_getR 87 mq213 (mvDec_of cd213 rfl) fl_10_65 mis68 rfl (gr_68_32 hG) (by decide) ?_
  refine rc_iload_n mq213 (mvDec_of cd213 rfl) rfl ?_
  refine rc_aload_n mq213 (mvDec_of cd213 rfl) rfl ?_
  refine rc_callV [mvR 68] [mvI l2, mvR 87] [some (mvR 68), none, none] mq213 (mvDec_of cd213 rfl) lk_10_240 mq56 (by decide) rfl rfl (Nat.le_of_ble_eq_true rfl) (Nat.le_of_ble_eq_true rfl) (by decide) rfl mis68 rfl (ri_bind H (fun r2 h1 H => ?_))
  obtain ⟨⟨hb0, hb1⟩, H⟩ := H
  refine rc_iast mq213 (mvDec_of cd213 rfl) mis87 hb0 hb1 ?_
  refine rc_heap (fun h3 hh => ?_)
  replace H := H h3 hh
  refine rc_aload_n mq213 (mvDec_of cd213 rfl) rfl ?_
  refine rc_getR 84 mq213 (mvDec_of cd213 rfl) fl_10_56 mis68 rfl (gr_68_29 hG) (by decide) ?_
  refine rc_iload_n mq213 (mvDec_of cd213 rfl) rfl ?_
  refine rc_iload_n mq213 (mvDec_of cd213 rfl) rfl ?_
  refine rc_if_ne (t := 77) mq213 (mvDec_of cd213 rfl) rfl (fun hc => ?_) (fun hc => ?_)
  · replace H := H.1 hc
    refine rc_iconst mq213 (mvDec_of cd213 rfl) (by decide) ?_
    obtain ⟨⟨hb0, hb1⟩, H⟩ := H
    refine rc_iast mq213 (mvDec_of cd213 rfl) mis84 hb0 hb1 ?_
    refine rc_heap (fun h4 hh => ?_)
    replace H := H h4 hh
    exact H
  · replace H := H.2 hc
    refine rc_iconst mq213 (mvDec_of cd213 rfl) (by decide) ?_
    refine rc_goto (t := 78) mq213 (mvDec_of cd213 rfl) rfl ?_
    obtain ⟨⟨hb0, hb1⟩, H⟩ := H
    refine rc_iast mq213 (mvDec_of cd213 rfl) mis84 hb0 hb1 ?_
    refine rc_heap (fun h5 hh => ?_)
    replace H := H h5 hh
    exact H
theorem MD_layCuts_79_wp {sw : Bool} {g : Nat → Nat → Nat} {h : Nat → Int → Int} {l1 : Int} {l2 : Int} {u3 : Option Int} {K : (Nat → Int → Int) → Prop} (hG : Gok sw g)  (H :
  ((¬ l2 = (mw (l1 - 1)) →
    (0 ≤ l2 ∧ l2 < 640) ∧
    (∀ h1, h1 = mvUpd h 85 l2 0 →
    MD_layCuts_97 g h1 l1 l2 u3 K)) ∧
  (l2 = (mw (l1 - 1)) →
    (0 ≤ l2 ∧ l2 < 640) ∧
    (∀ h2, h2 = mvUpd h 85 l2 1 →
    MD_layCuts_97 g h2 l1 l2 u3 K)))) : MD_layCuts_79 g h l1 l2 u3 K := by
  refine rc_aload_n mq213 (mvDec_of cd213 rfl) rfl ?_
  refine rc_getR 85 mq213 (mvDec_of cd213 rfl) fl_10_59 mis68 rfl (gr_68_30 hG) (by decide) ?_
  refine rc_iload_n mq213 (mvDec_of cd213 rfl) rfl ?_
  refine rc_iload_n mq213 (mvDec_of cd213 rfl) rfl ?_
  refine rc_iload_n mq213 (mvDec_of cd213 rfl) rfl ?_
  refine rc_iconst mq213 (mvDec_of cd213 rfl) (by decide) ?_
  refine rc_isub mq213 (mvDec_of cd213 rfl) ?_
  refine rc_icmp_ne (t := 95) mq213 (mvDec_of cd213 rfl) rfl (fun hc => ?_) (fun hc => ?_)
  · replace H := H.1 hc
    refine rc_iconst mq213 (mvDec_of cd213 rfl) (by decide) ?_
    obtain ⟨⟨hb0, hb1⟩, H⟩ := H
    refine rc_iast mq213 (mvDec_of cd213 rfl) mis85 hb0 hb1 ?_
    refine rc_heap (fun h1 hh => ?_)
    replace H := H h1 hh
    exact H
  · replace H := H.2 hc
    refine rc_iconst mq213 (mvDec_of cd213 rfl) (by decide) ?_
    refine rc_goto (t := 96) mq213 (mvDec_of cd213 rfl) rfl ?_
    obtain ⟨⟨hb0, hb1⟩, H⟩ := H
    refine rc_iast mq213 (mvDec_of cd213 rfl) mis85 hb0 hb1 ?_
    refine rc_heap (fun h2 hh => ?_)
    replace H := H h2 hh
    exact H
theorem MD_layCuts_97_wp {sw : Bool} {g : Nat → Nat → Nat} {h : Nat → Int → Int} {l1 : Int} {l2 : Int} {u3 : Option Int} {K : (Nat → Int → Int) → Prop} (hG : Gok sw g)  (H :
  ((¬ l2 = (mw (l1 - 1)) →
    (0 ≤ l2 ∧ l2 < 640) ∧
    (∀ h1, h1 = mvUpd h 86 l2 0 →
    MD_layCuts_7 g h1 l1 (mw (l2 + 1)) u3 K)) ∧
  (l2 = (mw (l1 - 1)) →
    (0 ≤ l2 ∧ l2 < 640) ∧
    ((¬ (h 83 l2) = 0 →
      (0 ≤ l2 ∧ l2 < 640) ∧
      (∀ h2, h2 = mvUpd h 86 l2 0 →
      MD_layCuts_7 g h2 l1 (mw (l2 + 1)) u3 K)) ∧
    ((h 83 l2) = 0 →
      (0 ≤ l2 ∧ l2 < 640) ∧
      (∀ h3, h3 = mvUpd h 86 l2 1 →
      MD_layCuts_7 g h3 l1 (mw (l2 + 1)) u3 K)))))) : MD_layCuts_97 g h l1 l2 u3 K := by
  refine rc_aload_n mq213 (mvDec_of cd213 rfl) rfl ?_
  refine rc_getR 86 mq213 (mvDec_of cd213 rfl) fl_10_62 mis68 rfl (gr_68_31 hG) (by decide) ?_
  refine rc_iload_n mq213 (mvDec_of cd213 rfl) rfl ?_
  refine rc_iload_n mq213 (mvDec_of cd213 rfl) rfl ?_
  refine rc_iload_n mq213 (mvDec_of cd213 rfl) rfl ?_
  refine rc_iconst mq213 (mvDec_of cd213 rfl) (by decide) ?_
  refine rc_isub mq213 (mvDec_of cd213 rfl) ?_
  refine rc_icmp_ne (t := 122) mq213 (mvDec_of cd213 rfl) rfl (fun hc => ?_) (fun hc => ?_)
  · replace H := H.1 hc
    refine rc_iconst mq213 (mvDec_of cd213 rfl) (by decide) ?_
    obtain ⟨⟨hb0, hb1⟩, H⟩ := H
    refine rc_bast mq213 (mvDec_of cd213 rfl) mis86 hb0 hb1 (Or.inl rfl) ?_
    refine rc_heap (fun h1 hh => ?_)
    replace H := H h1 hh
    refine rc_iinc [some (mvR 68), some (mvI l1), some (mvI (mw (l2 + 1))), u3.map mvI] mq213 (mvDec_of cd213 rfl) rfl rfl ?_
    refine rc_goto (t := 7) mq213 (mvDec_of cd213 rfl) rfl ?_
    exact H
  · replace H := H.2 hc
    refine rc_aload_n mq213 (mvDec_of cd213 rfl) rfl ?_
    refine rc_getR 83 mq213 (mvDec_of cd213 rfl) fl_10_53 mis68 rfl (gr_68_28 hG) (by decide) ?_
    refine rc_iload_n mq213 (mvDec_of cd213 rfl) rfl ?_
    obtain ⟨⟨hb0, hb1⟩, H⟩ := H
    refine rc_bald mq213 (mvDec_of cd213 rfl) mis83 hb0 hb1 ?_
    refine rc_if_ne (t := 122) mq213 (mvDec_of cd213 rfl) rfl (fun hc => ?_) (fun hc => ?_)
    · replace H := H.1 hc
      refine rc_iconst mq213 (mvDec_of cd213 rfl) (by decide) ?_
      obtain ⟨⟨hb0, hb1⟩, H⟩ := H
      refine rc_bast mq213 (mvDec_of cd213 rfl) mis86 hb0 hb1 (Or.inl rfl) ?_
      refine rc_heap (fun h2 hh => ?_)
      replace H := H h2 hh
      refine rc_iinc [some (mvR 68), some (mvI l1), some (mvI (mw (l2 + 1))), u3.map mvI] mq213 (mvDec_of cd213 rfl) rfl rfl ?_
      refine rc_goto (t := 7) mq213 (mvDec_of cd213 rfl) rfl ?_
      exact H
    · replace H := H.2 hc
      refine rc_iconst mq213 (mvDec_of cd213 rfl) (by decide) ?_
      refine rc_goto (t := 123) mq213 (mvDec_of cd213 rfl) rfl ?_
      obtain ⟨⟨hb0, hb1⟩, H⟩ := H
      refine rc_bast mq213 (mvDec_of cd213 rfl) mis86 hb0 hb1 (Or.inr rfl) ?_
      refine rc_heap (fun h3 hh => ?_)
      replace H := H h3 hh
      refine rc_iinc [some (mvR 68), some (mvI l1), some (mvI (mw (l2 + 1))), u3.map mvI] mq213 (mvDec_of cd213 rfl) rfl rfl ?_
      refine rc_goto (t := 7) mq213 (mvDec_of cd213 rfl) rfl ?_
      exact H
theorem MD_layCuts_132_wp {sw : Bool} {g : Nat → Nat → Nat} {h : Nat → Int → Int} {l1 : Int} {l2 : Int} {u3 : Option Int} {K : (Nat → Int → Int) → Prop} (hG : Gok sw g)  (H :
  ((l1 ≤ l2 →
    (∀ v1, v1 = (mw (l1 - 1)) →
    MD_layCuts_202 g h (some l1) v1 u3 K)) ∧
  (l2 < l1 →
    MD_layCuts_139 g h l1 l2 0 K))) : MD_layCuts_132 g h l1 l2 u3 K := by
  refine rc_iload_n mq213 (mvDec_of cd213 rfl) rfl ?_
  refine rc_iload_n mq213 (mvDec_of cd213 rfl) rfl ?_
  refine rc_icmp_ge (t := 198) mq213 (mvDec_of cd213 rfl) rfl (fun hc => ?_) (fun hc => ?_)
  · replace H := H.1 hc
    refine rc_iload_n mq213 (mvDec_of cd213 rfl) rfl ?_
    refine rc_iconst mq213 (mvDec_of cd213 rfl) (by decide) ?_
    refine rc_isub mq213 (mvDec_of cd213 rfl) ?_
    refine rc_top (fun v1 hv => ?_)
    replace H := H v1 hv
    refine rc_istore_n [some (mvR 68), some (mvI l1), some (mvI v1), u3.map mvI] mq213 (mvDec_of cd213 rfl) rfl ?_
    exact H
  · replace H := H.2 hc
    refine rc_iconst mq213 (mvDec_of cd213 rfl) (by decide) ?_
    refine rc_istore_n [some (mvR 68), some (mvI l1), some (mvI l2), some (mvI 0)] mq213 (mvDec_of cd213 rfl) rfl ?_
    exact H
theorem MD_layCuts_139_wp {sw : Bool} {g : Nat → Nat → Nat} {h : Nat → Int → Int} {l1 : Int} {l2 : Int} {l3 : Int} {K : (Nat → Int → Int) → Prop} (hG : Gok sw g)  (H :
  (((h 68 0) ≤ l3 →
    MD_layCuts_132 g h l1 (mw (l2 + 1)) (some l3) K) ∧
  (l3 < (h 68 0) →
    (0 ≤ l2 ∧ l2 < 640) ∧
    (((h 82 l2) = 0 →
      MD_layCuts_132 g h l1 (mw (l2 + 1)) (some l3) K) ∧
    (¬ (h 82 l2) = 0 →
      MD_canGoOn g h l2 l3 (fun r2 h1 =>
        ((r2 = 0 →
          MD_layCuts_139 g h1 l1 l2 (mw (l3 + 1)) K) ∧
        (¬ r2 = 0 →
          MD_stride g h1 l3 (fun r4 h3 =>
            (0 ≤ (mw (l2 + r4)) ∧ (mw (l2 + r4)) < 640) ∧
            (0 ≤ l2 ∧ l2 < 640) ∧
            (0 ≤ (mw (l2 + r4)) ∧ (mw (l2 + r4)) < 640) ∧
            (∀ h5, h5 = mvUpd h3 84 (mw (l2 + r4)) (mw ((h3 84 (mw (l2 + r4))) + (h3 84 l2))) →
            MD_layCuts_139 g h5 l1 l2 (mw (l3 + 1)) K)))))))))) : MD_layCuts_139 g h l1 l2 l3 K := by
  refine rc_iload_n mq213 (mvDec_of cd213 rfl) rfl ?_
  refine rc_aload_n mq213 (mvDec_of cd213 rfl) rfl ?_
  refine rc_getI 0 mq213 (mvDec_of cd213 rfl) fl_10_138 mis68 rfl (by decide) (by decide) ?_
  refine rc_icmp_ge (t := 192) mq213 (mvDec_of cd213 rfl) rfl (fun hc => ?_) (fun hc => ?_)
  · replace H := H.1 hc
    refine rc_iinc [some (mvR 68), some (mvI l1), some (mvI (mw (l2 + 1))), some (mvI l3)] mq213 (mvDec_of cd213 rfl) rfl rfl ?_
    refine rc_goto (t := 132) mq213 (mvDec_of cd213 rfl) rfl ?_
    exact H
  · replace H := H.2 hc
    refine rc_aload_n mq213 (mvDec_of cd213 rfl) rfl ?_
    refine rc_getR 82 mq213 (mvDec_of cd213 rfl) fl_10_49 mis68 rfl (gr_68_27 hG) (by decide) ?_
    refine rc_iload_n mq213 (mvDec_of cd213 rfl) rfl ?_
    obtain ⟨⟨hb0, hb1⟩, H⟩ := H
    refine rc_bald mq213 (mvDec_of cd213 rfl) mis82 hb0 hb1 ?_
    refine rc_if_eq (t := 192) mq213 (mvDec_of cd213 rfl) rfl (fun hc => ?_) (fun hc => ?_)
    · replace H := H.1 hc
      refine rc_iinc [some (mvR 68), some (mvI l1), some (mvI (mw (l2 + 1))), some (mvI l3)] mq213 (mvDec_of cd213 rfl) rfl rfl ?_
      refine rc_goto (t := 132) mq213 (mvDec_of cd213 rfl) rfl ?_
      exact H
    · replace H := H.2 hc
      refine rc_aload_n mq213 (mvDec_of cd213 rfl) rfl ?_
      refine rc_iload_n mq213 (mvDec_of cd213 rfl) rfl ?_
      refine rc_iload_n mq213 (mvDec_of cd213 rfl) rfl ?_
      refine rc_callV [mvR 68, mvI l2, mvI l3] [] [some (mvR 68), some (mvI l2), some (mvI l3)] mq213 (mvDec_of cd213 rfl) lk_10_243 mq124 (by decide) rfl rfl (Nat.le_of_ble_eq_true rfl) (Nat.le_of_ble_eq_true rfl) (by decide) rfl mis68 rfl (ri_bind H (fun r2 h1 H => ?_))
      refine rc_if_eq (t := 186) mq213 (mvDec_of cd213 rfl) rfl (fun hc => ?_) (fun hc => ?_)
      · replace H := H.1 hc
        refine rc_iinc [some (mvR 68), some (mvI l1), some (mvI l2), some (mvI (mw (l3 + 1)))] mq213 (mvDec_of cd213 rfl) rfl rfl ?_
        refine rc_goto (t := 139) mq213 (mvDec_of cd213 rfl) rfl ?_
        exact H
      · replace H := H.2 hc
        refine rc_aload_n mq213 (mvDec_of cd213 rfl) rfl ?_
        refine rc_getR 84 mq213 (mvDec_of cd213 rfl) fl_10_56 mis68 rfl (gr_68_29 hG) (by decide) ?_
        refine rc_iload_n mq213 (mvDec_of cd213 rfl) rfl ?_
        refine rc_aload_n mq213 (mvDec_of cd213 rfl) rfl ?_
        refine rc_iload_n mq213 (mvDec_of cd213 rfl) rfl ?_
        refine rc_callV [mvR 68, mvI l3] [mvI l2, mvR 84] [some (mvR 68), some (mvI l3), none, none] mq213 (mvDec_of cd213 rfl) lk_10_246 mq51 (by decide) rfl rfl (Nat.le_of_ble_eq_true rfl) (Nat.le_of_ble_eq_true rfl) (by decide) rfl mis68 rfl (ri_bind H (fun r4 h3 H => ?_))
        refine rc_iadd mq213 (mvDec_of cd213 rfl) ?_
        refine rc_dup2 mq213 (mvDec_of cd213 rfl) rfl rfl ?_
        obtain ⟨⟨hb0, hb1⟩, H⟩ := H
        refine rc_iald mq213 (mvDec_of cd213 rfl) mis84 hb0 hb1 ?_
        refine rc_aload_n mq213 (mvDec_of cd213 rfl) rfl ?_
        refine rc_getR 84 mq213 (mvDec_of cd213 rfl) fl_10_56 mis68 rfl (gr_68_29 hG) (by decide) ?_
        refine rc_iload_n mq213 (mvDec_of cd213 rfl) rfl ?_
        obtain ⟨⟨hb0, hb1⟩, H⟩ := H
        refine rc_iald mq213 (mvDec_of cd213 rfl) mis84 hb0 hb1 ?_
        refine rc_iadd mq213 (mvDec_of cd213 rfl) ?_
        obtain ⟨⟨hb0, hb1⟩, H⟩ := H
        refine rc_iast mq213 (mvDec_of cd213 rfl) mis84 hb0 hb1 ?_
        refine rc_heap (fun h5 hh => ?_)
        replace H := H h5 hh
        refine rc_iinc [some (mvR 68), some (mvI l1), some (mvI l2), some (mvI (mw (l3 + 1)))] mq213 (mvDec_of cd213 rfl) rfl rfl ?_
        refine rc_goto (t := 139) mq213 (mvDec_of cd213 rfl) rfl ?_
        exact H
theorem MD_layCuts_202_wp {sw : Bool} {g : Nat → Nat → Nat} {h : Nat → Int → Int} {u1 : Option Int} {l2 : Int} {u3 : Option Int} {K : (Nat → Int → Int) → Prop} (hG : Gok sw g)  (H :
  ((l2 < 0 →
    K h) ∧
  (0 ≤ l2 →
    MD_layCuts_208 g h u1 l2 0 K))) : MD_layCuts_202 g h u1 l2 u3 K := by
  refine rc_iload_n mq213 (mvDec_of cd213 rfl) rfl ?_
  refine rc_if_lt (t := 311) mq213 (mvDec_of cd213 rfl) rfl (fun hc => ?_) (fun hc => ?_)
  · replace H := H.1 hc
    exact rc_vret mq213 (mvDec_of cd213 rfl) ⟨_, rfl, rfl, H⟩
  · replace H := H.2 hc
    refine rc_iconst mq213 (mvDec_of cd213 rfl) (by decide) ?_
    refine rc_istore_n [some (mvR 68), u1.map mvI, some (mvI l2), some (mvI 0)] mq213 (mvDec_of cd213 rfl) rfl ?_
    exact H
theorem MD_layCuts_208_wp {sw : Bool} {g : Nat → Nat → Nat} {h : Nat → Int → Int} {u1 : Option Int} {l2 : Int} {l3 : Int} {K : (Nat → Int → Int) → Prop} (hG : Gok sw g)  (H :
  (((h 68 0) ≤ l3 →
    MD_layCuts_202 g h u1 (mw (l2 + (-1))) (some l3) K) ∧
  (l3 < (h 68 0) →
    (0 ≤ l2 ∧ l2 < 640) ∧
    (((h 82 l2) = 0 →
      MD_layCuts_202 g h u1 (mw (l2 + (-1))) (some l3) K) ∧
    (¬ (h 82 l2) = 0 →
      MD_canGoOn g h l2 l3 (fun r2 h1 =>
        ((r2 = 0 →
          MD_layCuts_208 g h1 u1 l2 (mw (l3 + 1)) K) ∧
        (¬ r2 = 0 →
          (0 ≤ l2 ∧ l2 < 640) ∧
          MD_stride g h1 l3 (fun r4 h3 =>
            (0 ≤ (mw (l2 + r4)) ∧ (mw (l2 + r4)) < 640) ∧
            (0 ≤ l2 ∧ l2 < 640) ∧
            (∀ h5, h5 = mvUpd h3 85 l2 (mw ((h1 85 l2) + (h3 85 (mw (l2 + r4))))) →
            (0 ≤ l2 ∧ l2 < 640) ∧
            ((¬ (h5 86 l2) = 0 →
              (0 ≤ l2 ∧ l2 < 640) ∧
              (∀ h6, h6 = mvUpd h5 86 l2 1 →
              MD_layCuts_208 g h6 u1 l2 (mw (l3 + 1)) K)) ∧
            ((h5 86 l2) = 0 →
              (0 ≤ l2 ∧ l2 < 640) ∧
              ((¬ (h5 83 l2) = 0 →
                (0 ≤ l2 ∧ l2 < 640) ∧
                (∀ h7, h7 = mvUpd h5 86 l2 0 →
                MD_layCuts_208 g h7 u1 l2 (mw (l3 + 1)) K)) ∧
              ((h5 83 l2) = 0 →
                MD_stride g h5 l3 (fun r9 h8 =>
                  (0 ≤ (mw (l2 + r9)) ∧ (mw (l2 + r9)) < 640) ∧
                  (((h8 86 (mw (l2 + r9))) = 0 →
                    (0 ≤ l2 ∧ l2 < 640) ∧
                    (∀ h10, h10 = mvUpd h8 86 l2 0 →
                    MD_layCuts_208 g h10 u1 l2 (mw (l3 + 1)) K)) ∧
                  (¬ (h8 86 (mw (l2 + r9))) = 0 →
                    (0 ≤ l2 ∧ l2 < 640) ∧
                    (∀ h11, h11 = mvUpd h8 86 l2 1 →
                    MD_layCuts_208 g h11 u1 l2 (mw (l3 + 1)) K)))))))))))))))))) : MD_layCuts_208 g h u1 l2 l3 K := by
  refine rc_iload_n mq213 (mvDec_of cd213 rfl) rfl ?_
  refine rc_aload_n mq213 (mvDec_of cd213 rfl) rfl ?_
  refine rc_getI 0 mq213 (mvDec_of cd213 rfl) fl_10_138 mis68 rfl (by decide) (by decide) ?_
  refine rc_icmp_ge (t := 305) mq213 (mvDec_of cd213 rfl) rfl (fun hc => ?_) (fun hc => ?_)
  · replace H := H.1 hc
    refine rc_iinc [some (mvR 68), u1.map mvI, some (mvI (mw (l2 + (-1)))), some (mvI l3)] mq213 (mvDec_of cd213 rfl) rfl (by cases u1 <;> rfl) ?_
    refine rc_goto (t := 202) mq213 (mvDec_of cd213 rfl) rfl ?_
    exact H
  · replace H := H.2 hc
    refine rc_aload_n mq213 (mvDec_of cd213 rfl) rfl ?_
    refine rc_getR 82 mq213 (mvDec_of cd213 rfl) fl_10_49 mis68 rfl (gr_68_27 hG) (by decide) ?_
    refine rc_iload_n mq213 (mvDec_of cd213 rfl) rfl ?_
    obtain ⟨⟨hb0, hb1⟩, H⟩ := H
    refine rc_bald mq213 (mvDec_of cd213 rfl) mis82 hb0 hb1 ?_
    refine rc_if_eq (t := 305) mq213 (mvDec_of cd213 rfl) rfl (fun hc => ?_) (fun hc => ?_)
    · replace H := H.1 hc
      refine rc_iinc [some (mvR 68), u1.map mvI, some (mvI (mw (l2 + (-1)))), some (mvI l3)] mq213 (mvDec_of cd213 rfl) rfl (by cases u1 <;> rfl) ?_
      refine rc_goto (t := 202) mq213 (mvDec_of cd213 rfl) rfl ?_
      exact H
    · replace H := H.2 hc
      refine rc_aload_n mq213 (mvDec_of cd213 rfl) rfl ?_
      refine rc_iload_n mq213 (mvDec_of cd213 rfl) rfl ?_
      refine rc_iload_n mq213 (mvDec_of cd213 rfl) rfl ?_
      refine rc_callV [mvR 68, mvI l2, mvI l3] [] [some (mvR 68), some (mvI l2), some (mvI l3)] mq213 (mvDec_of cd213 rfl) lk_10_243 mq124 (by decide) rfl rfl (Nat.le_of_ble_eq_true rfl) (Nat.le_of_ble_eq_true rfl) (by decide) rfl mis68 rfl (ri_bind H (fun r2 h1 H => ?_))
      refine rc_if_eq (t := 299) mq213 (mvDec_of cd213 rfl) rfl (fun hc => ?_) (fun hc => ?_)
      · replace H := H.1 hc
        refine rc_iinc [some (mvR 68), u1.map mvI, some (mvI l2), some (mvI (mw (l3 + 1)))] mq213 (mvDec_of cd213 rfl) rfl rfl ?_
        refine rc_goto (t := 208) mq213 (mvDec_of cd213 rfl) rfl ?_
        exact H
      · replace H := H.2 hc
        refine rc_aload_n mq213 (mvDec_of cd213 rfl) rfl ?_
        refine rc_getR 85 mq213 (mvDec_of cd213 rfl) fl_10_59 mis68 rfl (gr_68_30 hG) (by decide) ?_
        refine rc_iload_n mq213 (mvDec_of cd213 rfl) rfl ?_
        refine rc_dup2 mq213 (mvDec_of cd213 rfl) rfl rfl ?_
        obtain ⟨⟨hb0, hb1⟩, H⟩ := H
        refine rc_iald mq213 (mvDec_of cd213 rfl) mis85 hb0 hb1 ?_
        refine rc_aload_n mq213 (mvDec_of cd213 rfl) rfl ?_
        refine rc_getR 85 mq213 (mvDec_of cd213 rfl) fl_10_59 mis68 rfl (gr_68_30 hG) (by decide) ?_
        refine rc_iload_n mq213 (mvDec_of cd213 rfl) rfl ?_
        refine rc_aload_n mq213 (mvDec_of cd213 rfl) rfl ?_
        refine rc_iload_n mq213 (mvDec_of cd213 rfl) rfl ?_
        refine rc_callV [mvR 68, mvI l3] [mvI l2, mvR 85, mvI (h1 85 l2), mvI l2, mvR 85] [some (mvR 68), some (mvI l3), none, none] mq213 (mvDec_of cd213 rfl) lk_10_246 mq51 (by decide) rfl rfl (Nat.le_of_ble_eq_true rfl) (Nat.le_of_ble_eq_true rfl) (by decide) rfl mis68 rfl (ri_bind H (fun r4 h3 H => ?_))
        refine rc_iadd mq213 (mvDec_of cd213 rfl) ?_
        obtain ⟨⟨hb0, hb1⟩, H⟩ := H
        refine rc_iald mq213 (mvDec_of cd213 rfl) mis85 hb0 hb1 ?_
        refine rc_iadd mq213 (mvDec_of cd213 rfl) ?_
        obtain ⟨⟨hb0, hb1⟩, H⟩ := H
        refine rc_iast mq213 (mvDec_of cd213 rfl) mis85 hb0 hb1 ?_
        refine rc_heap (fun h5 hh => ?_)
        replace H := H h5 hh
        refine rc_aload_n mq213 (mvDec_of cd213 rfl) rfl ?_
        refine rc_getR 86 mq213 (mvDec_of cd213 rfl) fl_10_62 mis68 rfl (gr_68_31 hG) (by decide) ?_
        refine rc_iload_n mq213 (mvDec_of cd213 rfl) rfl ?_
        refine rc_aload_n mq213 (mvDec_of cd213 rfl) rfl ?_
        refine rc_getR 86 mq213 (mvDec_of cd213 rfl) fl_10_62 mis68 rfl (gr_68_31 hG) (by decide) ?_
        refine rc_iload_n mq213 (mvDec_of cd213 rfl) rfl ?_
        obtain ⟨⟨hb0, hb1⟩, H⟩ := H
        refine rc_bald mq213 (mvDec_of cd213 rfl) mis86 hb0 hb1 ?_
        refine rc_if_ne (t := 293) mq213 (mvDec_of cd213 rfl) rfl (fun hc => ?_) (fun hc => ?_)
        · replace H := H.1 hc
          refine rc_iconst mq213 (mvDec_of cd213 rfl) (by decide) ?_
          refine rc_goto (t := 298) mq213 (mvDec_of cd213 rfl) rfl ?_
          obtain ⟨⟨hb0, hb1⟩, H⟩ := H
          refine rc_bast mq213 (mvDec_of cd213 rfl) mis86 hb0 hb1 (Or.inr rfl) ?_
          refine rc_heap (fun h6 hh => ?_)
          replace H := H h6 hh
          refine rc_iinc [some (mvR 68), u1.map mvI, some (mvI l2), some (mvI (mw (l3 + 1)))] mq213 (mvDec_of cd213 rfl) rfl rfl ?_
          refine rc_goto (t := 208) mq213 (mvDec_of cd213 rfl) rfl ?_
          exact H
        · replace H := H.2 hc
          refine rc_aload_n mq213 (mvDec_of cd213 rfl) rfl ?_
          refine rc_getR 83 mq213 (mvDec_of cd213 rfl) fl_10_53 mis68 rfl (gr_68_28 hG) (by decide) ?_
          refine rc_iload_n mq213 (mvDec_of cd213 rfl) rfl ?_
          obtain ⟨⟨hb0, hb1⟩, H⟩ := H
          refine rc_bald mq213 (mvDec_of cd213 rfl) mis83 hb0 hb1 ?_
          refine rc_if_ne (t := 297) mq213 (mvDec_of cd213 rfl) rfl (fun hc => ?_) (fun hc => ?_)
          · replace H := H.1 hc
            refine rc_iconst mq213 (mvDec_of cd213 rfl) (by decide) ?_
            obtain ⟨⟨hb0, hb1⟩, H⟩ := H
            refine rc_bast mq213 (mvDec_of cd213 rfl) mis86 hb0 hb1 (Or.inl rfl) ?_
            refine rc_heap (fun h7 hh => ?_)
            replace H := H h7 hh
            refine rc_iinc [some (mvR 68), u1.map mvI, some (mvI l2), some (mvI (mw (l3 + 1)))] mq213 (mvDec_of cd213 rfl) rfl rfl ?_
            refine rc_goto (t := 208) mq213 (mvDec_of cd213 rfl) rfl ?_
            exact H
          · replace H := H.2 hc
            refine rc_aload_n mq213 (mvDec_of cd213 rfl) rfl ?_
            refine rc_getR 86 mq213 (mvDec_of cd213 rfl) fl_10_62 mis68 rfl (gr_68_31 hG) (by decide) ?_
            refine rc_iload_n mq213 (mvDec_of cd213 rfl) rfl ?_
            refine rc_aload_n mq213 (mvDec_of cd213 rfl) rfl ?_
            refine rc_iload_n mq213 (mvDec_of cd213 rfl) rfl ?_
            refine rc_callV [mvR 68, mvI l3] [mvI l2, mvR 86, mvI l2, mvR 86] [some (mvR 68), some (mvI l3), none, none] mq213 (mvDec_of cd213 rfl) lk_10_246 mq51 (by decide) rfl rfl (Nat.le_of_ble_eq_true rfl) (Nat.le_of_ble_eq_true rfl) (by decide) rfl mis68 rfl (ri_bind H (fun r9 h8 H => ?_))
            refine rc_iadd mq213 (mvDec_of cd213 rfl) ?_
            obtain ⟨⟨hb0, hb1⟩, H⟩ := H
            refine rc_bald mq213 (mvDec_of cd213 rfl) mis86 hb0 hb1 ?_
            refine rc_if_eq (t := 297) mq213 (mvDec_of cd213 rfl) rfl (fun hc => ?_) (fun hc => ?_)
            · replace H := H.1 hc
              refine rc_iconst mq213 (mvDec_of cd213 rfl) (by decide) ?_
              obtain ⟨⟨hb0, hb1⟩, H⟩ := H
              refine rc_bast mq213 (mvDec_of cd213 rfl) mis86 hb0 hb1 (Or.inl rfl) ?_
              refine rc_heap (fun h10 hh => ?_)
              replace H := H h10 hh
              refine rc_iinc [some (mvR 68), u1.map mvI, some (mvI l2), some (mvI (mw (l3 + 1)))] mq213 (mvDec_of cd213 rfl) rfl rfl ?_
              refine rc_goto (t := 208) mq213 (mvDec_of cd213 rfl) rfl ?_
              exact H
            · replace H := H.2 hc
              refine rc_iconst mq213 (mvDec_of cd213 rfl) (by decide) ?_
              refine rc_goto (t := 298) mq213 (mvDec_of cd213 rfl) rfl ?_
              obtain ⟨⟨hb0, hb1⟩, H⟩ := H
              refine rc_bast mq213 (mvDec_of cd213 rfl) mis86 hb0 hb1 (Or.inr rfl) ?_
              refine rc_heap (fun h11 hh => ?_)
              replace H := H h11 hh
              refine rc_iinc [some (mvR 68), u1.map mvI, some (mvI l2), some (mvI (mw (l3 + 1)))] mq213 (mvDec_of cd213 rfl) rfl rfl ?_
              refine rc_goto (t := 208) mq213 (mvDec_of cd213 rfl) rfl ?_
              exact H
abbrev MD_strongNow (g : Nat → Nat → Nat) (h : Nat → Int → Int)  (K : Int → (Nat → Int → Int) → Prop) : Prop := RI 214 0 [some (mvR 68), none, none, none, none, none] [] g h K
abbrev MD_strongNow_4 (g : Nat → Nat → Nat) (h : Nat → Int → Int) (l1 : Int) (l2 : Int) (u3 : Option Int) (u4 : Option Int) (u5 : Option Int) (K : Int → (Nat → Int → Int) → Prop) : Prop := RI 214 4 [some (mvR 68), some (mvI l1), some (mvI l2), u3.map mvI, u4.map mvI, u5.map mvI] [] g h K
abbrev MD_strongNow_30 (g : Nat → Nat → Nat) (h : Nat → Int → Int) (l1 : Int) (l2 : Int) (l3 : Int) (u4 : Option Int) (u5 : Option Int) (K : Int → (Nat → Int → Int) → Prop) : Prop := RI 214 30 [some (mvR 68), some (mvI l1), some (mvI l2), some (mvI l3), u4.map mvI, u5.map mvI] [] g h K
abbrev MD_strongNow_45 (g : Nat → Nat → Nat) (h : Nat → Int → Int) (l1 : Int) (u2 : Option Int) (l3 : Int) (l4 : Int) (l5 : Int) (K : Int → (Nat → Int → Int) → Prop) : Prop := RI 214 45 [some (mvR 68), some (mvI l1), u2.map mvI, some (mvI l3), some (mvI l4), some (mvI l5)] [] g h K
theorem MD_strongNow_wp {sw : Bool} {g : Nat → Nat → Nat} {h : Nat → Int → Int}  {K : Int → (Nat → Int → Int) → Prop} (hG : Gok sw g)  (H :
  MD_strongNow_4 g h 1 0 none none none K) : MD_strongNow g h  K := by
  refine rc_iconst mq214 (mvDec_of cd214 rfl) (by decide) ?_
  refine rc_istore_n [some (mvR 68), some (mvI 1), none, none, none, none] mq214 (mvDec_of cd214 rfl) rfl ?_
  refine rc_iconst mq214 (mvDec_of cd214 rfl) (by decide) ?_
  refine rc_istore_n [some (mvR 68), some (mvI 1), some (mvI 0), none, none, none] mq214 (mvDec_of cd214 rfl) rfl ?_
  exact H
theorem MD_strongNow_4_wp {sw : Bool} {g : Nat → Nat → Nat} {h : Nat → Int → Int} {l1 : Int} {l2 : Int} {u3 : Option Int} {u4 : Option Int} {u5 : Option Int} {K : Int → (Nat → Int → Int) → Prop} (hG : Gok sw g)  (H :
  (((h 68 0) ≤ l2 →
    MD_strongNow_30 g h l1 0 0 u4 u5 K) ∧
  (l2 < (h 68 0) →
    MD_intervals g h l2 (fun r2 h1 =>
      (∀ v3, v3 = (mw (l1 * r2)) →
      MD_strongNow_4 g h1 v3 (mw (l2 + 1)) u3 u4 u5 K))))) : MD_strongNow_4 g h l1 l2 u3 u4 u5 K := by
  refine rc_iload_n mq214 (mvDec_of cd214 rfl) rfl ?_
  refine rc_aload_n mq214 (mvDec_of cd214 rfl) rfl ?_
  refine rc_getI 0 mq214 (mvDec_of cd214 rfl) fl_10_138 mis68 rfl (by decide) (by decide) ?_
  refine rc_icmp_ge (t := 26) mq214 (mvDec_of cd214 rfl) rfl (fun hc => ?_) (fun hc => ?_)
  · replace H := H.1 hc
    refine rc_iconst mq214 (mvDec_of cd214 rfl) (by decide) ?_
    refine rc_istore_n [some (mvR 68), some (mvI l1), some (mvI 0), u3.map mvI, u4.map mvI, u5.map mvI] mq214 (mvDec_of cd214 rfl) rfl ?_
    refine rc_iconst mq214 (mvDec_of cd214 rfl) (by decide) ?_
    refine rc_istore_n [some (mvR 68), some (mvI l1), some (mvI 0), some (mvI 0), u4.map mvI, u5.map mvI] mq214 (mvDec_of cd214 rfl) rfl ?_
    exact H
  · replace H := H.2 hc
    refine rc_iload_n mq214 (mvDec_of cd214 rfl) rfl ?_
    refine rc_aload_n mq214 (mvDec_of cd214 rfl) rfl ?_
    refine rc_iload_n mq214 (mvDec_of cd214 rfl) rfl ?_
    refine rc_callV [mvR 68, mvI l2] [mvI l1] [some (mvR 68), some (mvI l2), none] mq214 (mvDec_of cd214 rfl) lk_10_320 mq193 (by decide) rfl rfl (Nat.le_of_ble_eq_true rfl) (Nat.le_of_ble_eq_true rfl) (by decide) rfl mis68 rfl (ri_bind H (fun r2 h1 H => ?_))
    refine rc_imul mq214 (mvDec_of cd214 rfl) ?_
    refine rc_top (fun v3 hv => ?_)
    replace H := H v3 hv
    refine rc_istore_n [some (mvR 68), some (mvI v3), some (mvI l2), u3.map mvI, u4.map mvI, u5.map mvI] mq214 (mvDec_of cd214 rfl) rfl ?_
    refine rc_iinc [some (mvR 68), some (mvI v3), some (mvI (mw (l2 + 1))), u3.map mvI, u4.map mvI, u5.map mvI] mq214 (mvDec_of cd214 rfl) rfl rfl ?_
    refine rc_goto (t := 4) mq214 (mvDec_of cd214 rfl) rfl ?_
    exact H
theorem MD_strongNow_30_wp {sw : Bool} {g : Nat → Nat → Nat} {h : Nat → Int → Int} {l1 : Int} {l2 : Int} {l3 : Int} {u4 : Option Int} {u5 : Option Int} {K : Int → (Nat → Int → Int) → Prop} (hG : Gok sw g)  (H :
  ((l1 ≤ l3 →
    ((l2 = 0 →
      K 0 h) ∧
    (¬ l2 = 0 →
      K 1 h))) ∧
  (l3 < l1 →
    ((¬ l2 = 0 →
      ((l2 = 0 →
        K 0 h) ∧
      (¬ l2 = 0 →
        K 1 h))) ∧
    (l2 = 0 →
      MD_strongNow_45 g h l1 (some l2) l3 l3 0 K))))) : MD_strongNow_30 g h l1 l2 l3 u4 u5 K := by
  refine rc_iload_n mq214 (mvDec_of cd214 rfl) rfl ?_
  refine rc_iload_n mq214 (mvDec_of cd214 rfl) rfl ?_
  refine rc_icmp_ge (t := 124) mq214 (mvDec_of cd214 rfl) rfl (fun hc => ?_) (fun hc => ?_)
  · replace H := H.1 hc
    refine rc_iload_n mq214 (mvDec_of cd214 rfl) rfl ?_
    refine rc_if_eq (t := 132) mq214 (mvDec_of cd214 rfl) rfl (fun hc => ?_) (fun hc => ?_)
    · replace H := H.1 hc
      refine rc_iconst mq214 (mvDec_of cd214 rfl) (by decide) ?_
      exact rc_iret mq214 (mvDec_of cd214 rfl) ⟨_, _, rfl, rfl, H⟩
    · replace H := H.2 hc
      refine rc_iconst mq214 (mvDec_of cd214 rfl) (by decide) ?_
      refine rc_goto (t := 133) mq214 (mvDec_of cd214 rfl) rfl ?_
      exact rc_iret mq214 (mvDec_of cd214 rfl) ⟨_, _, rfl, rfl, H⟩
  · replace H := H.2 hc
    refine rc_iload_n mq214 (mvDec_of cd214 rfl) rfl ?_
    refine rc_if_ne (t := 124) mq214 (mvDec_of cd214 rfl) rfl (fun hc => ?_) (fun hc => ?_)
    · replace H := H.1 hc
      refine rc_iload_n mq214 (mvDec_of cd214 rfl) rfl ?_
      refine rc_if_eq (t := 132) mq214 (mvDec_of cd214 rfl) rfl (fun hc => ?_) (fun hc => ?_)
      · replace H := H.1 hc
        refine rc_iconst mq214 (mvDec_of cd214 rfl) (by decide) ?_
        exact rc_iret mq214 (mvDec_of cd214 rfl) ⟨_, _, rfl, rfl, H⟩
      · replace H := H.2 hc
        refine rc_iconst mq214 (mvDec_of cd214 rfl) (by decide) ?_
        refine rc_goto (t := 133) mq214 (mvDec_of cd214 rfl) rfl ?_
        exact rc_iret mq214 (mvDec_of cd214 rfl) ⟨_, _, rfl, rfl, H⟩
    · replace H := H.2 hc
      refine rc_iload_n mq214 (mvDec_of cd214 rfl) rfl ?_
      refine rc_istore [some (mvR 68), some (mvI l1), some (mvI l2), some (mvI l3), some (mvI l3), u5.map mvI] mq214 (mvDec_of cd214 rfl) rfl ?_
      refine rc_iconst mq214 (mvDec_of cd214 rfl) (by decide) ?_
      refine rc_istore [some (mvR 68), some (mvI l1), some (mvI l2), some (mvI l3), some (mvI l3), some (mvI 0)] mq214 (mvDec_of cd214 rfl) rfl ?_
      exact H
theorem MD_strongNow_45_wp {sw : Bool} {g : Nat → Nat → Nat} {h : Nat → Int → Int} {l1 : Int} {u2 : Option Int} {l3 : Int} {l4 : Int} {l5 : Int} {K : Int → (Nat → Int → Int) → Prop} (hG : Gok sw g)  (H :
  (((h 68 0) ≤ l5 →
    MD_isOverlap g h (fun r2 h1 =>
      MD_strongNow_30 g h1 l1 r2 (mw (l3 + 1)) (some l4) (some l5) K)) ∧
  (l5 < (h 68 0) →
    MD_intervals g h l5 (fun r4 h3 =>
      (¬ r4 = 0) ∧
      MD_beginOf g h3 l5 (l4.tmod r4) (fun r6 h5 =>
        (0 ≤ l5 ∧ l5 < 4) ∧
        (∀ h7, h7 = mvUpd h5 89 l5 r6 →
        (0 ≤ l5 ∧ l5 < 4) ∧
        MD_endOf g h7 l5 (h7 89 l5) (fun r9 h8 =>
          (0 ≤ l5 ∧ l5 < 4) ∧
          (∀ h10, h10 = mvUpd h8 90 l5 r9 →
          MD_intervals g h10 l5 (fun r12 h11 =>
            (¬ r12 = 0) ∧
            (∀ v13, v13 = (mw (l4.tdiv r12)) →
            MD_strongNow_45 g h11 l1 u2 l3 v13 (mw (l5 + 1)) K)))))))))) : MD_strongNow_45 g h l1 u2 l3 l4 l5 K := by
  refine rc_iload mq214 (mvDec_of cd214 rfl) rfl ?_
  refine rc_aload_n mq214 (mvDec_of cd214 rfl) rfl ?_
  refine rc_getI 0 mq214 (mvDec_of cd214 rfl) fl_10_138 mis68 rfl (by decide) (by decide) ?_
  refine rc_icmp_ge (t := 113) mq214 (mvDec_of cd214 rfl) rfl (fun hc => ?_) (fun hc => ?_)
  · replace H := H.1 hc
    refine rc_aload_n mq214 (mvDec_of cd214 rfl) rfl ?_
    refine rc_callV [mvR 68] [] [some (mvR 68), none, none, none, none, none] mq214 (mvDec_of cd214 rfl) lk_10_323 mq132 (by decide) rfl rfl (Nat.le_of_ble_eq_true rfl) (Nat.le_of_ble_eq_true rfl) (by decide) rfl mis68 rfl (ri_bind H (fun r2 h1 H => ?_))
    refine rc_istore_n [some (mvR 68), some (mvI l1), some (mvI r2), some (mvI l3), some (mvI l4), some (mvI l5)] mq214 (mvDec_of cd214 rfl) rfl ?_
    refine rc_iinc [some (mvR 68), some (mvI l1), some (mvI r2), some (mvI (mw (l3 + 1))), some (mvI l4), some (mvI l5)] mq214 (mvDec_of cd214 rfl) rfl rfl ?_
    refine rc_goto (t := 30) mq214 (mvDec_of cd214 rfl) rfl ?_
    exact H
  · replace H := H.2 hc
    refine rc_aload_n mq214 (mvDec_of cd214 rfl) rfl ?_
    refine rc_getR 89 mq214 (mvDec_of cd214 rfl) fl_10_71 mis68 rfl (gr_68_34 hG) (by decide) ?_
    refine rc_iload mq214 (mvDec_of cd214 rfl) rfl ?_
    refine rc_aload_n mq214 (mvDec_of cd214 rfl) rfl ?_
    refine rc_iload mq214 (mvDec_of cd214 rfl) rfl ?_
    refine rc_iload mq214 (mvDec_of cd214 rfl) rfl ?_
    refine rc_aload_n mq214 (mvDec_of cd214 rfl) rfl ?_
    refine rc_iload mq214 (mvDec_of cd214 rfl) rfl ?_
    refine rc_callV [mvR 68, mvI l5] [mvI l4, mvI l5, mvR 68, mvI l5, mvR 89] [some (mvR 68), some (mvI l5), none] mq214 (mvDec_of cd214 rfl) lk_10_320 mq193 (by decide) rfl rfl (Nat.le_of_ble_eq_true rfl) (Nat.le_of_ble_eq_true rfl) (by decide) rfl mis68 rfl (ri_bind H (fun r4 h3 H => ?_))
    obtain ⟨hb, H⟩ := H
    refine rc_irem mq214 (mvDec_of cd214 rfl) hb ?_
    refine rc_callV [mvR 68, mvI l5, mvI (l4.tmod r4)] [mvI l5, mvR 89] [some (mvR 68), some (mvI l5), some (mvI (l4.tmod r4)), none, none, none] mq214 (mvDec_of cd214 rfl) lk_10_314 mq173 (by decide) rfl rfl (Nat.le_of_ble_eq_true rfl) (Nat.le_of_ble_eq_true rfl) (by decide) rfl mis68 rfl (ri_bind H (fun r6 h5 H => ?_))
    obtain ⟨⟨hb0, hb1⟩, H⟩ := H
    refine rc_iast mq214 (mvDec_of cd214 rfl) mis89 hb0 hb1 ?_
    refine rc_heap (fun h7 hh => ?_)
    replace H := H h7 hh
    refine rc_aload_n mq214 (mvDec_of cd214 rfl) rfl ?_
    refine rc_getR 90 mq214 (mvDec_of cd214 rfl) fl_10_74 mis68 rfl (gr_68_35 hG) (by decide) ?_
    refine rc_iload mq214 (mvDec_of cd214 rfl) rfl ?_
    refine rc_aload_n mq214 (mvDec_of cd214 rfl) rfl ?_
    refine rc_iload mq214 (mvDec_of cd214 rfl) rfl ?_
    refine rc_aload_n mq214 (mvDec_of cd214 rfl) rfl ?_
    refine rc_getR 89 mq214 (mvDec_of cd214 rfl) fl_10_71 mis68 rfl (gr_68_34 hG) (by decide) ?_
    refine rc_iload mq214 (mvDec_of cd214 rfl) rfl ?_
    obtain ⟨⟨hb0, hb1⟩, H⟩ := H
    refine rc_iald mq214 (mvDec_of cd214 rfl) mis89 hb0 hb1 ?_
    refine rc_callV [mvR 68, mvI l5, mvI (h7 89 l5)] [mvI l5, mvR 90] [some (mvR 68), some (mvI l5), some (mvI (h7 89 l5)), none] mq214 (mvDec_of cd214 rfl) lk_10_317 mq174 (by decide) rfl rfl (Nat.le_of_ble_eq_true rfl) (Nat.le_of_ble_eq_true rfl) (by decide) rfl mis68 rfl (ri_bind H (fun r9 h8 H => ?_))
    obtain ⟨⟨hb0, hb1⟩, H⟩ := H
    refine rc_iast mq214 (mvDec_of cd214 rfl) mis90 hb0 hb1 ?_
    refine rc_heap (fun h10 hh => ?_)
    replace H := H h10 hh
    refine rc_iload mq214 (mvDec_of cd214 rfl) rfl ?_
    refine rc_aload_n mq214 (mvDec_of cd214 rfl) rfl ?_
    refine rc_iload mq214 (mvDec_of cd214 rfl) rfl ?_
    refine rc_callV [mvR 68, mvI l5] [mvI l4] [some (mvR 68), some (mvI l5), none] mq214 (mvDec_of cd214 rfl) lk_10_320 mq193 (by decide) rfl rfl (Nat.le_of_ble_eq_true rfl) (Nat.le_of_ble_eq_true rfl) (by decide) rfl mis68 rfl (ri_bind H (fun r12 h11 H => ?_))
    obtain ⟨hb, H⟩ := H
    refine rc_idiv mq214 (mvDec_of cd214 rfl) hb ?_
    refine rc_top (fun v13 hv => ?_)
    replace H := H v13 hv
    refine rc_istore [some (mvR 68), some (mvI l1), u2.map mvI, some (mvI l3), some (mvI v13), some (mvI l5)] mq214 (mvDec_of cd214 rfl) rfl ?_
    refine rc_iinc [some (mvR 68), some (mvI l1), u2.map mvI, some (mvI l3), some (mvI v13), some (mvI (mw (l5 + 1)))] mq214 (mvDec_of cd214 rfl) rfl rfl ?_
    refine rc_goto (t := 45) mq214 (mvDec_of cd214 rfl) rfl ?_
    exact H
abbrev MD_shotNow (g : Nat → Nat → Nat) (h : Nat → Int → Int) (x1 : Int) (x2 : Int) (K : Int → (Nat → Int → Int) → Prop) : Prop := RI 215 0 [some (mvR 68), some (mvI x1), some (mvI x2), none, none] [] g h K
abbrev MD_shotNow_2 (g : Nat → Nat → Nat) (h : Nat → Int → Int) (l1 : Int) (l2 : Int) (l3 : Int) (u4 : Option Int) (K : Int → (Nat → Int → Int) → Prop) : Prop := RI 215 2 [some (mvR 68), some (mvI l1), some (mvI l2), some (mvI l3), u4.map mvI] [] g h K
abbrev MD_shotNow_23 (g : Nat → Nat → Nat) (h : Nat → Int → Int) (l1 : Int) (l2 : Int) (l3 : Int) (u4 : Option Int) (K : Int → (Nat → Int → Int) → Prop) : Prop := RI 215 23 [some (mvR 68), some (mvI l1), some (mvI l2), some (mvI l3), u4.map mvI] [] g h K
abbrev MD_shotNow_58 (g : Nat → Nat → Nat) (h : Nat → Int → Int) (l1 : Int) (l2 : Int) (l3 : Int) (u4 : Option Int) (K : Int → (Nat → Int → Int) → Prop) : Prop := RI 215 58 [some (mvR 68), some (mvI l1), some (mvI l2), some (mvI l3), u4.map mvI] [] g h K
abbrev MD_shotNow_103 (g : Nat → Nat → Nat) (h : Nat → Int → Int) (u1 : Option Int) (u2 : Option Int) (l3 : Int) (l4 : Int) (K : Int → (Nat → Int → Int) → Prop) : Prop := RI 215 103 [some (mvR 68), u1.map mvI, u2.map mvI, some (mvI l3), some (mvI l4)] [] g h K
abbrev MD_shotNow_139 (g : Nat → Nat → Nat) (h : Nat → Int → Int) (u1 : Option Int) (u2 : Option Int) (l3 : Int) (u4 : Option Int) (K : Int → (Nat → Int → Int) → Prop) : Prop := RI 215 139 [some (mvR 68), u1.map mvI, u2.map mvI, some (mvI l3), u4.map mvI] [] g h K
abbrev MD_shotNow_179 (g : Nat → Nat → Nat) (h : Nat → Int → Int) (u1 : Option Int) (u2 : Option Int) (u3 : Option Int) (l4 : Int) (K : Int → (Nat → Int → Int) → Prop) : Prop := RI 215 179 [some (mvR 68), u1.map mvI, u2.map mvI, u3.map mvI, some (mvI l4)] [] g h K
theorem MD_shotNow_wp {sw : Bool} {g : Nat → Nat → Nat} {h : Nat → Int → Int} {x1 : Int} {x2 : Int} {K : Int → (Nat → Int → Int) → Prop} (hG : Gok sw g)  (H :
  MD_shotNow_2 g h x1 x2 0 none K) : MD_shotNow g h x1 x2 K := by
  refine rc_iconst mq215 (mvDec_of cd215 rfl) (by decide) ?_
  refine rc_istore_n [some (mvR 68), some (mvI x1), some (mvI x2), some (mvI 0), none] mq215 (mvDec_of cd215 rfl) rfl ?_
  exact H
theorem MD_shotNow_2_wp {sw : Bool} {g : Nat → Nat → Nat} {h : Nat → Int → Int} {l1 : Int} {l2 : Int} {l3 : Int} {u4 : Option Int} {K : Int → (Nat → Int → Int) → Prop} (hG : Gok sw g)  (H :
  ((16 ≤ l3 →
    MD_shotNow_23 g h l1 l2 0 u4 K) ∧
  (l3 < 16 →
    (0 ≤ l3 ∧ l3 < 16) ∧
    (∀ h1, h1 = mvUpd h 96 l3 (-1) →
    MD_shotNow_2 g h1 l1 l2 (mw (l3 + 1)) u4 K)))) : MD_shotNow_2 g h l1 l2 l3 u4 K := by
  refine rc_iload_n mq215 (mvDec_of cd215 rfl) rfl ?_
  refine rc_bipush mq215 (mvDec_of cd215 rfl) (by decide) ?_
  refine rc_icmp_ge (t := 21) mq215 (mvDec_of cd215 rfl) rfl (fun hc => ?_) (fun hc => ?_)
  · replace H := H.1 hc
    refine rc_iconst mq215 (mvDec_of cd215 rfl) (by decide) ?_
    refine rc_istore_n [some (mvR 68), some (mvI l1), some (mvI l2), some (mvI 0), u4.map mvI] mq215 (mvDec_of cd215 rfl) rfl ?_
    exact H
  · replace H := H.2 hc
    refine rc_aload_n mq215 (mvDec_of cd215 rfl) rfl ?_
    refine rc_getR 96 mq215 (mvDec_of cd215 rfl) fl_10_92 mis68 rfl (gr_68_42 hG) (by decide) ?_
    refine rc_iload_n mq215 (mvDec_of cd215 rfl) rfl ?_
    refine rc_iconst mq215 (mvDec_of cd215 rfl) (by decide) ?_
    obtain ⟨⟨hb0, hb1⟩, H⟩ := H
    refine rc_iast mq215 (mvDec_of cd215 rfl) mis96 hb0 hb1 ?_
    refine rc_heap (fun h1 hh => ?_)
    replace H := H h1 hh
    refine rc_iinc [some (mvR 68), some (mvI l1), some (mvI l2), some (mvI (mw (l3 + 1))), u4.map mvI] mq215 (mvDec_of cd215 rfl) rfl rfl ?_
    refine rc_goto (t := 2) mq215 (mvDec_of cd215 rfl) rfl ?_
    exact H
theorem MD_shotNow_23_wp {sw : Bool} {g : Nat → Nat → Nat} {h : Nat → Int → Int} {l1 : Int} {l2 : Int} {l3 : Int} {u4 : Option Int} {K : Int → (Nat → Int → Int) → Prop} (hG : Gok sw g)  (H :
  ((4 ≤ l3 →
    (∀ h1, h1 = mvUpd h 68 43 0 →
    (∀ h2, h2 = mvUpd h1 68 14 0 →
    MD_take g h2 0 (fun h3 =>
      MD_shotNow_58 g h3 l1 l2 0 u4 K)))) ∧
  (l3 < 4 →
    (0 ≤ l3 ∧ l3 < 4) ∧
    (∀ h4, h4 = mvUpd h 95 l3 (-1) →
    MD_shotNow_23 g h4 l1 l2 (mw (l3 + 1)) u4 K)))) : MD_shotNow_23 g h l1 l2 l3 u4 K := by
  refine rc_iload_n mq215 (mvDec_of cd215 rfl) rfl ?_
  refine rc_iconst mq215 (mvDec_of cd215 rfl) (by decide) ?_
  refine rc_icmp_ge (t := 41) mq215 (mvDec_of cd215 rfl) rfl (fun hc => ?_) (fun hc => ?_)
  · replace H := H.1 hc
    refine rc_aload_n mq215 (mvDec_of cd215 rfl) rfl ?_
    refine rc_iconst mq215 (mvDec_of cd215 rfl) (by decide) ?_
    refine rc_putI 43 mq215 (mvDec_of cd215 rfl) fl_10_363 mis68 rfl (fun z => absurd z (by decide)) (Or.inl rfl) ?_
    refine rc_heap (fun h1 hh => ?_)
    replace H := H h1 hh
    refine rc_aload_n mq215 (mvDec_of cd215 rfl) rfl ?_
    refine rc_iconst mq215 (mvDec_of cd215 rfl) (by decide) ?_
    refine rc_putI 14 mq215 (mvDec_of cd215 rfl) fl_10_378 mis68 rfl (fun z => absurd z (by decide)) (Or.inl rfl) ?_
    refine rc_heap (fun h2 hh => ?_)
    replace H := H h2 hh
    refine rc_aload_n mq215 (mvDec_of cd215 rfl) rfl ?_
    refine rc_iconst mq215 (mvDec_of cd215 rfl) (by decide) ?_
    refine rc_callV [mvR 68, mvI 0] [] [some (mvR 68), some (mvI 0), none, none] mq215 (mvDec_of cd215 rfl) lk_10_196 mq50 (by decide) rfl rfl (Nat.le_of_ble_eq_true rfl) (Nat.le_of_ble_eq_true rfl) (by decide) rfl mis68 rfl (rv_bind H (fun h3 H => ?_))
    refine rc_iconst mq215 (mvDec_of cd215 rfl) (by decide) ?_
    refine rc_istore_n [some (mvR 68), some (mvI l1), some (mvI l2), some (mvI 0), u4.map mvI] mq215 (mvDec_of cd215 rfl) rfl ?_
    exact H
  · replace H := H.2 hc
    refine rc_aload_n mq215 (mvDec_of cd215 rfl) rfl ?_
    refine rc_getR 95 mq215 (mvDec_of cd215 rfl) fl_10_89 mis68 rfl (gr_68_41 hG) (by decide) ?_
    refine rc_iload_n mq215 (mvDec_of cd215 rfl) rfl ?_
    refine rc_iconst mq215 (mvDec_of cd215 rfl) (by decide) ?_
    obtain ⟨⟨hb0, hb1⟩, H⟩ := H
    refine rc_iast mq215 (mvDec_of cd215 rfl) mis95 hb0 hb1 ?_
    refine rc_heap (fun h4 hh => ?_)
    replace H := H h4 hh
    refine rc_iinc [some (mvR 68), some (mvI l1), some (mvI l2), some (mvI (mw (l3 + 1))), u4.map mvI] mq215 (mvDec_of cd215 rfl) rfl rfl ?_
    refine rc_goto (t := 23) mq215 (mvDec_of cd215 rfl) rfl ?_
    exact H
theorem MD_shotNow_58_wp {sw : Bool} {g : Nat → Nat → Nat} {h : Nat → Int → Int} {l1 : Int} {l2 : Int} {l3 : Int} {u4 : Option Int} {K : Int → (Nat → Int → Int) → Prop} (hG : Gok sw g)  (H :
  ((l2 ≤ l3 →
    MD_notes g h l1 l2 (fun h1 =>
      MD_markersCome g h1 l2 (fun h2 =>
        MD_eventsAll g h2 (fun r4 h3 =>
          MD_shotNow_103 g h3 (some l1) (some l2) r4 l2 K)))) ∧
  (l3 < l2 →
    (0 ≤ l3 ∧ l3 < 16) ∧
    (0 ≤ (h 75 l3) ∧ (h 75 l3) < 4) ∧
    (0 ≤ (h 75 l3) ∧ (h 75 l3) < 4) ∧
    (∀ h5, h5 = mvUpd h 81 (h 75 l3) (mw ((h 81 (h 75 l3)) + 1)) →
    MD_shotNow_58 g h5 l1 l2 (mw (l3 + 1)) u4 K)))) : MD_shotNow_58 g h l1 l2 l3 u4 K := by
  refine rc_iload_n mq215 (mvDec_of cd215 rfl) rfl ?_
  refine rc_iload_n mq215 (mvDec_of cd215 rfl) rfl ?_
  refine rc_icmp_ge (t := 84) mq215 (mvDec_of cd215 rfl) rfl (fun hc => ?_) (fun hc => ?_)
  · replace H := H.1 hc
    refine rc_aload_n mq215 (mvDec_of cd215 rfl) rfl ?_
    refine rc_iload_n mq215 (mvDec_of cd215 rfl) rfl ?_
    refine rc_iload_n mq215 (mvDec_of cd215 rfl) rfl ?_
    refine rc_callV [mvR 68, mvI l1, mvI l2] [] [some (mvR 68), some (mvI l1), some (mvI l2), none] mq215 (mvDec_of cd215 rfl) lk_10_369 mq135 (by decide) rfl rfl (Nat.le_of_ble_eq_true rfl) (Nat.le_of_ble_eq_true rfl) (by decide) rfl mis68 rfl (rv_bind H (fun h1 H => ?_))
    refine rc_aload_n mq215 (mvDec_of cd215 rfl) rfl ?_
    refine rc_iload_n mq215 (mvDec_of cd215 rfl) rfl ?_
    refine rc_callV [mvR 68, mvI l2] [] [some (mvR 68), some (mvI l2), none] mq215 (mvDec_of cd215 rfl) lk_10_381 mq197 (by decide) rfl rfl (Nat.le_of_ble_eq_true rfl) (Nat.le_of_ble_eq_true rfl) (by decide) rfl mis68 rfl (rv_bind H (fun h2 H => ?_))
    refine rc_aload_n mq215 (mvDec_of cd215 rfl) rfl ?_
    refine rc_callV [mvR 68] [] [some (mvR 68), none, none] mq215 (mvDec_of cd215 rfl) lk_10_173 mq46 (by decide) rfl rfl (Nat.le_of_ble_eq_true rfl) (Nat.le_of_ble_eq_true rfl) (by decide) rfl mis68 rfl (ri_bind H (fun r4 h3 H => ?_))
    refine rc_istore_n [some (mvR 68), some (mvI l1), some (mvI l2), some (mvI r4), u4.map mvI] mq215 (mvDec_of cd215 rfl) rfl ?_
    refine rc_iload_n mq215 (mvDec_of cd215 rfl) rfl ?_
    refine rc_istore [some (mvR 68), some (mvI l1), some (mvI l2), some (mvI r4), some (mvI l2)] mq215 (mvDec_of cd215 rfl) rfl ?_
    exact H
  · replace H := H.2 hc
    refine rc_aload_n mq215 (mvDec_of cd215 rfl) rfl ?_
    refine rc_getR 81 mq215 (mvDec_of cd215 rfl) fl_10_46 mis68 rfl (gr_68_26 hG) (by decide) ?_
    refine rc_aload_n mq215 (mvDec_of cd215 rfl) rfl ?_
    refine rc_getR 75 mq215 (mvDec_of cd215 rfl) fl_10_28 mis68 rfl (gr_68_11 hG) (by decide) ?_
    refine rc_iload_n mq215 (mvDec_of cd215 rfl) rfl ?_
    obtain ⟨⟨hb0, hb1⟩, H⟩ := H
    refine rc_iald mq215 (mvDec_of cd215 rfl) mis75 hb0 hb1 ?_
    refine rc_dup2 mq215 (mvDec_of cd215 rfl) rfl rfl ?_
    obtain ⟨⟨hb0, hb1⟩, H⟩ := H
    refine rc_iald mq215 (mvDec_of cd215 rfl) mis81 hb0 hb1 ?_
    refine rc_iconst mq215 (mvDec_of cd215 rfl) (by decide) ?_
    refine rc_iadd mq215 (mvDec_of cd215 rfl) ?_
    obtain ⟨⟨hb0, hb1⟩, H⟩ := H
    refine rc_iast mq215 (mvDec_of cd215 rfl) mis81 hb0 hb1 ?_
    refine rc_heap (fun h5 hh => ?_)
    replace H := H h5 hh
    refine rc_iinc [some (mvR 68), some (mvI l1), some (mvI l2), some (mvI (mw (l3 + 1))), u4.map mvI] mq215 (mvDec_of cd215 rfl) rfl rfl ?_
    refine rc_goto (t := 58) mq215 (mvDec_of cd215 rfl) rfl ?_
    exact H
theorem MD_shotNow_103_wp {sw : Bool} {g : Nat → Nat → Nat} {h : Nat → Int → Int} {u1 : Option Int} {u2 : Option Int} {l3 : Int} {l4 : Int} {K : Int → (Nat → Int → Int) → Prop} (hG : Gok sw g)  (H :
  ((l3 ≤ l4 →
    MD_shotNow_139 g h u1 u2 l3 (some l4) K) ∧
  (l4 < l3 →
    (0 ≤ l4 ∧ l4 < 16) ∧
    (0 ≤ (h 75 l4) ∧ (h 75 l4) < 4) ∧
    (0 ≤ (h 75 l4) ∧ (h 75 l4) < 4) ∧
    (∀ h1, h1 = mvUpd h 81 (h 75 l4) (mw ((h 81 (h 75 l4)) + 1)) →
    MD_markersCome g h1 (mw (l4 + 1)) (fun h2 =>
      MD_shotNow_103 g h2 u1 u2 l3 (mw (l4 + 1)) K))))) : MD_shotNow_103 g h u1 u2 l3 l4 K := by
  refine rc_iload mq215 (mvDec_of cd215 rfl) rfl ?_
  refine rc_iload_n mq215 (mvDec_of cd215 rfl) rfl ?_
  refine rc_icmp_ge (t := 139) mq215 (mvDec_of cd215 rfl) rfl (fun hc => ?_) (fun hc => ?_)
  · replace H := H.1 hc
    exact H
  · replace H := H.2 hc
    refine rc_aload_n mq215 (mvDec_of cd215 rfl) rfl ?_
    refine rc_getR 81 mq215 (mvDec_of cd215 rfl) fl_10_46 mis68 rfl (gr_68_26 hG) (by decide) ?_
    refine rc_aload_n mq215 (mvDec_of cd215 rfl) rfl ?_
    refine rc_getR 75 mq215 (mvDec_of cd215 rfl) fl_10_28 mis68 rfl (gr_68_11 hG) (by decide) ?_
    refine rc_iload mq215 (mvDec_of cd215 rfl) rfl ?_
    obtain ⟨⟨hb0, hb1⟩, H⟩ := H
    refine rc_iald mq215 (mvDec_of cd215 rfl) mis75 hb0 hb1 ?_
    refine rc_dup2 mq215 (mvDec_of cd215 rfl) rfl rfl ?_
    obtain ⟨⟨hb0, hb1⟩, H⟩ := H
    refine rc_iald mq215 (mvDec_of cd215 rfl) mis81 hb0 hb1 ?_
    refine rc_iconst mq215 (mvDec_of cd215 rfl) (by decide) ?_
    refine rc_iadd mq215 (mvDec_of cd215 rfl) ?_
    obtain ⟨⟨hb0, hb1⟩, H⟩ := H
    refine rc_iast mq215 (mvDec_of cd215 rfl) mis81 hb0 hb1 ?_
    refine rc_heap (fun h1 hh => ?_)
    replace H := H h1 hh
    refine rc_aload_n mq215 (mvDec_of cd215 rfl) rfl ?_
    refine rc_iload mq215 (mvDec_of cd215 rfl) rfl ?_
    refine rc_iconst mq215 (mvDec_of cd215 rfl) (by decide) ?_
    refine rc_iadd mq215 (mvDec_of cd215 rfl) ?_
    refine rc_callV [mvR 68, mvI (mw (l4 + 1))] [] [some (mvR 68), some (mvI (mw (l4 + 1))), none] mq215 (mvDec_of cd215 rfl) lk_10_381 mq197 (by decide) rfl rfl (Nat.le_of_ble_eq_true rfl) (Nat.le_of_ble_eq_true rfl) (by decide) rfl mis68 rfl (rv_bind H (fun h2 H => ?_))
    refine rc_iinc [some (mvR 68), u1.map mvI, u2.map mvI, some (mvI l3), some (mvI (mw (l4 + 1)))] mq215 (mvDec_of cd215 rfl) rfl rfl ?_
    refine rc_goto (t := 103) mq215 (mvDec_of cd215 rfl) rfl ?_
    exact H
theorem MD_shotNow_139_wp {sw : Bool} {g : Nat → Nat → Nat} {h : Nat → Int → Int} {u1 : Option Int} {u2 : Option Int} {l3 : Int} {u4 : Option Int} {K : Int → (Nat → Int → Int) → Prop} (hG : Gok sw g)  (H :
  MD_nextMarker g h 1 (fun r2 h1 =>
    ((r2 = (-1) →
      MD_shotNow_179 g h1 u1 u2 (some l3) 0 K) ∧
    (¬ r2 = (-1) →
      MD_nextMarker g h1 1 (fun r4 h3 =>
        MD_markerComes g h3 r4 l3 (fun h5 =>
          (∀ h6, h6 = mvUpd h5 68 14 (mw ((h5 68 14) + 1)) →
          MD_markersCome g h6 l3 (fun h7 =>
            MD_shotNow_139 g h7 u1 u2 l3 u4 K)))))))) : MD_shotNow_139 g h u1 u2 l3 u4 K := by
  refine rc_aload_n mq215 (mvDec_of cd215 rfl) rfl ?_
  refine rc_iconst mq215 (mvDec_of cd215 rfl) (by decide) ?_
  refine rc_callV [mvR 68, mvI 1] [] [some (mvR 68), some (mvI 1), none, none, none] mq215 (mvDec_of cd215 rfl) lk_10_372 mq136 (by decide) rfl rfl (Nat.le_of_ble_eq_true rfl) (Nat.le_of_ble_eq_true rfl) (by decide) rfl mis68 rfl (ri_bind H (fun r2 h1 H => ?_))
  refine rc_iconst mq215 (mvDec_of cd215 rfl) (by decide) ?_
  refine rc_icmp_eq (t := 176) mq215 (mvDec_of cd215 rfl) rfl (fun hc => ?_) (fun hc => ?_)
  · replace H := H.1 hc
    refine rc_iconst mq215 (mvDec_of cd215 rfl) (by decide) ?_
    refine rc_istore [some (mvR 68), u1.map mvI, u2.map mvI, some (mvI l3), some (mvI 0)] mq215 (mvDec_of cd215 rfl) rfl ?_
    exact H
  · replace H := H.2 hc
    refine rc_aload_n mq215 (mvDec_of cd215 rfl) rfl ?_
    refine rc_aload_n mq215 (mvDec_of cd215 rfl) rfl ?_
    refine rc_iconst mq215 (mvDec_of cd215 rfl) (by decide) ?_
    refine rc_callV [mvR 68, mvI 1] [mvR 68] [some (mvR 68), some (mvI 1), none, none, none] mq215 (mvDec_of cd215 rfl) lk_10_372 mq136 (by decide) rfl rfl (Nat.le_of_ble_eq_true rfl) (Nat.le_of_ble_eq_true rfl) (by decide) rfl mis68 rfl (ri_bind H (fun r4 h3 H => ?_))
    refine rc_iload_n mq215 (mvDec_of cd215 rfl) rfl ?_
    refine rc_callV [mvR 68, mvI r4, mvI l3] [] [some (mvR 68), some (mvI r4), some (mvI l3)] mq215 (mvDec_of cd215 rfl) lk_10_375 mq176 (by decide) rfl rfl (Nat.le_of_ble_eq_true rfl) (Nat.le_of_ble_eq_true rfl) (by decide) rfl mis68 rfl (rv_bind H (fun h5 H => ?_))
    refine rc_aload_n mq215 (mvDec_of cd215 rfl) rfl ?_
    refine rc_dup mq215 (mvDec_of cd215 rfl) rfl ?_
    refine rc_getI 14 mq215 (mvDec_of cd215 rfl) fl_10_378 mis68 rfl (by decide) (by decide) ?_
    refine rc_iconst mq215 (mvDec_of cd215 rfl) (by decide) ?_
    refine rc_iadd mq215 (mvDec_of cd215 rfl) ?_
    refine rc_putI 14 mq215 (mvDec_of cd215 rfl) fl_10_378 mis68 rfl (fun z => absurd z (by decide)) (Or.inl rfl) ?_
    refine rc_heap (fun h6 hh => ?_)
    replace H := H h6 hh
    refine rc_aload_n mq215 (mvDec_of cd215 rfl) rfl ?_
    refine rc_iload_n mq215 (mvDec_of cd215 rfl) rfl ?_
    refine rc_callV [mvR 68, mvI l3] [] [some (mvR 68), some (mvI l3), none] mq215 (mvDec_of cd215 rfl) lk_10_381 mq197 (by decide) rfl rfl (Nat.le_of_ble_eq_true rfl) (Nat.le_of_ble_eq_true rfl) (by decide) rfl mis68 rfl (rv_bind H (fun h7 H => ?_))
    refine rc_goto (t := 139) mq215 (mvDec_of cd215 rfl) rfl ?_
    exact H
theorem MD_shotNow_179_wp {sw : Bool} {g : Nat → Nat → Nat} {h : Nat → Int → Int} {u1 : Option Int} {u2 : Option Int} {u3 : Option Int} {l4 : Int} {K : Int → (Nat → Int → Int) → Prop} (hG : Gok sw g)  (H :
  ((4 ≤ l4 →
    MD_toldNow g h (fun r2 h1 =>
      K r2 h1)) ∧
  (l4 < 4 →
    (0 ≤ l4 ∧ l4 < 4) ∧
    (0 ≤ l4 ∧ l4 < 4) ∧
    (∀ h3, h3 = mvUpd h 81 l4 (h 95 l4) →
    MD_shotNow_179 g h3 u1 u2 u3 (mw (l4 + 1)) K)))) : MD_shotNow_179 g h u1 u2 u3 l4 K := by
  refine rc_iload mq215 (mvDec_of cd215 rfl) rfl ?_
  refine rc_iconst mq215 (mvDec_of cd215 rfl) (by decide) ?_
  refine rc_icmp_ge (t := 205) mq215 (mvDec_of cd215 rfl) rfl (fun hc => ?_) (fun hc => ?_)
  · replace H := H.1 hc
    refine rc_aload_n mq215 (mvDec_of cd215 rfl) rfl ?_
    refine rc_callV [mvR 68] [] [some (mvR 68), none, none] mq215 (mvDec_of cd215 rfl) lk_10_200 mq53 (by decide) rfl rfl (Nat.le_of_ble_eq_true rfl) (Nat.le_of_ble_eq_true rfl) (by decide) rfl mis68 rfl (ri_bind H (fun r2 h1 H => ?_))
    exact rc_iret mq215 (mvDec_of cd215 rfl) ⟨_, _, rfl, rfl, H⟩
  · replace H := H.2 hc
    refine rc_aload_n mq215 (mvDec_of cd215 rfl) rfl ?_
    refine rc_getR 81 mq215 (mvDec_of cd215 rfl) fl_10_46 mis68 rfl (gr_68_26 hG) (by decide) ?_
    refine rc_iload mq215 (mvDec_of cd215 rfl) rfl ?_
    refine rc_aload_n mq215 (mvDec_of cd215 rfl) rfl ?_
    refine rc_getR 95 mq215 (mvDec_of cd215 rfl) fl_10_89 mis68 rfl (gr_68_41 hG) (by decide) ?_
    refine rc_iload mq215 (mvDec_of cd215 rfl) rfl ?_
    obtain ⟨⟨hb0, hb1⟩, H⟩ := H
    refine rc_iald mq215 (mvDec_of cd215 rfl) mis95 hb0 hb1 ?_
    obtain ⟨⟨hb0, hb1⟩, H⟩ := H
    refine rc_iast mq215 (mvDec_of cd215 rfl) mis81 hb0 hb1 ?_
    refine rc_heap (fun h3 hh => ?_)
    replace H := H h3 hh
    refine rc_iinc [some (mvR 68), u1.map mvI, u2.map mvI, u3.map mvI, some (mvI (mw (l4 + 1)))] mq215 (mvDec_of cd215 rfl) rfl (by cases u3 <;> rfl) ?_
    refine rc_goto (t := 179) mq215 (mvDec_of cd215 rfl) rfl ?_
    exact H
abbrev MD_local (g : Nat → Nat → Nat) (h : Nat → Int → Int) (x1 : Int) (x2 : Int) (K : Int → (Nat → Int → Int) → Prop) : Prop := RI 222 0 [some (mvR 68), some (mvI x1), some (mvI x2)] [] g h K
theorem MD_local_wp {sw : Bool} {g : Nat → Nat → Nat} {h : Nat → Int → Int} {x1 : Int} {x2 : Int} {K : Int → (Nat → Int → Int) → Prop} (hG : Gok sw g)  (H :
  ((x1 < 0 →
    K (-101) h) ∧
  (0 ≤ x1 →
    (((mw ((h 68 0) - 1)) < x1 →
      K (-101) h) ∧
    (x1 ≤ (mw ((h 68 0) - 1)) →
      ((x2 < 0 →
        K (-102) h) ∧
      (0 ≤ x2 →
        ((9 < x2 →
          K (-102) h) ∧
        (x2 ≤ 9 →
          MD_isFull g h x1 (fun r2 h1 =>
            ((r2 = 0 →
              MD_comes g h1 x1 0 x2 (fun r4 h3 =>
                K r4 h3)) ∧
            (¬ r2 = 0 →
              K (-104) h1)))))))))))) : MD_local g h x1 x2 K := by
  refine rc_aload_n mq222 (mvDec_of cd222 rfl) rfl ?_
  refine rc_iload_n mq222 (mvDec_of cd222 rfl) rfl ?_
  refine rc_callV [mvR 68, mvI x1] [] [some (mvR 68), some (mvI x1)] mq222 (mvDec_of cd222 rfl) lk_10_170 mq116 (by decide) rfl rfl (Nat.le_of_ble_eq_true rfl) (Nat.le_of_ble_eq_true rfl) (by decide) rfl mis68 rfl ?_
  refine rc_iload_n mq116 (mvDec_of cd116 rfl) rfl ?_
  refine rc_iconst mq116 (mvDec_of cd116 rfl) (by decide) ?_
  refine rc_aload_n mq116 (mvDec_of cd116 rfl) rfl ?_
  refine rc_getI 0 mq116 (mvDec_of cd116 rfl) fl_10_138 mis68 rfl (by decide) (by decide) ?_
  refine rc_iconst mq116 (mvDec_of cd116 rfl) (by decide) ?_
  refine rc_isub mq116 (mvDec_of cd116 rfl) ?_
  refine rc_callS [mvI x1, mvI 0, mvI (mw ((h 68 0) - 1))] [] [some (mvI x1), some (mvI 0), some (mvI (mw ((h 68 0) - 1)))] mq116 (mvDec_of cd116 rfl) lk_10_95 mq38 (by decide) rfl rfl (Nat.le_of_ble_eq_true rfl) (Nat.le_of_ble_eq_true rfl) (by decide) rfl ?_
  refine rc_iload_n mq38 (mvDec_of cd38 rfl) rfl ?_
  refine rc_iload_n mq38 (mvDec_of cd38 rfl) rfl ?_
  refine rc_icmp_lt (t := 14) mq38 (mvDec_of cd38 rfl) rfl (fun hc => ?_) (fun hc => ?_)
  · replace H := H.1 hc
    refine rc_iconst mq38 (mvDec_of cd38 rfl) (by decide) ?_
    refine rc_zret mq38 (mvDec_of cd38 rfl) (Or.inl rfl) ?_
    show Rch 116 11 [some (mvR 68), some (mvI x1)] [mvI 0] (97, g, h) _
    refine rc_zret mq116 (mvDec_of cd116 rfl) (Or.inl rfl) ?_
    show Rch 222 5 [some (mvR 68), some (mvI x1), some (mvI x2)] [mvI 0] (97, g, h) _
    refine rc_ifF (t := 11) mq222 (mvDec_of cd222 rfl) rfl rfl ?_
    refine rc_bipush mq222 (mvDec_of cd222 rfl) (by decide) ?_
    exact rc_iret mq222 (mvDec_of cd222 rfl) ⟨_, _, rfl, rfl, H⟩
  · replace H := H.2 hc
    refine rc_iload_n mq38 (mvDec_of cd38 rfl) rfl ?_
    refine rc_iload_n mq38 (mvDec_of cd38 rfl) rfl ?_
    refine rc_icmp_gt (t := 14) mq38 (mvDec_of cd38 rfl) rfl (fun hc => ?_) (fun hc => ?_)
    · replace H := H.1 hc
      refine rc_iconst mq38 (mvDec_of cd38 rfl) (by decide) ?_
      refine rc_zret mq38 (mvDec_of cd38 rfl) (Or.inl rfl) ?_
      show Rch 116 11 [some (mvR 68), some (mvI x1)] [mvI 0] (97, g, h) _
      refine rc_zret mq116 (mvDec_of cd116 rfl) (Or.inl rfl) ?_
      show Rch 222 5 [some (mvR 68), some (mvI x1), some (mvI x2)] [mvI 0] (97, g, h) _
      refine rc_ifF (t := 11) mq222 (mvDec_of cd222 rfl) rfl rfl ?_
      refine rc_bipush mq222 (mvDec_of cd222 rfl) (by decide) ?_
      exact rc_iret mq222 (mvDec_of cd222 rfl) ⟨_, _, rfl, rfl, H⟩
    · replace H := H.2 hc
      refine rc_iconst mq38 (mvDec_of cd38 rfl) (by decide) ?_
      refine rc_goto (t := 15) mq38 (mvDec_of cd38 rfl) rfl ?_
      refine rc_zret mq38 (mvDec_of cd38 rfl) (Or.inr rfl) ?_
      show Rch 116 11 [some (mvR 68), some (mvI x1)] [mvI 1] (97, g, h) _
      refine rc_zret mq116 (mvDec_of cd116 rfl) (Or.inr rfl) ?_
      show Rch 222 5 [some (mvR 68), some (mvI x1), some (mvI x2)] [mvI 1] (97, g, h) _
      refine rc_ifT (t := 11) mq222 (mvDec_of cd222 rfl) rfl rfl ?_
      refine rc_iload_n mq222 (mvDec_of cd222 rfl) rfl ?_
      refine rc_iconst mq222 (mvDec_of cd222 rfl) (by decide) ?_
      refine rc_bipush mq222 (mvDec_of cd222 rfl) (by decide) ?_
      refine rc_callS [mvI x2, mvI 0, mvI 9] [] [some (mvI x2), some (mvI 0), some (mvI 9)] mq222 (mvDec_of cd222 rfl) lk_10_95 mq38 (by decide) rfl rfl (Nat.le_of_ble_eq_true rfl) (Nat.le_of_ble_eq_true rfl) (by decide) rfl ?_
      refine rc_iload_n mq38 (mvDec_of cd38 rfl) rfl ?_
      refine rc_iload_n mq38 (mvDec_of cd38 rfl) rfl ?_
      refine rc_icmp_lt (t := 14) mq38 (mvDec_of cd38 rfl) rfl (fun hc => ?_) (fun hc => ?_)
      · replace H := H.1 hc
        refine rc_iconst mq38 (mvDec_of cd38 rfl) (by decide) ?_
        refine rc_zret mq38 (mvDec_of cd38 rfl) (Or.inl rfl) ?_
        show Rch 222 18 [some (mvR 68), some (mvI x1), some (mvI x2)] [mvI 0] (97, g, h) _
        refine rc_ifF (t := 24) mq222 (mvDec_of cd222 rfl) rfl rfl ?_
        refine rc_bipush mq222 (mvDec_of cd222 rfl) (by decide) ?_
        exact rc_iret mq222 (mvDec_of cd222 rfl) ⟨_, _, rfl, rfl, H⟩
      · replace H := H.2 hc
        refine rc_iload_n mq38 (mvDec_of cd38 rfl) rfl ?_
        refine rc_iload_n mq38 (mvDec_of cd38 rfl) rfl ?_
        refine rc_icmp_gt (t := 14) mq38 (mvDec_of cd38 rfl) rfl (fun hc => ?_) (fun hc => ?_)
        · replace H := H.1 hc
          refine rc_iconst mq38 (mvDec_of cd38 rfl) (by decide) ?_
          refine rc_zret mq38 (mvDec_of cd38 rfl) (Or.inl rfl) ?_
          show Rch 222 18 [some (mvR 68), some (mvI x1), some (mvI x2)] [mvI 0] (97, g, h) _
          refine rc_ifF (t := 24) mq222 (mvDec_of cd222 rfl) rfl rfl ?_
          refine rc_bipush mq222 (mvDec_of cd222 rfl) (by decide) ?_
          exact rc_iret mq222 (mvDec_of cd222 rfl) ⟨_, _, rfl, rfl, H⟩
        · replace H := H.2 hc
          refine rc_iconst mq38 (mvDec_of cd38 rfl) (by decide) ?_
          refine rc_goto (t := 15) mq38 (mvDec_of cd38 rfl) rfl ?_
          refine rc_zret mq38 (mvDec_of cd38 rfl) (Or.inr rfl) ?_
          show Rch 222 18 [some (mvR 68), some (mvI x1), some (mvI x2)] [mvI 1] (97, g, h) _
          refine rc_ifT (t := 24) mq222 (mvDec_of cd222 rfl) rfl rfl ?_
          refine rc_aload_n mq222 (mvDec_of cd222 rfl) rfl ?_
          refine rc_iload_n mq222 (mvDec_of cd222 rfl) rfl ?_
          refine rc_callV [mvR 68, mvI x1] [] [some (mvR 68), some (mvI x1)] mq222 (mvDec_of cd222 rfl) lk_10_176 mq117 (by decide) rfl rfl (Nat.le_of_ble_eq_true rfl) (Nat.le_of_ble_eq_true rfl) (by decide) rfl mis68 rfl (ri_bind H (fun r2 h1 H => ?_))
          refine rc_if_eq (t := 37) mq222 (mvDec_of cd222 rfl) rfl (fun hc => ?_) (fun hc => ?_)
          · replace H := H.1 hc
            refine rc_aload_n mq222 (mvDec_of cd222 rfl) rfl ?_
            refine rc_iload_n mq222 (mvDec_of cd222 rfl) rfl ?_
            refine rc_iconst mq222 (mvDec_of cd222 rfl) (by decide) ?_
            refine rc_iload_n mq222 (mvDec_of cd222 rfl) rfl ?_
            refine rc_callV [mvR 68, mvI x1, mvI 0, mvI x2] [] [some (mvR 68), some (mvI x1), some (mvI 0), some (mvI x2)] mq222 (mvDec_of cd222 rfl) lk_10_179 mq211 (by decide) rfl rfl (Nat.le_of_ble_eq_true rfl) (Nat.le_of_ble_eq_true rfl) (by decide) rfl mis68 rfl (ri_bind H (fun r4 h3 H => ?_))
            exact rc_iret mq222 (mvDec_of cd222 rfl) ⟨_, _, rfl, rfl, H⟩
          · replace H := H.2 hc
            refine rc_bipush mq222 (mvDec_of cd222 rfl) (by decide) ?_
            refine rc_goto (t := 44) mq222 (mvDec_of cd222 rfl) rfl ?_
            exact rc_iret mq222 (mvDec_of cd222 rfl) ⟨_, _, rfl, rfl, H⟩
abbrev MD_send (g : Nat → Nat → Nat) (h : Nat → Int → Int) (x1 : Int) (x2 : Int) (K : Int → (Nat → Int → Int) → Prop) : Prop := RI 223 0 [some (mvR 68), some (mvI x1), some (mvI x2)] [] g h K
theorem MD_send_wp {sw : Bool} {g : Nat → Nat → Nat} {h : Nat → Int → Int} {x1 : Int} {x2 : Int} {K : Int → (Nat → Int → Int) → Prop} (hG : Gok sw g)  (H :
  ((x1 < 0 →
    K (-101) h) ∧
  (0 ≤ x1 →
    (((mw ((h 68 0) - 1)) < x1 →
      K (-101) h) ∧
    (x1 ≤ (mw ((h 68 0) - 1)) →
      ((x2 < 0 →
        K (-101) h) ∧
      (0 ≤ x2 →
        (((mw ((h 68 0) - 1)) < x2 →
          K (-101) h) ∧
        (x2 ≤ (mw ((h 68 0) - 1)) →
          ((¬ x1 = x2 →
            MD_isFull g h x1 (fun r2 h1 =>
              ((r2 = 0 →
                MD_comes g h1 x1 1 x2 (fun r4 h3 =>
                  K r4 h3)) ∧
              (¬ r2 = 0 →
                K (-104) h1)))) ∧
          (x1 = x2 →
            K (-101) h))))))))))) : MD_send g h x1 x2 K := by
  refine rc_aload_n mq223 (mvDec_of cd223 rfl) rfl ?_
  refine rc_iload_n mq223 (mvDec_of cd223 rfl) rfl ?_
  refine rc_callV [mvR 68, mvI x1] [] [some (mvR 68), some (mvI x1)] mq223 (mvDec_of cd223 rfl) lk_10_170 mq116 (by decide) rfl rfl (Nat.le_of_ble_eq_true rfl) (Nat.le_of_ble_eq_true rfl) (by decide) rfl mis68 rfl ?_
  refine rc_iload_n mq116 (mvDec_of cd116 rfl) rfl ?_
  refine rc_iconst mq116 (mvDec_of cd116 rfl) (by decide) ?_
  refine rc_aload_n mq116 (mvDec_of cd116 rfl) rfl ?_
  refine rc_getI 0 mq116 (mvDec_of cd116 rfl) fl_10_138 mis68 rfl (by decide) (by decide) ?_
  refine rc_iconst mq116 (mvDec_of cd116 rfl) (by decide) ?_
  refine rc_isub mq116 (mvDec_of cd116 rfl) ?_
  refine rc_callS [mvI x1, mvI 0, mvI (mw ((h 68 0) - 1))] [] [some (mvI x1), some (mvI 0), some (mvI (mw ((h 68 0) - 1)))] mq116 (mvDec_of cd116 rfl) lk_10_95 mq38 (by decide) rfl rfl (Nat.le_of_ble_eq_true rfl) (Nat.le_of_ble_eq_true rfl) (by decide) rfl ?_
  refine rc_iload_n mq38 (mvDec_of cd38 rfl) rfl ?_
  refine rc_iload_n mq38 (mvDec_of cd38 rfl) rfl ?_
  refine rc_icmp_lt (t := 14) mq38 (mvDec_of cd38 rfl) rfl (fun hc => ?_) (fun hc => ?_)
  · replace H := H.1 hc
    refine rc_iconst mq38 (mvDec_of cd38 rfl) (by decide) ?_
    refine rc_zret mq38 (mvDec_of cd38 rfl) (Or.inl rfl) ?_
    show Rch 116 11 [some (mvR 68), some (mvI x1)] [mvI 0] (97, g, h) _
    refine rc_zret mq116 (mvDec_of cd116 rfl) (Or.inl rfl) ?_
    show Rch 223 5 [some (mvR 68), some (mvI x1), some (mvI x2)] [mvI 0] (97, g, h) _
    refine rc_ifT (t := 21) mq223 (mvDec_of cd223 rfl) rfl rfl ?_
    refine rc_bipush mq223 (mvDec_of cd223 rfl) (by decide) ?_
    exact rc_iret mq223 (mvDec_of cd223 rfl) ⟨_, _, rfl, rfl, H⟩
  · replace H := H.2 hc
    refine rc_iload_n mq38 (mvDec_of cd38 rfl) rfl ?_
    refine rc_iload_n mq38 (mvDec_of cd38 rfl) rfl ?_
    refine rc_icmp_gt (t := 14) mq38 (mvDec_of cd38 rfl) rfl (fun hc => ?_) (fun hc => ?_)
    · replace H := H.1 hc
      refine rc_iconst mq38 (mvDec_of cd38 rfl) (by decide) ?_
      refine rc_zret mq38 (mvDec_of cd38 rfl) (Or.inl rfl) ?_
      show Rch 116 11 [some (mvR 68), some (mvI x1)] [mvI 0] (97, g, h) _
      refine rc_zret mq116 (mvDec_of cd116 rfl) (Or.inl rfl) ?_
      show Rch 223 5 [some (mvR 68), some (mvI x1), some (mvI x2)] [mvI 0] (97, g, h) _
      refine rc_ifT (t := 21) mq223 (mvDec_of cd223 rfl) rfl rfl ?_
      refine rc_bipush mq223 (mvDec_of cd223 rfl) (by decide) ?_
      exact rc_iret mq223 (mvDec_of cd223 rfl) ⟨_, _, rfl, rfl, H⟩
    · replace H := H.2 hc
      refine rc_iconst mq38 (mvDec_of cd38 rfl) (by decide) ?_
      refine rc_goto (t := 15) mq38 (mvDec_of cd38 rfl) rfl ?_
      refine rc_zret mq38 (mvDec_of cd38 rfl) (Or.inr rfl) ?_
      show Rch 116 11 [some (mvR 68), some (mvI x1)] [mvI 1] (97, g, h) _
      refine rc_zret mq116 (mvDec_of cd116 rfl) (Or.inr rfl) ?_
      show Rch 223 5 [some (mvR 68), some (mvI x1), some (mvI x2)] [mvI 1] (97, g, h) _
      refine rc_ifF (t := 21) mq223 (mvDec_of cd223 rfl) rfl rfl ?_
      refine rc_aload_n mq223 (mvDec_of cd223 rfl) rfl ?_
      refine rc_iload_n mq223 (mvDec_of cd223 rfl) rfl ?_
      refine rc_callV [mvR 68, mvI x2] [] [some (mvR 68), some (mvI x2)] mq223 (mvDec_of cd223 rfl) lk_10_170 mq116 (by decide) rfl rfl (Nat.le_of_ble_eq_true rfl) (Nat.le_of_ble_eq_true rfl) (by decide) rfl mis68 rfl ?_
      refine rc_iload_n mq116 (mvDec_of cd116 rfl) rfl ?_
      refine rc_iconst mq116 (mvDec_of cd116 rfl) (by decide) ?_
      refine rc_aload_n mq116 (mvDec_of cd116 rfl) rfl ?_
      refine rc_getI 0 mq116 (mvDec_of cd116 rfl) fl_10_138 mis68 rfl (by decide) (by decide) ?_
      refine rc_iconst mq116 (mvDec_of cd116 rfl) (by decide) ?_
      refine rc_isub mq116 (mvDec_of cd116 rfl) ?_
      refine rc_callS [mvI x2, mvI 0, mvI (mw ((h 68 0) - 1))] [] [some (mvI x2), some (mvI 0), some (mvI (mw ((h 68 0) - 1)))] mq116 (mvDec_of cd116 rfl) lk_10_95 mq38 (by decide) rfl rfl (Nat.le_of_ble_eq_true rfl) (Nat.le_of_ble_eq_true rfl) (by decide) rfl ?_
      refine rc_iload_n mq38 (mvDec_of cd38 rfl) rfl ?_
      refine rc_iload_n mq38 (mvDec_of cd38 rfl) rfl ?_
      refine rc_icmp_lt (t := 14) mq38 (mvDec_of cd38 rfl) rfl (fun hc => ?_) (fun hc => ?_)
      · replace H := H.1 hc
        refine rc_iconst mq38 (mvDec_of cd38 rfl) (by decide) ?_
        refine rc_zret mq38 (mvDec_of cd38 rfl) (Or.inl rfl) ?_
        show Rch 116 11 [some (mvR 68), some (mvI x2)] [mvI 0] (97, g, h) _
        refine rc_zret mq116 (mvDec_of cd116 rfl) (Or.inl rfl) ?_
        show Rch 223 13 [some (mvR 68), some (mvI x1), some (mvI x2)] [mvI 0] (97, g, h) _
        refine rc_ifT (t := 21) mq223 (mvDec_of cd223 rfl) rfl rfl ?_
        refine rc_bipush mq223 (mvDec_of cd223 rfl) (by decide) ?_
        exact rc_iret mq223 (mvDec_of cd223 rfl) ⟨_, _, rfl, rfl, H⟩
      · replace H := H.2 hc
        refine rc_iload_n mq38 (mvDec_of cd38 rfl) rfl ?_
        refine rc_iload_n mq38 (mvDec_of cd38 rfl) rfl ?_
        refine rc_icmp_gt (t := 14) mq38 (mvDec_of cd38 rfl) rfl (fun hc => ?_) (fun hc => ?_)
        · replace H := H.1 hc
          refine rc_iconst mq38 (mvDec_of cd38 rfl) (by decide) ?_
          refine rc_zret mq38 (mvDec_of cd38 rfl) (Or.inl rfl) ?_
          show Rch 116 11 [some (mvR 68), some (mvI x2)] [mvI 0] (97, g, h) _
          refine rc_zret mq116 (mvDec_of cd116 rfl) (Or.inl rfl) ?_
          show Rch 223 13 [some (mvR 68), some (mvI x1), some (mvI x2)] [mvI 0] (97, g, h) _
          refine rc_ifT (t := 21) mq223 (mvDec_of cd223 rfl) rfl rfl ?_
          refine rc_bipush mq223 (mvDec_of cd223 rfl) (by decide) ?_
          exact rc_iret mq223 (mvDec_of cd223 rfl) ⟨_, _, rfl, rfl, H⟩
        · replace H := H.2 hc
          refine rc_iconst mq38 (mvDec_of cd38 rfl) (by decide) ?_
          refine rc_goto (t := 15) mq38 (mvDec_of cd38 rfl) rfl ?_
          refine rc_zret mq38 (mvDec_of cd38 rfl) (Or.inr rfl) ?_
          show Rch 116 11 [some (mvR 68), some (mvI x2)] [mvI 1] (97, g, h) _
          refine rc_zret mq116 (mvDec_of cd116 rfl) (Or.inr rfl) ?_
          show Rch 223 13 [some (mvR 68), some (mvI x1), some (mvI x2)] [mvI 1] (97, g, h) _
          refine rc_ifF (t := 21) mq223 (mvDec_of cd223 rfl) rfl rfl ?_
          refine rc_iload_n mq223 (mvDec_of cd223 rfl) rfl ?_
          refine rc_iload_n mq223 (mvDec_of cd223 rfl) rfl ?_
          refine rc_icmp_ne (t := 24) mq223 (mvDec_of cd223 rfl) rfl (fun hc => ?_) (fun hc => ?_)
          · replace H := H.1 hc
            refine rc_aload_n mq223 (mvDec_of cd223 rfl) rfl ?_
            refine rc_iload_n mq223 (mvDec_of cd223 rfl) rfl ?_
            refine rc_callV [mvR 68, mvI x1] [] [some (mvR 68), some (mvI x1)] mq223 (mvDec_of cd223 rfl) lk_10_176 mq117 (by decide) rfl rfl (Nat.le_of_ble_eq_true rfl) (Nat.le_of_ble_eq_true rfl) (by decide) rfl mis68 rfl (ri_bind H (fun r2 h1 H => ?_))
            refine rc_if_eq (t := 37) mq223 (mvDec_of cd223 rfl) rfl (fun hc => ?_) (fun hc => ?_)
            · replace H := H.1 hc
              refine rc_aload_n mq223 (mvDec_of cd223 rfl) rfl ?_
              refine rc_iload_n mq223 (mvDec_of cd223 rfl) rfl ?_
              refine rc_iconst mq223 (mvDec_of cd223 rfl) (by decide) ?_
              refine rc_iload_n mq223 (mvDec_of cd223 rfl) rfl ?_
              refine rc_callV [mvR 68, mvI x1, mvI 1, mvI x2] [] [some (mvR 68), some (mvI x1), some (mvI 1), some (mvI x2)] mq223 (mvDec_of cd223 rfl) lk_10_179 mq211 (by decide) rfl rfl (Nat.le_of_ble_eq_true rfl) (Nat.le_of_ble_eq_true rfl) (by decide) rfl mis68 rfl (ri_bind H (fun r4 h3 H => ?_))
              exact rc_iret mq223 (mvDec_of cd223 rfl) ⟨_, _, rfl, rfl, H⟩
            · replace H := H.2 hc
              refine rc_bipush mq223 (mvDec_of cd223 rfl) (by decide) ?_
              refine rc_goto (t := 44) mq223 (mvDec_of cd223 rfl) rfl ?_
              exact rc_iret mq223 (mvDec_of cd223 rfl) ⟨_, _, rfl, rfl, H⟩
          · replace H := H.2 hc
            refine rc_bipush mq223 (mvDec_of cd223 rfl) (by decide) ?_
            exact rc_iret mq223 (mvDec_of cd223 rfl) ⟨_, _, rfl, rfl, H⟩
abbrev MD_receive (g : Nat → Nat → Nat) (h : Nat → Int → Int) (x1 : Int) (x2 : Int) (K : Int → (Nat → Int → Int) → Prop) : Prop := RI 224 0 [some (mvR 68), some (mvI x1), some (mvI x2)] [] g h K
theorem MD_receive_wp {sw : Bool} {g : Nat → Nat → Nat} {h : Nat → Int → Int} {x1 : Int} {x2 : Int} {K : Int → (Nat → Int → Int) → Prop} (hG : Gok sw g)  (H :
  ((x1 < 0 →
    K (-101) h) ∧
  (0 ≤ x1 →
    (((mw ((h 68 0) - 1)) < x1 →
      K (-101) h) ∧
    (x1 ≤ (mw ((h 68 0) - 1)) →
      ((x2 < 0 →
        K (-101) h) ∧
      (0 ≤ x2 →
        (((mw ((h 68 0) - 1)) < x2 →
          K (-101) h) ∧
        (x2 ≤ (mw ((h 68 0) - 1)) →
          ((¬ x1 = x2 →
            (0 ≤ x2 ∧ x2 < 4) ∧
            MD_of g h x2 1 x1 (h 69 x2) (fun r2 h1 =>
              (0 ≤ x1 ∧ x1 < 4) ∧
              MD_of g h1 x1 2 x2 (h1 69 x1) (fun r4 h3 =>
                ((¬ r2 = r4 →
                  MD_isFull g h3 x1 (fun r6 h5 =>
                    ((r6 = 0 →
                      MD_comes g h5 x1 2 x2 (fun r8 h7 =>
                        K r8 h7)) ∧
                    (¬ r6 = 0 →
                      K (-104) h5)))) ∧
                (r2 = r4 →
                  K (-103) h3))))) ∧
          (x1 = x2 →
            K (-101) h))))))))))) : MD_receive g h x1 x2 K := by
  refine rc_aload_n mq224 (mvDec_of cd224 rfl) rfl ?_
  refine rc_iload_n mq224 (mvDec_of cd224 rfl) rfl ?_
  refine rc_callV [mvR 68, mvI x1] [] [some (mvR 68), some (mvI x1)] mq224 (mvDec_of cd224 rfl) lk_10_170 mq116 (by decide) rfl rfl (Nat.le_of_ble_eq_true rfl) (Nat.le_of_ble_eq_true rfl) (by decide) rfl mis68 rfl ?_
  refine rc_iload_n mq116 (mvDec_of cd116 rfl) rfl ?_
  refine rc_iconst mq116 (mvDec_of cd116 rfl) (by decide) ?_
  refine rc_aload_n mq116 (mvDec_of cd116 rfl) rfl ?_
  refine rc_getI 0 mq116 (mvDec_of cd116 rfl) fl_10_138 mis68 rfl (by decide) (by decide) ?_
  refine rc_iconst mq116 (mvDec_of cd116 rfl) (by decide) ?_
  refine rc_isub mq116 (mvDec_of cd116 rfl) ?_
  refine rc_callS [mvI x1, mvI 0, mvI (mw ((h 68 0) - 1))] [] [some (mvI x1), some (mvI 0), some (mvI (mw ((h 68 0) - 1)))] mq116 (mvDec_of cd116 rfl) lk_10_95 mq38 (by decide) rfl rfl (Nat.le_of_ble_eq_true rfl) (Nat.le_of_ble_eq_true rfl) (by decide) rfl ?_
  refine rc_iload_n mq38 (mvDec_of cd38 rfl) rfl ?_
  refine rc_iload_n mq38 (mvDec_of cd38 rfl) rfl ?_
  refine rc_icmp_lt (t := 14) mq38 (mvDec_of cd38 rfl) rfl (fun hc => ?_) (fun hc => ?_)
  · replace H := H.1 hc
    refine rc_iconst mq38 (mvDec_of cd38 rfl) (by decide) ?_
    refine rc_zret mq38 (mvDec_of cd38 rfl) (Or.inl rfl) ?_
    show Rch 116 11 [some (mvR 68), some (mvI x1)] [mvI 0] (97, g, h) _
    refine rc_zret mq116 (mvDec_of cd116 rfl) (Or.inl rfl) ?_
    show Rch 224 5 [some (mvR 68), some (mvI x1), some (mvI x2)] [mvI 0] (97, g, h) _
    refine rc_ifT (t := 21) mq224 (mvDec_of cd224 rfl) rfl rfl ?_
    refine rc_bipush mq224 (mvDec_of cd224 rfl) (by decide) ?_
    exact rc_iret mq224 (mvDec_of cd224 rfl) ⟨_, _, rfl, rfl, H⟩
  · replace H := H.2 hc
    refine rc_iload_n mq38 (mvDec_of cd38 rfl) rfl ?_
    refine rc_iload_n mq38 (mvDec_of cd38 rfl) rfl ?_
    refine rc_icmp_gt (t := 14) mq38 (mvDec_of cd38 rfl) rfl (fun hc => ?_) (fun hc => ?_)
    · replace H := H.1 hc
      refine rc_iconst mq38 (mvDec_of cd38 rfl) (by decide) ?_
      refine rc_zret mq38 (mvDec_of cd38 rfl) (Or.inl rfl) ?_
      show Rch 116 11 [some (mvR 68), some (mvI x1)] [mvI 0] (97, g, h) _
      refine rc_zret mq116 (mvDec_of cd116 rfl) (Or.inl rfl) ?_
      show Rch 224 5 [some (mvR 68), some (mvI x1), some (mvI x2)] [mvI 0] (97, g, h) _
      refine rc_ifT (t := 21) mq224 (mvDec_of cd224 rfl) rfl rfl ?_
      refine rc_bipush mq224 (mvDec_of cd224 rfl) (by decide) ?_
      exact rc_iret mq224 (mvDec_of cd224 rfl) ⟨_, _, rfl, rfl, H⟩
    · replace H := H.2 hc
      refine rc_iconst mq38 (mvDec_of cd38 rfl) (by decide) ?_
      refine rc_goto (t := 15) mq38 (mvDec_of cd38 rfl) rfl ?_
      refine rc_zret mq38 (mvDec_of cd38 rfl) (Or.inr rfl) ?_
      show Rch 116 11 [some (mvR 68), some (mvI x1)] [mvI 1] (97, g, h) _
      refine rc_zret mq116 (mvDec_of cd116 rfl) (Or.inr rfl) ?_
      show Rch 224 5 [some (mvR 68), some (mvI x1), some (mvI x2)] [mvI 1] (97, g, h) _
      refine rc_ifF (t := 21) mq224 (mvDec_of cd224 rfl) rfl rfl ?_
      refine rc_aload_n mq224 (mvDec_of cd224 rfl) rfl ?_
      refine rc_iload_n mq224 (mvDec_of cd224 rfl) rfl ?_
      refine rc_callV [mvR 68, mvI x2] [] [some (mvR 68), some (mvI x2)] mq224 (mvDec_of cd224 rfl) lk_10_170 mq116 (by decide) rfl rfl (Nat.le_of_ble_eq_true rfl) (Nat.le_of_ble_eq_true rfl) (by decide) rfl mis68 rfl ?_
      refine rc_iload_n mq116 (mvDec_of cd116 rfl) rfl ?_
      refine rc_iconst mq116 (mvDec_of cd116 rfl) (by decide) ?_
      refine rc_aload_n mq116 (mvDec_of cd116 rfl) rfl ?_
      refine rc_getI 0 mq116 (mvDec_of cd116 rfl) fl_10_138 mis68 rfl (by decide) (by decide) ?_
      refine rc_iconst mq116 (mvDec_of cd116 rfl) (by decide) ?_
      refine rc_isub mq116 (mvDec_of cd116 rfl) ?_
      refine rc_callS [mvI x2, mvI 0, mvI (mw ((h 68 0) - 1))] [] [some (mvI x2), some (mvI 0), some (mvI (mw ((h 68 0) - 1)))] mq116 (mvDec_of cd116 rfl) lk_10_95 mq38 (by decide) rfl rfl (Nat.le_of_ble_eq_true rfl) (Nat.le_of_ble_eq_true rfl) (by decide) rfl ?_
      refine rc_iload_n mq38 (mvDec_of cd38 rfl) rfl ?_
      refine rc_iload_n mq38 (mvDec_of cd38 rfl) rfl ?_
      refine rc_icmp_lt (t := 14) mq38 (mvDec_of cd38 rfl) rfl (fun hc => ?_) (fun hc => ?_)
      · replace H := H.1 hc
        refine rc_iconst mq38 (mvDec_of cd38 rfl) (by decide) ?_
        refine rc_zret mq38 (mvDec_of cd38 rfl) (Or.inl rfl) ?_
        show Rch 116 11 [some (mvR 68), some (mvI x2)] [mvI 0] (97, g, h) _
        refine rc_zret mq116 (mvDec_of cd116 rfl) (Or.inl rfl) ?_
        show Rch 224 13 [some (mvR 68), some (mvI x1), some (mvI x2)] [mvI 0] (97, g, h) _
        refine rc_ifT (t := 21) mq224 (mvDec_of cd224 rfl) rfl rfl ?_
        refine rc_bipush mq224 (mvDec_of cd224 rfl) (by decide) ?_
        exact rc_iret mq224 (mvDec_of cd224 rfl) ⟨_, _, rfl, rfl, H⟩
      · replace H := H.2 hc
        refine rc_iload_n mq38 (mvDec_of cd38 rfl) rfl ?_
        refine rc_iload_n mq38 (mvDec_of cd38 rfl) rfl ?_
        refine rc_icmp_gt (t := 14) mq38 (mvDec_of cd38 rfl) rfl (fun hc => ?_) (fun hc => ?_)
        · replace H := H.1 hc
          refine rc_iconst mq38 (mvDec_of cd38 rfl) (by decide) ?_
          refine rc_zret mq38 (mvDec_of cd38 rfl) (Or.inl rfl) ?_
          show Rch 116 11 [some (mvR 68), some (mvI x2)] [mvI 0] (97, g, h) _
          refine rc_zret mq116 (mvDec_of cd116 rfl) (Or.inl rfl) ?_
          show Rch 224 13 [some (mvR 68), some (mvI x1), some (mvI x2)] [mvI 0] (97, g, h) _
          refine rc_ifT (t := 21) mq224 (mvDec_of cd224 rfl) rfl rfl ?_
          refine rc_bipush mq224 (mvDec_of cd224 rfl) (by decide) ?_
          exact rc_iret mq224 (mvDec_of cd224 rfl) ⟨_, _, rfl, rfl, H⟩
        · replace H := H.2 hc
          refine rc_iconst mq38 (mvDec_of cd38 rfl) (by decide) ?_
          refine rc_goto (t := 15) mq38 (mvDec_of cd38 rfl) rfl ?_
          refine rc_zret mq38 (mvDec_of cd38 rfl) (Or.inr rfl) ?_
          show Rch 116 11 [some (mvR 68), some (mvI x2)] [mvI 1] (97, g, h) _
          refine rc_zret mq116 (mvDec_of cd116 rfl) (Or.inr rfl) ?_
          show Rch 224 13 [some (mvR 68), some (mvI x1), some (mvI x2)] [mvI 1] (97, g, h) _
          refine rc_ifF (t := 21) mq224 (mvDec_of cd224 rfl) rfl rfl ?_
          refine rc_iload_n mq224 (mvDec_of cd224 rfl) rfl ?_
          refine rc_iload_n mq224 (mvDec_of cd224 rfl) rfl ?_
          refine rc_icmp_ne (t := 24) mq224 (mvDec_of cd224 rfl) rfl (fun hc => ?_) (fun hc => ?_)
          · replace H := H.1 hc
            refine rc_aload_n mq224 (mvDec_of cd224 rfl) rfl ?_
            refine rc_iload_n mq224 (mvDec_of cd224 rfl) rfl ?_
            refine rc_iconst mq224 (mvDec_of cd224 rfl) (by decide) ?_
            refine rc_iload_n mq224 (mvDec_of cd224 rfl) rfl ?_
            refine rc_aload_n mq224 (mvDec_of cd224 rfl) rfl ?_
            refine rc_getR 69 mq224 (mvDec_of cd224 rfl) fl_10_7 mis68 rfl (gr_68_1 hG) (by decide) ?_
            refine rc_iload_n mq224 (mvDec_of cd224 rfl) rfl ?_
            obtain ⟨⟨hb0, hb1⟩, H⟩ := H
            refine rc_iald mq224 (mvDec_of cd224 rfl) mis69 hb0 hb1 ?_
            refine rc_callV [mvR 68, mvI x2, mvI 1, mvI x1, mvI (h 69 x2)] [] [some (mvR 68), some (mvI x2), some (mvI 1), some (mvI x1), some (mvI (h 69 x2)), none, none, none] mq224 (mvDec_of cd224 rfl) lk_10_160 mq44 (by decide) rfl rfl (Nat.le_of_ble_eq_true rfl) (Nat.le_of_ble_eq_true rfl) (by decide) rfl mis68 rfl (ri_bind H (fun r2 h1 H => ?_))
            refine rc_aload_n mq224 (mvDec_of cd224 rfl) rfl ?_
            refine rc_iload_n mq224 (mvDec_of cd224 rfl) rfl ?_
            refine rc_iconst mq224 (mvDec_of cd224 rfl) (by decide) ?_
            refine rc_iload_n mq224 (mvDec_of cd224 rfl) rfl ?_
            refine rc_aload_n mq224 (mvDec_of cd224 rfl) rfl ?_
            refine rc_getR 69 mq224 (mvDec_of cd224 rfl) fl_10_7 mis68 rfl (gr_68_1 hG) (by decide) ?_
            refine rc_iload_n mq224 (mvDec_of cd224 rfl) rfl ?_
            obtain ⟨⟨hb0, hb1⟩, H⟩ := H
            refine rc_iald mq224 (mvDec_of cd224 rfl) mis69 hb0 hb1 ?_
            refine rc_callV [mvR 68, mvI x1, mvI 2, mvI x2, mvI (h1 69 x1)] [mvI r2] [some (mvR 68), some (mvI x1), some (mvI 2), some (mvI x2), some (mvI (h1 69 x1)), none, none, none] mq224 (mvDec_of cd224 rfl) lk_10_160 mq44 (by decide) rfl rfl (Nat.le_of_ble_eq_true rfl) (Nat.le_of_ble_eq_true rfl) (by decide) rfl mis68 rfl (ri_bind H (fun r4 h3 H => ?_))
            refine rc_icmp_ne (t := 56) mq224 (mvDec_of cd224 rfl) rfl (fun hc => ?_) (fun hc => ?_)
            · replace H := H.1 hc
              refine rc_aload_n mq224 (mvDec_of cd224 rfl) rfl ?_
              refine rc_iload_n mq224 (mvDec_of cd224 rfl) rfl ?_
              refine rc_callV [mvR 68, mvI x1] [] [some (mvR 68), some (mvI x1)] mq224 (mvDec_of cd224 rfl) lk_10_176 mq117 (by decide) rfl rfl (Nat.le_of_ble_eq_true rfl) (Nat.le_of_ble_eq_true rfl) (by decide) rfl mis68 rfl (ri_bind H (fun r6 h5 H => ?_))
              refine rc_if_eq (t := 69) mq224 (mvDec_of cd224 rfl) rfl (fun hc => ?_) (fun hc => ?_)
              · replace H := H.1 hc
                refine rc_aload_n mq224 (mvDec_of cd224 rfl) rfl ?_
                refine rc_iload_n mq224 (mvDec_of cd224 rfl) rfl ?_
                refine rc_iconst mq224 (mvDec_of cd224 rfl) (by decide) ?_
                refine rc_iload_n mq224 (mvDec_of cd224 rfl) rfl ?_
                refine rc_callV [mvR 68, mvI x1, mvI 2, mvI x2] [] [some (mvR 68), some (mvI x1), some (mvI 2), some (mvI x2)] mq224 (mvDec_of cd224 rfl) lk_10_179 mq211 (by decide) rfl rfl (Nat.le_of_ble_eq_true rfl) (Nat.le_of_ble_eq_true rfl) (by decide) rfl mis68 rfl (ri_bind H (fun r8 h7 H => ?_))
                exact rc_iret mq224 (mvDec_of cd224 rfl) ⟨_, _, rfl, rfl, H⟩
              · replace H := H.2 hc
                refine rc_bipush mq224 (mvDec_of cd224 rfl) (by decide) ?_
                refine rc_goto (t := 76) mq224 (mvDec_of cd224 rfl) rfl ?_
                exact rc_iret mq224 (mvDec_of cd224 rfl) ⟨_, _, rfl, rfl, H⟩
            · replace H := H.2 hc
              refine rc_bipush mq224 (mvDec_of cd224 rfl) (by decide) ?_
              exact rc_iret mq224 (mvDec_of cd224 rfl) ⟨_, _, rfl, rfl, H⟩
          · replace H := H.2 hc
            refine rc_bipush mq224 (mvDec_of cd224 rfl) (by decide) ?_
            exact rc_iret mq224 (mvDec_of cd224 rfl) ⟨_, _, rfl, rfl, H⟩
abbrev MD_wayPart (g : Nat → Nat → Nat) (h : Nat → Int → Int) (x1 : Int) (x2 : Int) (K : Int → (Nat → Int → Int) → Prop) : Prop := RI 225 0 [some (mvR 68), some (mvI x1), some (mvI x2)] [] g h K
theorem MD_wayPart_wp {sw : Bool} {g : Nat → Nat → Nat} {h : Nat → Int → Int} {x1 : Int} {x2 : Int} {K : Int → (Nat → Int → Int) → Prop} (hG : Gok sw g)  (H :
  MD_layCuts g h (fun h1 =>
    ((¬ x2 = 3 →
      (0 ≤ x1 ∧ x1 < 640) ∧
      (0 ≤ x1 ∧ x1 < 640) ∧
      K (mw ((h1 84 x1) * (h1 85 x1))) h1) ∧
    (x2 = 3 →
      MD_nextBits g h1 x1 (fun r3 h2 =>
        K r3 h2))))) : MD_wayPart g h x1 x2 K := by
  refine rc_aload_n mq225 (mvDec_of cd225 rfl) rfl ?_
  refine rc_callV [mvR 68] [] [some (mvR 68), none, none, none] mq225 (mvDec_of cd225 rfl) lk_10_256 mq213 (by decide) rfl rfl (Nat.le_of_ble_eq_true rfl) (Nat.le_of_ble_eq_true rfl) (by decide) rfl mis68 rfl (rv_bind H (fun h1 H => ?_))
  refine rc_iload_n mq225 (mvDec_of cd225 rfl) rfl ?_
  refine rc_iconst mq225 (mvDec_of cd225 rfl) (by decide) ?_
  refine rc_icmp_ne (t := 17) mq225 (mvDec_of cd225 rfl) rfl (fun hc => ?_) (fun hc => ?_)
  · replace H := H.1 hc
    refine rc_aload_n mq225 (mvDec_of cd225 rfl) rfl ?_
    refine rc_getR 84 mq225 (mvDec_of cd225 rfl) fl_10_56 mis68 rfl (gr_68_29 hG) (by decide) ?_
    refine rc_iload_n mq225 (mvDec_of cd225 rfl) rfl ?_
    obtain ⟨⟨hb0, hb1⟩, H⟩ := H
    refine rc_iald mq225 (mvDec_of cd225 rfl) mis84 hb0 hb1 ?_
    refine rc_aload_n mq225 (mvDec_of cd225 rfl) rfl ?_
    refine rc_getR 85 mq225 (mvDec_of cd225 rfl) fl_10_59 mis68 rfl (gr_68_30 hG) (by decide) ?_
    refine rc_iload_n mq225 (mvDec_of cd225 rfl) rfl ?_
    obtain ⟨⟨hb0, hb1⟩, H⟩ := H
    refine rc_iald mq225 (mvDec_of cd225 rfl) mis85 hb0 hb1 ?_
    refine rc_imul mq225 (mvDec_of cd225 rfl) ?_
    exact rc_iret mq225 (mvDec_of cd225 rfl) ⟨_, _, rfl, rfl, H⟩
  · replace H := H.2 hc
    refine rc_aload_n mq225 (mvDec_of cd225 rfl) rfl ?_
    refine rc_iload_n mq225 (mvDec_of cd225 rfl) rfl ?_
    refine rc_callV [mvR 68, mvI x1] [] [some (mvR 68), some (mvI x1), none, none] mq225 (mvDec_of cd225 rfl) lk_10_259 mq164 (by decide) rfl rfl (Nat.le_of_ble_eq_true rfl) (Nat.le_of_ble_eq_true rfl) (by decide) rfl mis68 rfl (ri_bind H (fun r3 h2 H => ?_))
    refine rc_goto (t := 30) mq225 (mvDec_of cd225 rfl) rfl ?_
    exact rc_iret mq225 (mvDec_of cd225 rfl) ⟨_, _, rfl, rfl, H⟩
abbrev MD_latticeNow (g : Nat → Nat → Nat) (h : Nat → Int → Int) (x1 : Int) (K : Int → (Nat → Int → Int) → Prop) : Prop := RI 226 0 [some (mvR 68), some (mvI x1)] [] g h K
theorem MD_latticeNow_wp {sw : Bool} {g : Nat → Nat → Nat} {h : Nat → Int → Int} {x1 : Int} {K : Int → (Nat → Int → Int) → Prop} (hG : Gok sw g)  (H :
  MD_layCuts g h (fun h1 =>
    (((x1 < 0 ∨ 3 < x1) →
      MD_eventsAll g h1 (fun r3 h2 =>
        K r3 h2)) ∧
    (x1 = 0 →
      MD_cutsMany g h1 (fun r5 h4 =>
        K r5 h4)) ∧
    (x1 = 1 →
      MD_widest g h1 (fun r7 h6 =>
        MD_cutsOf g h6 r7 (fun r9 h8 =>
          K r9 h8))) ∧
    (x1 = 2 →
      MD_widest g h1 (fun r11 h10 =>
        K r11 h10)) ∧
    (x1 = 3 →
      K (h1 85 0) h1)))) : MD_latticeNow g h x1 K := by
  refine rc_aload_n mq226 (mvDec_of cd226 rfl) rfl ?_
  refine rc_callV [mvR 68] [] [some (mvR 68), none, none, none] mq226 (mvDec_of cd226 rfl) lk_10_256 mq213 (by decide) rfl rfl (Nat.le_of_ble_eq_true rfl) (Nat.le_of_ble_eq_true rfl) (by decide) rfl mis68 rfl (rv_bind H (fun h1 H => ?_))
  refine rc_iload_n mq226 (mvDec_of cd226 rfl) rfl ?_
  have hsw : (x1 < 0 ∨ 3 < x1) ∨ x1 = 0 ∨ x1 = 1 ∨ x1 = 2 ∨ x1 = 3 := by omega
  rcases hsw with hsw | hsw | hsw | hsw | hsw
  · replace H := H.1 hsw
    refine rc_swD (t := 62) mq226 (mvDec_of cd226 rfl) hsw rfl ?_
    refine rc_aload_n mq226 (mvDec_of cd226 rfl) rfl ?_
    refine rc_callV [mvR 68] [] [some (mvR 68), none, none] mq226 (mvDec_of cd226 rfl) lk_10_173 mq46 (by decide) rfl rfl (Nat.le_of_ble_eq_true rfl) (Nat.le_of_ble_eq_true rfl) (by decide) rfl mis68 rfl (ri_bind H (fun r3 h2 H => ?_))
    exact rc_iret mq226 (mvDec_of cd226 rfl) ⟨_, _, rfl, rfl, H⟩
  · replace H := H.2.1 hsw
    refine rc_swI (t := 36) mq226 (mvDec_of cd226 rfl) (by omega) (by rw [hsw]; rfl) rfl ?_
    refine rc_aload_n mq226 (mvDec_of cd226 rfl) rfl ?_
    refine rc_callV [mvR 68] [] [some (mvR 68), none, none] mq226 (mvDec_of cd226 rfl) lk_10_278 mq127 (by decide) rfl rfl (Nat.le_of_ble_eq_true rfl) (Nat.le_of_ble_eq_true rfl) (by decide) rfl mis68 rfl (ri_bind H (fun r5 h4 H => ?_))
    exact rc_iret mq226 (mvDec_of cd226 rfl) ⟨_, _, rfl, rfl, H⟩
  · replace H := H.2.2.1 hsw
    refine rc_swI (t := 41) mq226 (mvDec_of cd226 rfl) (by omega) (by rw [hsw]; rfl) rfl ?_
    refine rc_aload_n mq226 (mvDec_of cd226 rfl) rfl ?_
    refine rc_aload_n mq226 (mvDec_of cd226 rfl) rfl ?_
    refine rc_callV [mvR 68] [mvR 68] [some (mvR 68), none, none] mq226 (mvDec_of cd226 rfl) lk_10_281 mq169 (by decide) rfl rfl (Nat.le_of_ble_eq_true rfl) (Nat.le_of_ble_eq_true rfl) (by decide) rfl mis68 rfl (ri_bind H (fun r7 h6 H => ?_))
    refine rc_callV [mvR 68, mvI r7] [] [some (mvR 68), some (mvI r7), none, none] mq226 (mvDec_of cd226 rfl) lk_10_275 mq126 (by decide) rfl rfl (Nat.le_of_ble_eq_true rfl) (Nat.le_of_ble_eq_true rfl) (by decide) rfl mis68 rfl (ri_bind H (fun r9 h8 H => ?_))
    exact rc_iret mq226 (mvDec_of cd226 rfl) ⟨_, _, rfl, rfl, H⟩
  · replace H := H.2.2.2.1 hsw
    refine rc_swI (t := 50) mq226 (mvDec_of cd226 rfl) (by omega) (by rw [hsw]; rfl) rfl ?_
    refine rc_aload_n mq226 (mvDec_of cd226 rfl) rfl ?_
    refine rc_callV [mvR 68] [] [some (mvR 68), none, none] mq226 (mvDec_of cd226 rfl) lk_10_281 mq169 (by decide) rfl rfl (Nat.le_of_ble_eq_true rfl) (Nat.le_of_ble_eq_true rfl) (by decide) rfl mis68 rfl (ri_bind H (fun r11 h10 H => ?_))
    exact rc_iret mq226 (mvDec_of cd226 rfl) ⟨_, _, rfl, rfl, H⟩
  · replace H := H.2.2.2.2 hsw
    refine rc_swI (t := 55) mq226 (mvDec_of cd226 rfl) (by omega) (by rw [hsw]; rfl) rfl ?_
    refine rc_aload_n mq226 (mvDec_of cd226 rfl) rfl ?_
    refine rc_getR 85 mq226 (mvDec_of cd226 rfl) fl_10_59 mis68 rfl (gr_68_30 hG) (by decide) ?_
    refine rc_iconst mq226 (mvDec_of cd226 rfl) (by decide) ?_
    refine rc_iald mq226 (mvDec_of cd226 rfl) mis85 (by decide) (by decide) ?_
    exact rc_iret mq226 (mvDec_of cd226 rfl) ⟨_, _, rfl, rfl, H⟩
abbrev MD_levelAt (g : Nat → Nat → Nat) (h : Nat → Int → Int) (x1 : Int) (x2 : Int) (K : Int → (Nat → Int → Int) → Prop) : Prop := RI 227 0 [some (mvR 68), some (mvI x1), some (mvI x2), none] [] g h K
theorem MD_levelAt_wp {sw : Bool} {g : Nat → Nat → Nat} {h : Nat → Int → Int} {x1 : Int} {x2 : Int} {K : Int → (Nat → Int → Int) → Prop} (hG : Gok sw g)  (H :
  MD_layCuts g h (fun h1 =>
    MD_cutAt g h1 x1 x2 (fun r3 h2 =>
      ((¬ r3 = (-1) →
        MD_take g h2 r3 (fun h4 =>
          MD_toldNow g h4 (fun r6 h5 =>
            K r6 h5))) ∧
      (r3 = (-1) →
        K (-101) h2))))) : MD_levelAt g h x1 x2 K := by
  refine rc_aload_n mq227 (mvDec_of cd227 rfl) rfl ?_
  refine rc_callV [mvR 68] [] [some (mvR 68), none, none, none] mq227 (mvDec_of cd227 rfl) lk_10_256 mq213 (by decide) rfl rfl (Nat.le_of_ble_eq_true rfl) (Nat.le_of_ble_eq_true rfl) (by decide) rfl mis68 rfl (rv_bind H (fun h1 H => ?_))
  refine rc_aload_n mq227 (mvDec_of cd227 rfl) rfl ?_
  refine rc_iload_n mq227 (mvDec_of cd227 rfl) rfl ?_
  refine rc_iload_n mq227 (mvDec_of cd227 rfl) rfl ?_
  refine rc_callV [mvR 68, mvI x1, mvI x2] [] [some (mvR 68), some (mvI x1), some (mvI x2), none, none] mq227 (mvDec_of cd227 rfl) lk_10_287 mq128 (by decide) rfl rfl (Nat.le_of_ble_eq_true rfl) (Nat.le_of_ble_eq_true rfl) (by decide) rfl mis68 rfl (ri_bind H (fun r3 h2 H => ?_))
  refine rc_istore_n [some (mvR 68), some (mvI x1), some (mvI x2), some (mvI r3)] mq227 (mvDec_of cd227 rfl) rfl ?_
  refine rc_iload_n mq227 (mvDec_of cd227 rfl) rfl ?_
  refine rc_iconst mq227 (mvDec_of cd227 rfl) (by decide) ?_
  refine rc_icmp_ne (t := 21) mq227 (mvDec_of cd227 rfl) rfl (fun hc => ?_) (fun hc => ?_)
  · replace H := H.1 hc
    refine rc_aload_n mq227 (mvDec_of cd227 rfl) rfl ?_
    refine rc_iload_n mq227 (mvDec_of cd227 rfl) rfl ?_
    refine rc_callV [mvR 68, mvI r3] [] [some (mvR 68), some (mvI r3)] mq227 (mvDec_of cd227 rfl) lk_10_290 mq119 (by decide) rfl rfl (Nat.le_of_ble_eq_true rfl) (Nat.le_of_ble_eq_true rfl) (by decide) rfl mis68 rfl ?_
    refine rc_aload_n mq119 (mvDec_of cd119 rfl) rfl ?_
    refine rc_iload_n mq119 (mvDec_of cd119 rfl) rfl ?_
    refine rc_callV [mvR 68, mvI r3] [] [some (mvR 68), some (mvI r3), none, none] mq119 (mvDec_of cd119 rfl) lk_10_196 mq50 (by decide) rfl rfl (Nat.le_of_ble_eq_true rfl) (Nat.le_of_ble_eq_true rfl) (by decide) rfl mis68 rfl (rv_bind H (fun h4 H => ?_))
    refine rc_aload_n mq119 (mvDec_of cd119 rfl) rfl ?_
    refine rc_callV [mvR 68] [] [some (mvR 68), none, none] mq119 (mvDec_of cd119 rfl) lk_10_200 mq53 (by decide) rfl rfl (Nat.le_of_ble_eq_true rfl) (Nat.le_of_ble_eq_true rfl) (by decide) rfl mis68 rfl (ri_bind H (fun r6 h5 H => ?_))
    refine rc_iret mq119 (mvDec_of cd119 rfl) ?_
    show Rch 227 26 [some (mvR 68), some (mvI x1), some (mvI x2), some (mvI r3)] [mvI r6] (97, g, h5) _
    exact rc_iret mq227 (mvDec_of cd227 rfl) ⟨_, _, rfl, rfl, H⟩
  · replace H := H.2 hc
    refine rc_bipush mq227 (mvDec_of cd227 rfl) (by decide) ?_
    refine rc_goto (t := 26) mq227 (mvDec_of cd227 rfl) rfl ?_
    exact rc_iret mq227 (mvDec_of cd227 rfl) ⟨_, _, rfl, rfl, H⟩
abbrev MD_wishedNow (g : Nat → Nat → Nat) (h : Nat → Int → Int) (x1 : Int) (K : Int → (Nat → Int → Int) → Prop) : Prop := RI 228 0 [some (mvR 68), some (mvI x1)] [] g h K
theorem MD_wishedNow_wp {sw : Bool} {g : Nat → Nat → Nat} {h : Nat → Int → Int} {x1 : Int} {K : Int → (Nat → Int → Int) → Prop} (hG : Gok sw g)  (H :
  MD_layCuts g h (fun h1 =>
    (((x1 < 0 ∨ 2 < x1) →
      (((h1 86 0) = 0 →
        K 1 h1) ∧
      (¬ (h1 86 0) = 0 →
        K 0 h1))) ∧
    (x1 = 0 →
      MD_heldMany g h1 (fun r3 h2 =>
        ((r3 ≤ 0 →
          K 0 h2) ∧
        (0 < r3 →
          K 1 h2)))) ∧
    (x1 = 1 →
      MD_heldMany g h1 (fun r5 h4 =>
        K r5 h4)) ∧
    (x1 = 2 →
      MD_heldFirst g h1 (fun r7 h6 =>
        K r7 h6))))) : MD_wishedNow g h x1 K := by
  refine rc_aload_n mq228 (mvDec_of cd228 rfl) rfl ?_
  refine rc_callV [mvR 68] [] [some (mvR 68), none, none, none] mq228 (mvDec_of cd228 rfl) lk_10_256 mq213 (by decide) rfl rfl (Nat.le_of_ble_eq_true rfl) (Nat.le_of_ble_eq_true rfl) (by decide) rfl mis68 rfl (rv_bind H (fun h1 H => ?_))
  refine rc_iload_n mq228 (mvDec_of cd228 rfl) rfl ?_
  have hsw : (x1 < 0 ∨ 2 < x1) ∨ x1 = 0 ∨ x1 = 1 ∨ x1 = 2 := by omega
  rcases hsw with hsw | hsw | hsw | hsw
  · replace H := H.1 hsw
    refine rc_swD (t := 55) mq228 (mvDec_of cd228 rfl) hsw rfl ?_
    refine rc_aload_n mq228 (mvDec_of cd228 rfl) rfl ?_
    refine rc_getR 86 mq228 (mvDec_of cd228 rfl) fl_10_62 mis68 rfl (gr_68_31 hG) (by decide) ?_
    refine rc_iconst mq228 (mvDec_of cd228 rfl) (by decide) ?_
    refine rc_bald mq228 (mvDec_of cd228 rfl) mis86 (by decide) (by decide) ?_
    refine rc_if_eq (t := 68) mq228 (mvDec_of cd228 rfl) rfl (fun hc => ?_) (fun hc => ?_)
    · replace H := H.1 hc
      refine rc_iconst mq228 (mvDec_of cd228 rfl) (by decide) ?_
      exact rc_iret mq228 (mvDec_of cd228 rfl) ⟨_, _, rfl, rfl, H⟩
    · replace H := H.2 hc
      refine rc_iconst mq228 (mvDec_of cd228 rfl) (by decide) ?_
      refine rc_goto (t := 69) mq228 (mvDec_of cd228 rfl) rfl ?_
      exact rc_iret mq228 (mvDec_of cd228 rfl) ⟨_, _, rfl, rfl, H⟩
  · replace H := H.2.1 hsw
    refine rc_swI (t := 32) mq228 (mvDec_of cd228 rfl) (by omega) (by rw [hsw]; rfl) rfl ?_
    refine rc_aload_n mq228 (mvDec_of cd228 rfl) rfl ?_
    refine rc_callV [mvR 68] [] [some (mvR 68), none, none] mq228 (mvDec_of cd228 rfl) lk_10_296 mq130 (by decide) rfl rfl (Nat.le_of_ble_eq_true rfl) (Nat.le_of_ble_eq_true rfl) (by decide) rfl mis68 rfl (ri_bind H (fun r3 h2 H => ?_))
    refine rc_if_le (t := 43) mq228 (mvDec_of cd228 rfl) rfl (fun hc => ?_) (fun hc => ?_)
    · replace H := H.1 hc
      refine rc_iconst mq228 (mvDec_of cd228 rfl) (by decide) ?_
      exact rc_iret mq228 (mvDec_of cd228 rfl) ⟨_, _, rfl, rfl, H⟩
    · replace H := H.2 hc
      refine rc_iconst mq228 (mvDec_of cd228 rfl) (by decide) ?_
      refine rc_goto (t := 44) mq228 (mvDec_of cd228 rfl) rfl ?_
      exact rc_iret mq228 (mvDec_of cd228 rfl) ⟨_, _, rfl, rfl, H⟩
  · replace H := H.2.2.1 hsw
    refine rc_swI (t := 45) mq228 (mvDec_of cd228 rfl) (by omega) (by rw [hsw]; rfl) rfl ?_
    refine rc_aload_n mq228 (mvDec_of cd228 rfl) rfl ?_
    refine rc_callV [mvR 68] [] [some (mvR 68), none, none] mq228 (mvDec_of cd228 rfl) lk_10_296 mq130 (by decide) rfl rfl (Nat.le_of_ble_eq_true rfl) (Nat.le_of_ble_eq_true rfl) (by decide) rfl mis68 rfl (ri_bind H (fun r5 h4 H => ?_))
    exact rc_iret mq228 (mvDec_of cd228 rfl) ⟨_, _, rfl, rfl, H⟩
  · replace H := H.2.2.2 hsw
    refine rc_swI (t := 50) mq228 (mvDec_of cd228 rfl) (by omega) (by rw [hsw]; rfl) rfl ?_
    refine rc_aload_n mq228 (mvDec_of cd228 rfl) rfl ?_
    refine rc_callV [mvR 68] [] [some (mvR 68), none, none, none] mq228 (mvDec_of cd228 rfl) lk_10_299 mq171 (by decide) rfl rfl (Nat.le_of_ble_eq_true rfl) (Nat.le_of_ble_eq_true rfl) (by decide) rfl mis68 rfl (ri_bind H (fun r7 h6 H => ?_))
    exact rc_iret mq228 (mvDec_of cd228 rfl) ⟨_, _, rfl, rfl, H⟩
abbrev MD_around (g : Nat → Nat → Nat) (h : Nat → Int → Int) (x1 : Int) (K : Int → (Nat → Int → Int) → Prop) : Prop := RI 229 0 [some (mvR 68), some (mvI x1)] [] g h K
theorem MD_around_wp {sw : Bool} {g : Nat → Nat → Nat} {h : Nat → Int → Int} {x1 : Int} {K : Int → (Nat → Int → Int) → Prop} (hG : Gok sw g)  (H :
  (((h 68 0) ≤ 0 →
    K (-103) h) ∧
  (0 < (h 68 0) →
    MD_layCuts g h (fun h1 =>
      (((h1 86 0) = 0 →
        K (-101) h1) ∧
      (¬ (h1 86 0) = 0 →
        MD_eventsAll g h1 (fun r3 h2 =>
          ((x1 < 0 →
            K (-101) h2) ∧
          (0 ≤ x1 →
            (((mw (r3 - 1)) < x1 →
              K (-101) h2) ∧
            (x1 ≤ (mw (r3 - 1)) →
              MD_aroundNow g h2 x1 (fun r5 h4 =>
                K r5 h4)))))))))))) : MD_around g h x1 K := by
  refine rc_aload_n mq229 (mvDec_of cd229 rfl) rfl ?_
  refine rc_callV [mvR 68] [] [some (mvR 68)] mq229 (mvDec_of cd229 rfl) lk_10_262 mq43 (by decide) rfl rfl (Nat.le_of_ble_eq_true rfl) (Nat.le_of_ble_eq_true rfl) (by decide) rfl mis68 rfl ?_
  refine rc_aload_n mq43 (mvDec_of cd43 rfl) rfl ?_
  refine rc_getI 0 mq43 (mvDec_of cd43 rfl) fl_10_138 mis68 rfl (by decide) (by decide) ?_
  refine rc_if_le (t := 11) mq43 (mvDec_of cd43 rfl) rfl (fun hc => ?_) (fun hc => ?_)
  · replace H := H.1 hc
    refine rc_iconst mq43 (mvDec_of cd43 rfl) (by decide) ?_
    refine rc_zret mq43 (mvDec_of cd43 rfl) (Or.inl rfl) ?_
    show Rch 229 4 [some (mvR 68), some (mvI x1)] [mvI 0] (97, g, h) _
    refine rc_ifF (t := 10) mq229 (mvDec_of cd229 rfl) rfl rfl ?_
    refine rc_bipush mq229 (mvDec_of cd229 rfl) (by decide) ?_
    exact rc_iret mq229 (mvDec_of cd229 rfl) ⟨_, _, rfl, rfl, H⟩
  · replace H := H.2 hc
    refine rc_iconst mq43 (mvDec_of cd43 rfl) (by decide) ?_
    refine rc_goto (t := 12) mq43 (mvDec_of cd43 rfl) rfl ?_
    refine rc_zret mq43 (mvDec_of cd43 rfl) (Or.inr rfl) ?_
    show Rch 229 4 [some (mvR 68), some (mvI x1)] [mvI 1] (97, g, h) _
    refine rc_ifT (t := 10) mq229 (mvDec_of cd229 rfl) rfl rfl ?_
    refine rc_aload_n mq229 (mvDec_of cd229 rfl) rfl ?_
    refine rc_callV [mvR 68] [] [some (mvR 68), none, none, none] mq229 (mvDec_of cd229 rfl) lk_10_256 mq213 (by decide) rfl rfl (Nat.le_of_ble_eq_true rfl) (Nat.le_of_ble_eq_true rfl) (by decide) rfl mis68 rfl (rv_bind H (fun h1 H => ?_))
    refine rc_aload_n mq229 (mvDec_of cd229 rfl) rfl ?_
    refine rc_getR 86 mq229 (mvDec_of cd229 rfl) fl_10_62 mis68 rfl (gr_68_31 hG) (by decide) ?_
    refine rc_iconst mq229 (mvDec_of cd229 rfl) (by decide) ?_
    refine rc_bald mq229 (mvDec_of cd229 rfl) mis86 (by decide) (by decide) ?_
    refine rc_if_eq (t := 45) mq229 (mvDec_of cd229 rfl) rfl (fun hc => ?_) (fun hc => ?_)
    · replace H := H.1 hc
      refine rc_bipush mq229 (mvDec_of cd229 rfl) (by decide) ?_
      exact rc_iret mq229 (mvDec_of cd229 rfl) ⟨_, _, rfl, rfl, H⟩
    · replace H := H.2 hc
      refine rc_iload_n mq229 (mvDec_of cd229 rfl) rfl ?_
      refine rc_iconst mq229 (mvDec_of cd229 rfl) (by decide) ?_
      refine rc_aload_n mq229 (mvDec_of cd229 rfl) rfl ?_
      refine rc_callV [mvR 68] [mvI 0, mvI x1] [some (mvR 68), none, none] mq229 (mvDec_of cd229 rfl) lk_10_173 mq46 (by decide) rfl rfl (Nat.le_of_ble_eq_true rfl) (Nat.le_of_ble_eq_true rfl) (by decide) rfl mis68 rfl (ri_bind H (fun r3 h2 H => ?_))
      refine rc_iconst mq229 (mvDec_of cd229 rfl) (by decide) ?_
      refine rc_isub mq229 (mvDec_of cd229 rfl) ?_
      refine rc_callS [mvI x1, mvI 0, mvI (mw (r3 - 1))] [] [some (mvI x1), some (mvI 0), some (mvI (mw (r3 - 1)))] mq229 (mvDec_of cd229 rfl) lk_10_95 mq38 (by decide) rfl rfl (Nat.le_of_ble_eq_true rfl) (Nat.le_of_ble_eq_true rfl) (by decide) rfl ?_
      refine rc_iload_n mq38 (mvDec_of cd38 rfl) rfl ?_
      refine rc_iload_n mq38 (mvDec_of cd38 rfl) rfl ?_
      refine rc_icmp_lt (t := 14) mq38 (mvDec_of cd38 rfl) rfl (fun hc => ?_) (fun hc => ?_)
      · replace H := H.1 hc
        refine rc_iconst mq38 (mvDec_of cd38 rfl) (by decide) ?_
        refine rc_zret mq38 (mvDec_of cd38 rfl) (Or.inl rfl) ?_
        show Rch 229 34 [some (mvR 68), some (mvI x1)] [mvI 0] (97, g, h2) _
        refine rc_ifT (t := 45) mq229 (mvDec_of cd229 rfl) rfl rfl ?_
        refine rc_bipush mq229 (mvDec_of cd229 rfl) (by decide) ?_
        exact rc_iret mq229 (mvDec_of cd229 rfl) ⟨_, _, rfl, rfl, H⟩
      · replace H := H.2 hc
        refine rc_iload_n mq38 (mvDec_of cd38 rfl) rfl ?_
        refine rc_iload_n mq38 (mvDec_of cd38 rfl) rfl ?_
        refine rc_icmp_gt (t := 14) mq38 (mvDec_of cd38 rfl) rfl (fun hc => ?_) (fun hc => ?_)
        · replace H := H.1 hc
          refine rc_iconst mq38 (mvDec_of cd38 rfl) (by decide) ?_
          refine rc_zret mq38 (mvDec_of cd38 rfl) (Or.inl rfl) ?_
          show Rch 229 34 [some (mvR 68), some (mvI x1)] [mvI 0] (97, g, h2) _
          refine rc_ifT (t := 45) mq229 (mvDec_of cd229 rfl) rfl rfl ?_
          refine rc_bipush mq229 (mvDec_of cd229 rfl) (by decide) ?_
          exact rc_iret mq229 (mvDec_of cd229 rfl) ⟨_, _, rfl, rfl, H⟩
        · replace H := H.2 hc
          refine rc_iconst mq38 (mvDec_of cd38 rfl) (by decide) ?_
          refine rc_goto (t := 15) mq38 (mvDec_of cd38 rfl) rfl ?_
          refine rc_zret mq38 (mvDec_of cd38 rfl) (Or.inr rfl) ?_
          show Rch 229 34 [some (mvR 68), some (mvI x1)] [mvI 1] (97, g, h2) _
          refine rc_ifF (t := 45) mq229 (mvDec_of cd229 rfl) rfl rfl ?_
          refine rc_aload_n mq229 (mvDec_of cd229 rfl) rfl ?_
          refine rc_iload_n mq229 (mvDec_of cd229 rfl) rfl ?_
          refine rc_callV [mvR 68, mvI x1] [] [some (mvR 68), some (mvI x1), none, none, none] mq229 (mvDec_of cd229 rfl) lk_10_305 mq172 (by decide) rfl rfl (Nat.le_of_ble_eq_true rfl) (Nat.le_of_ble_eq_true rfl) (by decide) rfl mis68 rfl (ri_bind H (fun r5 h4 H => ?_))
          refine rc_goto (t := 47) mq229 (mvDec_of cd229 rfl) rfl ?_
          exact rc_iret mq229 (mvDec_of cd229 rfl) ⟨_, _, rfl, rfl, H⟩
abbrev MD_leastNow (g : Nat → Nat → Nat) (h : Nat → Int → Int)  (K : Int → (Nat → Int → Int) → Prop) : Prop := RI 230 0 [some (mvR 68), none, none] [] g h K
abbrev MD_leastNow_6 (g : Nat → Nat → Nat) (h : Nat → Int → Int) (l1 : Int) (u2 : Option Int) (K : Int → (Nat → Int → Int) → Prop) : Prop := RI 230 6 [some (mvR 68), some (mvI l1), u2.map mvI] [] g h K
abbrev MD_leastNow_27 (g : Nat → Nat → Nat) (h : Nat → Int → Int) (l1 : Int) (u2 : Option Int) (K : Int → (Nat → Int → Int) → Prop) : Prop := RI 230 27 [some (mvR 68), some (mvI l1), u2.map mvI] [] g h K
abbrev MD_leastNow_42 (g : Nat → Nat → Nat) (h : Nat → Int → Int) (l1 : Int) (l2 : Int) (K : Int → (Nat → Int → Int) → Prop) : Prop := RI 230 42 [some (mvR 68), some (mvI l1), some (mvI l2)] [] g h K
abbrev MD_leastNow_109 (g : Nat → Nat → Nat) (h : Nat → Int → Int) (l1 : Int) (u2 : Option Int) (K : Int → (Nat → Int → Int) → Prop) : Prop := RI 230 109 [some (mvR 68), some (mvI l1), u2.map mvI] [] g h K
theorem MD_leastNow_wp {sw : Bool} {g : Nat → Nat → Nat} {h : Nat → Int → Int}  {K : Int → (Nat → Int → Int) → Prop} (hG : Gok sw g)  (H :
  MD_layCuts g h (fun h1 =>
    MD_leastNow_6 g h1 0 none K)) : MD_leastNow g h  K := by
  refine rc_aload_n mq230 (mvDec_of cd230 rfl) rfl ?_
  refine rc_callV [mvR 68] [] [some (mvR 68), none, none, none] mq230 (mvDec_of cd230 rfl) lk_10_256 mq213 (by decide) rfl rfl (Nat.le_of_ble_eq_true rfl) (Nat.le_of_ble_eq_true rfl) (by decide) rfl mis68 rfl (rv_bind H (fun h1 H => ?_))
  refine rc_iconst mq230 (mvDec_of cd230 rfl) (by decide) ?_
  refine rc_istore_n [some (mvR 68), some (mvI 0), none] mq230 (mvDec_of cd230 rfl) rfl ?_
  exact H
theorem MD_leastNow_6_wp {sw : Bool} {g : Nat → Nat → Nat} {h : Nat → Int → Int} {l1 : Int} {u2 : Option Int} {K : Int → (Nat → Int → Int) → Prop} (hG : Gok sw g)  (H :
  ((4 ≤ l1 →
    MD_leastNow_27 g h 0 u2 K) ∧
  (l1 < 4 →
    (0 ≤ l1 ∧ l1 < 4) ∧
    (∀ h1, h1 = mvUpd h 88 l1 16 →
    MD_leastNow_6 g h1 (mw (l1 + 1)) u2 K)))) : MD_leastNow_6 g h l1 u2 K := by
  refine rc_iload_n mq230 (mvDec_of cd230 rfl) rfl ?_
  refine rc_iconst mq230 (mvDec_of cd230 rfl) (by decide) ?_
  refine rc_icmp_ge (t := 25) mq230 (mvDec_of cd230 rfl) rfl (fun hc => ?_) (fun hc => ?_)
  · replace H := H.1 hc
    refine rc_iconst mq230 (mvDec_of cd230 rfl) (by decide) ?_
    refine rc_istore_n [some (mvR 68), some (mvI 0), u2.map mvI] mq230 (mvDec_of cd230 rfl) rfl ?_
    exact H
  · replace H := H.2 hc
    refine rc_aload_n mq230 (mvDec_of cd230 rfl) rfl ?_
    refine rc_getR 88 mq230 (mvDec_of cd230 rfl) fl_10_68 mis68 rfl (gr_68_33 hG) (by decide) ?_
    refine rc_iload_n mq230 (mvDec_of cd230 rfl) rfl ?_
    refine rc_bipush mq230 (mvDec_of cd230 rfl) (by decide) ?_
    obtain ⟨⟨hb0, hb1⟩, H⟩ := H
    refine rc_iast mq230 (mvDec_of cd230 rfl) mis88 hb0 hb1 ?_
    refine rc_heap (fun h1 hh => ?_)
    replace H := H h1 hh
    refine rc_iinc [some (mvR 68), some (mvI (mw (l1 + 1))), u2.map mvI] mq230 (mvDec_of cd230 rfl) rfl rfl ?_
    refine rc_goto (t := 6) mq230 (mvDec_of cd230 rfl) rfl ?_
    exact H
theorem MD_leastNow_27_wp {sw : Bool} {g : Nat → Nat → Nat} {h : Nat → Int → Int} {l1 : Int} {u2 : Option Int} {K : Int → (Nat → Int → Int) → Prop} (hG : Gok sw g)  (H :
  MD_cutsAll g h (fun r2 h1 =>
    ((r2 ≤ l1 →
      MD_leastNow_109 g h1 0 u2 K) ∧
    (l1 < r2 →
      MD_take g h1 l1 (fun h3 =>
        MD_leastNow_42 g h3 l1 0 K))))) : MD_leastNow_27 g h l1 u2 K := by
  refine rc_iload_n mq230 (mvDec_of cd230 rfl) rfl ?_
  refine rc_aload_n mq230 (mvDec_of cd230 rfl) rfl ?_
  refine rc_callV [mvR 68] [mvI l1] [some (mvR 68), none, none] mq230 (mvDec_of cd230 rfl) lk_10_231 mq49 (by decide) rfl rfl (Nat.le_of_ble_eq_true rfl) (Nat.le_of_ble_eq_true rfl) (by decide) rfl mis68 rfl (ri_bind H (fun r2 h1 H => ?_))
  refine rc_icmp_ge (t := 107) mq230 (mvDec_of cd230 rfl) rfl (fun hc => ?_) (fun hc => ?_)
  · replace H := H.1 hc
    refine rc_iconst mq230 (mvDec_of cd230 rfl) (by decide) ?_
    refine rc_istore_n [some (mvR 68), some (mvI 0), u2.map mvI] mq230 (mvDec_of cd230 rfl) rfl ?_
    exact H
  · replace H := H.2 hc
    refine rc_aload_n mq230 (mvDec_of cd230 rfl) rfl ?_
    refine rc_iload_n mq230 (mvDec_of cd230 rfl) rfl ?_
    refine rc_callV [mvR 68, mvI l1] [] [some (mvR 68), some (mvI l1), none, none] mq230 (mvDec_of cd230 rfl) lk_10_196 mq50 (by decide) rfl rfl (Nat.le_of_ble_eq_true rfl) (Nat.le_of_ble_eq_true rfl) (by decide) rfl mis68 rfl (rv_bind H (fun h3 H => ?_))
    refine rc_iconst mq230 (mvDec_of cd230 rfl) (by decide) ?_
    refine rc_istore_n [some (mvR 68), some (mvI l1), some (mvI 0)] mq230 (mvDec_of cd230 rfl) rfl ?_
    exact H
theorem MD_leastNow_42_wp {sw : Bool} {g : Nat → Nat → Nat} {h : Nat → Int → Int} {l1 : Int} {l2 : Int} {K : Int → (Nat → Int → Int) → Prop} (hG : Gok sw g)  (H :
  (((h 68 0) ≤ l2 →
    MD_leastNow_27 g h (mw (l1 + 1)) (some l2) K) ∧
  (l2 < (h 68 0) →
    (0 ≤ l1 ∧ l1 < 640) ∧
    (((h 83 l1) = 0 →
      MD_leastNow_27 g h (mw (l1 + 1)) (some l2) K) ∧
    (¬ (h 83 l1) = 0 →
      (0 ≤ l2 ∧ l2 < 4) ∧
      (0 ≤ l2 ∧ l2 < 4) ∧
      (((h 88 l2) ≤ (h 81 l2) →
        (0 ≤ l2 ∧ l2 < 4) ∧
        (0 ≤ l2 ∧ l2 < 4) ∧
        (∀ h1, h1 = mvUpd h 88 l2 (h 88 l2) →
        MD_leastNow_42 g h1 l1 (mw (l2 + 1)) K)) ∧
      ((h 81 l2) < (h 88 l2) →
        (0 ≤ l2 ∧ l2 < 4) ∧
        (0 ≤ l2 ∧ l2 < 4) ∧
        (∀ h2, h2 = mvUpd h 88 l2 (h 81 l2) →
        MD_leastNow_42 g h2 l1 (mw (l2 + 1)) K)))))))) : MD_leastNow_42 g h l1 l2 K := by
  refine rc_iload_n mq230 (mvDec_of cd230 rfl) rfl ?_
  refine rc_aload_n mq230 (mvDec_of cd230 rfl) rfl ?_
  refine rc_getI 0 mq230 (mvDec_of cd230 rfl) fl_10_138 mis68 rfl (by decide) (by decide) ?_
  refine rc_icmp_ge (t := 101) mq230 (mvDec_of cd230 rfl) rfl (fun hc => ?_) (fun hc => ?_)
  · replace H := H.1 hc
    refine rc_iinc [some (mvR 68), some (mvI (mw (l1 + 1))), some (mvI l2)] mq230 (mvDec_of cd230 rfl) rfl rfl ?_
    refine rc_goto (t := 27) mq230 (mvDec_of cd230 rfl) rfl ?_
    exact H
  · replace H := H.2 hc
    refine rc_aload_n mq230 (mvDec_of cd230 rfl) rfl ?_
    refine rc_getR 83 mq230 (mvDec_of cd230 rfl) fl_10_53 mis68 rfl (gr_68_28 hG) (by decide) ?_
    refine rc_iload_n mq230 (mvDec_of cd230 rfl) rfl ?_
    obtain ⟨⟨hb0, hb1⟩, H⟩ := H
    refine rc_bald mq230 (mvDec_of cd230 rfl) mis83 hb0 hb1 ?_
    refine rc_if_eq (t := 101) mq230 (mvDec_of cd230 rfl) rfl (fun hc => ?_) (fun hc => ?_)
    · replace H := H.1 hc
      refine rc_iinc [some (mvR 68), some (mvI (mw (l1 + 1))), some (mvI l2)] mq230 (mvDec_of cd230 rfl) rfl rfl ?_
      refine rc_goto (t := 27) mq230 (mvDec_of cd230 rfl) rfl ?_
      exact H
    · replace H := H.2 hc
      refine rc_aload_n mq230 (mvDec_of cd230 rfl) rfl ?_
      refine rc_getR 88 mq230 (mvDec_of cd230 rfl) fl_10_68 mis68 rfl (gr_68_33 hG) (by decide) ?_
      refine rc_iload_n mq230 (mvDec_of cd230 rfl) rfl ?_
      refine rc_aload_n mq230 (mvDec_of cd230 rfl) rfl ?_
      refine rc_getR 81 mq230 (mvDec_of cd230 rfl) fl_10_46 mis68 rfl (gr_68_26 hG) (by decide) ?_
      refine rc_iload_n mq230 (mvDec_of cd230 rfl) rfl ?_
      obtain ⟨⟨hb0, hb1⟩, H⟩ := H
      refine rc_iald mq230 (mvDec_of cd230 rfl) mis81 hb0 hb1 ?_
      refine rc_aload_n mq230 (mvDec_of cd230 rfl) rfl ?_
      refine rc_getR 88 mq230 (mvDec_of cd230 rfl) fl_10_68 mis68 rfl (gr_68_33 hG) (by decide) ?_
      refine rc_iload_n mq230 (mvDec_of cd230 rfl) rfl ?_
      obtain ⟨⟨hb0, hb1⟩, H⟩ := H
      refine rc_iald mq230 (mvDec_of cd230 rfl) mis88 hb0 hb1 ?_
      refine rc_icmp_ge (t := 88) mq230 (mvDec_of cd230 rfl) rfl (fun hc => ?_) (fun hc => ?_)
      · replace H := H.1 hc
        refine rc_aload_n mq230 (mvDec_of cd230 rfl) rfl ?_
        refine rc_getR 88 mq230 (mvDec_of cd230 rfl) fl_10_68 mis68 rfl (gr_68_33 hG) (by decide) ?_
        refine rc_iload_n mq230 (mvDec_of cd230 rfl) rfl ?_
        obtain ⟨⟨hb0, hb1⟩, H⟩ := H
        refine rc_iald mq230 (mvDec_of cd230 rfl) mis88 hb0 hb1 ?_
        obtain ⟨⟨hb0, hb1⟩, H⟩ := H
        refine rc_iast mq230 (mvDec_of cd230 rfl) mis88 hb0 hb1 ?_
        refine rc_heap (fun h1 hh => ?_)
        replace H := H h1 hh
        refine rc_iinc [some (mvR 68), some (mvI l1), some (mvI (mw (l2 + 1)))] mq230 (mvDec_of cd230 rfl) rfl rfl ?_
        refine rc_goto (t := 42) mq230 (mvDec_of cd230 rfl) rfl ?_
        exact H
      · replace H := H.2 hc
        refine rc_aload_n mq230 (mvDec_of cd230 rfl) rfl ?_
        refine rc_getR 81 mq230 (mvDec_of cd230 rfl) fl_10_46 mis68 rfl (gr_68_26 hG) (by decide) ?_
        refine rc_iload_n mq230 (mvDec_of cd230 rfl) rfl ?_
        obtain ⟨⟨hb0, hb1⟩, H⟩ := H
        refine rc_iald mq230 (mvDec_of cd230 rfl) mis81 hb0 hb1 ?_
        refine rc_goto (t := 94) mq230 (mvDec_of cd230 rfl) rfl ?_
        obtain ⟨⟨hb0, hb1⟩, H⟩ := H
        refine rc_iast mq230 (mvDec_of cd230 rfl) mis88 hb0 hb1 ?_
        refine rc_heap (fun h2 hh => ?_)
        replace H := H h2 hh
        refine rc_iinc [some (mvR 68), some (mvI l1), some (mvI (mw (l2 + 1)))] mq230 (mvDec_of cd230 rfl) rfl rfl ?_
        refine rc_goto (t := 42) mq230 (mvDec_of cd230 rfl) rfl ?_
        exact H
theorem MD_leastNow_109_wp {sw : Bool} {g : Nat → Nat → Nat} {h : Nat → Int → Int} {l1 : Int} {u2 : Option Int} {K : Int → (Nat → Int → Int) → Prop} (hG : Gok sw g)  (H :
  ((4 ≤ l1 →
    MD_heldMany g h (fun r2 h1 =>
      ((¬ r2 = 0 →
        MD_toldNow g h1 (fun r4 h3 =>
          K r4 h3)) ∧
      (r2 = 0 →
        K (-1) h1)))) ∧
  (l1 < 4 →
    (0 ≤ l1 ∧ l1 < 4) ∧
    (0 ≤ l1 ∧ l1 < 4) ∧
    (∀ h5, h5 = mvUpd h 81 l1 (h 88 l1) →
    MD_leastNow_109 g h5 (mw (l1 + 1)) u2 K)))) : MD_leastNow_109 g h l1 u2 K := by
  refine rc_iload_n mq230 (mvDec_of cd230 rfl) rfl ?_
  refine rc_iconst mq230 (mvDec_of cd230 rfl) (by decide) ?_
  refine rc_icmp_ge (t := 132) mq230 (mvDec_of cd230 rfl) rfl (fun hc => ?_) (fun hc => ?_)
  · replace H := H.1 hc
    refine rc_aload_n mq230 (mvDec_of cd230 rfl) rfl ?_
    refine rc_callV [mvR 68] [] [some (mvR 68), none, none] mq230 (mvDec_of cd230 rfl) lk_10_296 mq130 (by decide) rfl rfl (Nat.le_of_ble_eq_true rfl) (Nat.le_of_ble_eq_true rfl) (by decide) rfl mis68 rfl (ri_bind H (fun r2 h1 H => ?_))
    refine rc_if_ne (t := 143) mq230 (mvDec_of cd230 rfl) rfl (fun hc => ?_) (fun hc => ?_)
    · replace H := H.1 hc
      refine rc_aload_n mq230 (mvDec_of cd230 rfl) rfl ?_
      refine rc_callV [mvR 68] [] [some (mvR 68), none, none] mq230 (mvDec_of cd230 rfl) lk_10_200 mq53 (by decide) rfl rfl (Nat.le_of_ble_eq_true rfl) (Nat.le_of_ble_eq_true rfl) (by decide) rfl mis68 rfl (ri_bind H (fun r4 h3 H => ?_))
      exact rc_iret mq230 (mvDec_of cd230 rfl) ⟨_, _, rfl, rfl, H⟩
    · replace H := H.2 hc
      refine rc_iconst mq230 (mvDec_of cd230 rfl) (by decide) ?_
      refine rc_goto (t := 147) mq230 (mvDec_of cd230 rfl) rfl ?_
      exact rc_iret mq230 (mvDec_of cd230 rfl) ⟨_, _, rfl, rfl, H⟩
  · replace H := H.2 hc
    refine rc_aload_n mq230 (mvDec_of cd230 rfl) rfl ?_
    refine rc_getR 81 mq230 (mvDec_of cd230 rfl) fl_10_46 mis68 rfl (gr_68_26 hG) (by decide) ?_
    refine rc_iload_n mq230 (mvDec_of cd230 rfl) rfl ?_
    refine rc_aload_n mq230 (mvDec_of cd230 rfl) rfl ?_
    refine rc_getR 88 mq230 (mvDec_of cd230 rfl) fl_10_68 mis68 rfl (gr_68_33 hG) (by decide) ?_
    refine rc_iload_n mq230 (mvDec_of cd230 rfl) rfl ?_
    obtain ⟨⟨hb0, hb1⟩, H⟩ := H
    refine rc_iald mq230 (mvDec_of cd230 rfl) mis88 hb0 hb1 ?_
    obtain ⟨⟨hb0, hb1⟩, H⟩ := H
    refine rc_iast mq230 (mvDec_of cd230 rfl) mis81 hb0 hb1 ?_
    refine rc_heap (fun h5 hh => ?_)
    replace H := H h5 hh
    refine rc_iinc [some (mvR 68), some (mvI (mw (l1 + 1))), u2.map mvI] mq230 (mvDec_of cd230 rfl) rfl rfl ?_
    refine rc_goto (t := 109) mq230 (mvDec_of cd230 rfl) rfl ?_
    exact H
abbrev MD_strong (g : Nat → Nat → Nat) (h : Nat → Int → Int)  (K : Int → (Nat → Int → Int) → Prop) : Prop := RI 231 0 [some (mvR 68)] [] g h K
theorem MD_strong_wp {sw : Bool} {g : Nat → Nat → Nat} {h : Nat → Int → Int}  {K : Int → (Nat → Int → Int) → Prop} (hG : Gok sw g)  (H :
  (((h 68 0) ≤ 0 →
    K (-103) h) ∧
  (0 < (h 68 0) →
    ((¬ (h 68 7) = 0 →
      K (-103) h) ∧
    ((h 68 7) = 0 →
      MD_strongNow g h (fun r2 h1 =>
        K r2 h1)))))) : MD_strong g h  K := by
  refine rc_aload_n mq231 (mvDec_of cd231 rfl) rfl ?_
  refine rc_callV [mvR 68] [] [some (mvR 68)] mq231 (mvDec_of cd231 rfl) lk_10_308 mq131 (by decide) rfl rfl (Nat.le_of_ble_eq_true rfl) (Nat.le_of_ble_eq_true rfl) (by decide) rfl mis68 rfl ?_
  refine rc_aload_n mq131 (mvDec_of cd131 rfl) rfl ?_
  refine rc_callV [mvR 68] [] [some (mvR 68)] mq131 (mvDec_of cd131 rfl) lk_10_262 mq43 (by decide) rfl rfl (Nat.le_of_ble_eq_true rfl) (Nat.le_of_ble_eq_true rfl) (by decide) rfl mis68 rfl ?_
  refine rc_aload_n mq43 (mvDec_of cd43 rfl) rfl ?_
  refine rc_getI 0 mq43 (mvDec_of cd43 rfl) fl_10_138 mis68 rfl (by decide) (by decide) ?_
  refine rc_if_le (t := 11) mq43 (mvDec_of cd43 rfl) rfl (fun hc => ?_) (fun hc => ?_)
  · replace H := H.1 hc
    refine rc_iconst mq43 (mvDec_of cd43 rfl) (by decide) ?_
    refine rc_zret mq43 (mvDec_of cd43 rfl) (Or.inl rfl) ?_
    show Rch 131 4 [some (mvR 68)] [mvI 0] (97, g, h) _
    refine rc_ifT (t := 18) mq131 (mvDec_of cd131 rfl) rfl rfl ?_
    refine rc_iconst mq131 (mvDec_of cd131 rfl) (by decide) ?_
    refine rc_zret mq131 (mvDec_of cd131 rfl) (Or.inl rfl) ?_
    show Rch 231 4 [some (mvR 68)] [mvI 0] (97, g, h) _
    refine rc_ifT (t := 14) mq231 (mvDec_of cd231 rfl) rfl rfl ?_
    refine rc_bipush mq231 (mvDec_of cd231 rfl) (by decide) ?_
    exact rc_iret mq231 (mvDec_of cd231 rfl) ⟨_, _, rfl, rfl, H⟩
  · replace H := H.2 hc
    refine rc_iconst mq43 (mvDec_of cd43 rfl) (by decide) ?_
    refine rc_goto (t := 12) mq43 (mvDec_of cd43 rfl) rfl ?_
    refine rc_zret mq43 (mvDec_of cd43 rfl) (Or.inr rfl) ?_
    show Rch 131 4 [some (mvR 68)] [mvI 1] (97, g, h) _
    refine rc_ifF (t := 18) mq131 (mvDec_of cd131 rfl) rfl rfl ?_
    refine rc_aload_n mq131 (mvDec_of cd131 rfl) rfl ?_
    refine rc_getI 7 mq131 (mvDec_of cd131 rfl) fl_10_213 mis68 rfl (by decide) (by decide) ?_
    refine rc_if_ne (t := 18) mq131 (mvDec_of cd131 rfl) rfl (fun hc => ?_) (fun hc => ?_)
    · replace H := H.1 hc
      refine rc_iconst mq131 (mvDec_of cd131 rfl) (by decide) ?_
      refine rc_zret mq131 (mvDec_of cd131 rfl) (Or.inl rfl) ?_
      show Rch 231 4 [some (mvR 68)] [mvI 0] (97, g, h) _
      refine rc_ifT (t := 14) mq231 (mvDec_of cd231 rfl) rfl rfl ?_
      refine rc_bipush mq231 (mvDec_of cd231 rfl) (by decide) ?_
      exact rc_iret mq231 (mvDec_of cd231 rfl) ⟨_, _, rfl, rfl, H⟩
    · replace H := H.2 hc
      refine rc_iconst mq131 (mvDec_of cd131 rfl) (by decide) ?_
      refine rc_goto (t := 19) mq131 (mvDec_of cd131 rfl) rfl ?_
      refine rc_zret mq131 (mvDec_of cd131 rfl) (Or.inr rfl) ?_
      show Rch 231 4 [some (mvR 68)] [mvI 1] (97, g, h) _
      refine rc_ifF (t := 14) mq231 (mvDec_of cd231 rfl) rfl rfl ?_
      refine rc_aload_n mq231 (mvDec_of cd231 rfl) rfl ?_
      refine rc_callV [mvR 68] [] [some (mvR 68), none, none, none, none, none] mq231 (mvDec_of cd231 rfl) lk_10_326 mq214 (by decide) rfl rfl (Nat.le_of_ble_eq_true rfl) (Nat.le_of_ble_eq_true rfl) (by decide) rfl mis68 rfl (ri_bind H (fun r2 h1 H => ?_))
      refine rc_goto (t := 16) mq231 (mvDec_of cd231 rfl) rfl ?_
      exact rc_iret mq231 (mvDec_of cd231 rfl) ⟨_, _, rfl, rfl, H⟩
abbrev MD_leanNow (g : Nat → Nat → Nat) (h : Nat → Int → Int) (x1 : Int) (K : Int → (Nat → Int → Int) → Prop) : Prop := RI 232 0 [some (mvR 68), some (mvI x1), none] [] g h K
theorem MD_leanNow_wp {sw : Bool} {g : Nat → Nat → Nat} {h : Nat → Int → Int} {x1 : Int} {K : Int → (Nat → Int → Int) → Prop} (hG : Gok sw g)  (H :
  MD_keep g h (fun h1 =>
    MD_makeLean g h1 (fun h2 =>
      MD_layCuts g h2 (fun h3 =>
        ((¬ x1 = 0 →
          ((¬ x1 = 1 →
            ((¬ x1 = 2 →
              (((h3 86 0) = 0 →
                MD_giveBack g h3 (fun h4 =>
                  K 1 h4)) ∧
              (¬ (h3 86 0) = 0 →
                MD_giveBack g h3 (fun h5 =>
                  K 0 h5)))) ∧
            (x1 = 2 →
              MD_heldMany g h3 (fun r7 h6 =>
                ((r7 ≤ 0 →
                  MD_giveBack g h6 (fun h8 =>
                    K 0 h8)) ∧
                (0 < r7 →
                  MD_giveBack g h6 (fun h9 =>
                    K 1 h9))))))) ∧
          (x1 = 1 →
            MD_cutsMany g h3 (fun r11 h10 =>
              MD_giveBack g h10 (fun h12 =>
                K r11 h12))))) ∧
        (x1 = 0 →
          MD_eventsAll g h3 (fun r14 h13 =>
            MD_giveBack g h13 (fun h15 =>
              K r14 h15)))))))) : MD_leanNow g h x1 K := by
  refine rc_aload_n mq232 (mvDec_of cd232 rfl) rfl ?_
  refine rc_callV [mvR 68] [] [some (mvR 68), none] mq232 (mvDec_of cd232 rfl) lk_10_329 mq59 (by decide) rfl rfl (Nat.le_of_ble_eq_true rfl) (Nat.le_of_ble_eq_true rfl) (by decide) rfl mis68 rfl (rv_bind H (fun h1 H => ?_))
  refine rc_aload_n mq232 (mvDec_of cd232 rfl) rfl ?_
  refine rc_callV [mvR 68] [] [some (mvR 68), none, none, none, none] mq232 (mvDec_of cd232 rfl) lk_10_332 mq196 (by decide) rfl rfl (Nat.le_of_ble_eq_true rfl) (Nat.le_of_ble_eq_true rfl) (by decide) rfl mis68 rfl (rv_bind H (fun h2 H => ?_))
  refine rc_aload_n mq232 (mvDec_of cd232 rfl) rfl ?_
  refine rc_callV [mvR 68] [] [some (mvR 68), none, none, none] mq232 (mvDec_of cd232 rfl) lk_10_256 mq213 (by decide) rfl rfl (Nat.le_of_ble_eq_true rfl) (Nat.le_of_ble_eq_true rfl) (by decide) rfl mis68 rfl (rv_bind H (fun h3 H => ?_))
  refine rc_iload_n mq232 (mvDec_of cd232 rfl) rfl ?_
  refine rc_if_ne (t := 23) mq232 (mvDec_of cd232 rfl) rfl (fun hc => ?_) (fun hc => ?_)
  · replace H := H.1 hc
    refine rc_iload_n mq232 (mvDec_of cd232 rfl) rfl ?_
    refine rc_iconst mq232 (mvDec_of cd232 rfl) (by decide) ?_
    refine rc_icmp_ne (t := 35) mq232 (mvDec_of cd232 rfl) rfl (fun hc => ?_) (fun hc => ?_)
    · replace H := H.1 hc
      refine rc_iload_n mq232 (mvDec_of cd232 rfl) rfl ?_
      refine rc_iconst mq232 (mvDec_of cd232 rfl) (by decide) ?_
      refine rc_icmp_ne (t := 55) mq232 (mvDec_of cd232 rfl) rfl (fun hc => ?_) (fun hc => ?_)
      · replace H := H.1 hc
        refine rc_aload_n mq232 (mvDec_of cd232 rfl) rfl ?_
        refine rc_getR 86 mq232 (mvDec_of cd232 rfl) fl_10_62 mis68 rfl (gr_68_31 hG) (by decide) ?_
        refine rc_iconst mq232 (mvDec_of cd232 rfl) (by decide) ?_
        refine rc_bald mq232 (mvDec_of cd232 rfl) mis86 (by decide) (by decide) ?_
        refine rc_if_eq (t := 68) mq232 (mvDec_of cd232 rfl) rfl (fun hc => ?_) (fun hc => ?_)
        · replace H := H.1 hc
          refine rc_iconst mq232 (mvDec_of cd232 rfl) (by decide) ?_
          refine rc_istore_n [some (mvR 68), some (mvI x1), some (mvI 1)] mq232 (mvDec_of cd232 rfl) rfl ?_
          refine rc_aload_n mq232 (mvDec_of cd232 rfl) rfl ?_
          refine rc_callV [mvR 68] [] [some (mvR 68), none] mq232 (mvDec_of cd232 rfl) lk_10_335 mq195 (by decide) rfl rfl (Nat.le_of_ble_eq_true rfl) (Nat.le_of_ble_eq_true rfl) (by decide) rfl mis68 rfl (rv_bind H (fun h4 H => ?_))
          refine rc_iload_n mq232 (mvDec_of cd232 rfl) rfl ?_
          exact rc_iret mq232 (mvDec_of cd232 rfl) ⟨_, _, rfl, rfl, H⟩
        · replace H := H.2 hc
          refine rc_iconst mq232 (mvDec_of cd232 rfl) (by decide) ?_
          refine rc_goto (t := 69) mq232 (mvDec_of cd232 rfl) rfl ?_
          refine rc_istore_n [some (mvR 68), some (mvI x1), some (mvI 0)] mq232 (mvDec_of cd232 rfl) rfl ?_
          refine rc_aload_n mq232 (mvDec_of cd232 rfl) rfl ?_
          refine rc_callV [mvR 68] [] [some (mvR 68), none] mq232 (mvDec_of cd232 rfl) lk_10_335 mq195 (by decide) rfl rfl (Nat.le_of_ble_eq_true rfl) (Nat.le_of_ble_eq_true rfl) (by decide) rfl mis68 rfl (rv_bind H (fun h5 H => ?_))
          refine rc_iload_n mq232 (mvDec_of cd232 rfl) rfl ?_
          exact rc_iret mq232 (mvDec_of cd232 rfl) ⟨_, _, rfl, rfl, H⟩
      · replace H := H.2 hc
        refine rc_aload_n mq232 (mvDec_of cd232 rfl) rfl ?_
        refine rc_callV [mvR 68] [] [some (mvR 68), none, none] mq232 (mvDec_of cd232 rfl) lk_10_296 mq130 (by decide) rfl rfl (Nat.le_of_ble_eq_true rfl) (Nat.le_of_ble_eq_true rfl) (by decide) rfl mis68 rfl (ri_bind H (fun r7 h6 H => ?_))
        refine rc_if_le (t := 51) mq232 (mvDec_of cd232 rfl) rfl (fun hc => ?_) (fun hc => ?_)
        · replace H := H.1 hc
          refine rc_iconst mq232 (mvDec_of cd232 rfl) (by decide) ?_
          refine rc_goto (t := 69) mq232 (mvDec_of cd232 rfl) rfl ?_
          refine rc_istore_n [some (mvR 68), some (mvI x1), some (mvI 0)] mq232 (mvDec_of cd232 rfl) rfl ?_
          refine rc_aload_n mq232 (mvDec_of cd232 rfl) rfl ?_
          refine rc_callV [mvR 68] [] [some (mvR 68), none] mq232 (mvDec_of cd232 rfl) lk_10_335 mq195 (by decide) rfl rfl (Nat.le_of_ble_eq_true rfl) (Nat.le_of_ble_eq_true rfl) (by decide) rfl mis68 rfl (rv_bind H (fun h8 H => ?_))
          refine rc_iload_n mq232 (mvDec_of cd232 rfl) rfl ?_
          exact rc_iret mq232 (mvDec_of cd232 rfl) ⟨_, _, rfl, rfl, H⟩
        · replace H := H.2 hc
          refine rc_iconst mq232 (mvDec_of cd232 rfl) (by decide) ?_
          refine rc_goto (t := 69) mq232 (mvDec_of cd232 rfl) rfl ?_
          refine rc_istore_n [some (mvR 68), some (mvI x1), some (mvI 1)] mq232 (mvDec_of cd232 rfl) rfl ?_
          refine rc_aload_n mq232 (mvDec_of cd232 rfl) rfl ?_
          refine rc_callV [mvR 68] [] [some (mvR 68), none] mq232 (mvDec_of cd232 rfl) lk_10_335 mq195 (by decide) rfl rfl (Nat.le_of_ble_eq_true rfl) (Nat.le_of_ble_eq_true rfl) (by decide) rfl mis68 rfl (rv_bind H (fun h9 H => ?_))
          refine rc_iload_n mq232 (mvDec_of cd232 rfl) rfl ?_
          exact rc_iret mq232 (mvDec_of cd232 rfl) ⟨_, _, rfl, rfl, H⟩
    · replace H := H.2 hc
      refine rc_aload_n mq232 (mvDec_of cd232 rfl) rfl ?_
      refine rc_callV [mvR 68] [] [some (mvR 68), none, none] mq232 (mvDec_of cd232 rfl) lk_10_278 mq127 (by decide) rfl rfl (Nat.le_of_ble_eq_true rfl) (Nat.le_of_ble_eq_true rfl) (by decide) rfl mis68 rfl (ri_bind H (fun r11 h10 H => ?_))
      refine rc_goto (t := 69) mq232 (mvDec_of cd232 rfl) rfl ?_
      refine rc_istore_n [some (mvR 68), some (mvI x1), some (mvI r11)] mq232 (mvDec_of cd232 rfl) rfl ?_
      refine rc_aload_n mq232 (mvDec_of cd232 rfl) rfl ?_
      refine rc_callV [mvR 68] [] [some (mvR 68), none] mq232 (mvDec_of cd232 rfl) lk_10_335 mq195 (by decide) rfl rfl (Nat.le_of_ble_eq_true rfl) (Nat.le_of_ble_eq_true rfl) (by decide) rfl mis68 rfl (rv_bind H (fun h12 H => ?_))
      refine rc_iload_n mq232 (mvDec_of cd232 rfl) rfl ?_
      exact rc_iret mq232 (mvDec_of cd232 rfl) ⟨_, _, rfl, rfl, H⟩
  · replace H := H.2 hc
    refine rc_aload_n mq232 (mvDec_of cd232 rfl) rfl ?_
    refine rc_callV [mvR 68] [] [some (mvR 68), none, none] mq232 (mvDec_of cd232 rfl) lk_10_173 mq46 (by decide) rfl rfl (Nat.le_of_ble_eq_true rfl) (Nat.le_of_ble_eq_true rfl) (by decide) rfl mis68 rfl (ri_bind H (fun r14 h13 H => ?_))
    refine rc_goto (t := 69) mq232 (mvDec_of cd232 rfl) rfl ?_
    refine rc_istore_n [some (mvR 68), some (mvI x1), some (mvI r14)] mq232 (mvDec_of cd232 rfl) rfl ?_
    refine rc_aload_n mq232 (mvDec_of cd232 rfl) rfl ?_
    refine rc_callV [mvR 68] [] [some (mvR 68), none] mq232 (mvDec_of cd232 rfl) lk_10_335 mq195 (by decide) rfl rfl (Nat.le_of_ble_eq_true rfl) (Nat.le_of_ble_eq_true rfl) (by decide) rfl mis68 rfl (rv_bind H (fun h15 H => ?_))
    refine rc_iload_n mq232 (mvDec_of cd232 rfl) rfl ?_
    exact rc_iret mq232 (mvDec_of cd232 rfl) ⟨_, _, rfl, rfl, H⟩
abbrev MD_shot (g : Nat → Nat → Nat) (h : Nat → Int → Int) (x1 : Int) (x2 : Int) (K : Int → (Nat → Int → Int) → Prop) : Prop := RI 233 0 [some (mvR 68), some (mvI x1), some (mvI x2)] [] g h K
theorem MD_shot_wp {sw : Bool} {g : Nat → Nat → Nat} {h : Nat → Int → Int} {x1 : Int} {x2 : Int} {K : Int → (Nat → Int → Int) → Prop} (hG : Gok sw g)  (H :
  ((¬ (h 68 10) = 0 →
    ((x1 < 0 →
      K (-101) h) ∧
    (0 ≤ x1 →
      (((mw ((h 68 0) - 1)) < x1 →
        K (-101) h) ∧
      (x1 ≤ (mw ((h 68 0) - 1)) →
        MD_eventsAll g h (fun r2 h1 =>
          ((x2 < 0 →
            K (-102) h1) ∧
          (0 ≤ x2 →
            ((r2 < x2 →
              K (-102) h1) ∧
            (x2 ≤ r2 →
              MD_shotNow g h1 x1 x2 (fun r4 h3 =>
                (∀ h5, h5 = mvUpd h3 68 13 r4 →
                (∀ h6, h6 = mvUpd h5 68 12 1 →
                (∀ h7, h7 = mvUpd h6 68 16 (mw ((h6 68 16) + 1)) →
                K (h7 68 13) h7)))))))))))))) ∧
  ((h 68 10) = 0 →
    K (-103) h))) : MD_shot g h x1 x2 K := by
  refine rc_aload_n mq233 (mvDec_of cd233 rfl) rfl ?_
  refine rc_getI 10 mq233 (mvDec_of cd233 rfl) fl_10_147 mis68 rfl (by decide) (by decide) ?_
  refine rc_if_ne (t := 10) mq233 (mvDec_of cd233 rfl) rfl (fun hc => ?_) (fun hc => ?_)
  · replace H := H.1 hc
    refine rc_aload_n mq233 (mvDec_of cd233 rfl) rfl ?_
    refine rc_iload_n mq233 (mvDec_of cd233 rfl) rfl ?_
    refine rc_callV [mvR 68, mvI x1] [] [some (mvR 68), some (mvI x1)] mq233 (mvDec_of cd233 rfl) lk_10_170 mq116 (by decide) rfl rfl (Nat.le_of_ble_eq_true rfl) (Nat.le_of_ble_eq_true rfl) (by decide) rfl mis68 rfl ?_
    refine rc_iload_n mq116 (mvDec_of cd116 rfl) rfl ?_
    refine rc_iconst mq116 (mvDec_of cd116 rfl) (by decide) ?_
    refine rc_aload_n mq116 (mvDec_of cd116 rfl) rfl ?_
    refine rc_getI 0 mq116 (mvDec_of cd116 rfl) fl_10_138 mis68 rfl (by decide) (by decide) ?_
    refine rc_iconst mq116 (mvDec_of cd116 rfl) (by decide) ?_
    refine rc_isub mq116 (mvDec_of cd116 rfl) ?_
    refine rc_callS [mvI x1, mvI 0, mvI (mw ((h 68 0) - 1))] [] [some (mvI x1), some (mvI 0), some (mvI (mw ((h 68 0) - 1)))] mq116 (mvDec_of cd116 rfl) lk_10_95 mq38 (by decide) rfl rfl (Nat.le_of_ble_eq_true rfl) (Nat.le_of_ble_eq_true rfl) (by decide) rfl ?_
    refine rc_iload_n mq38 (mvDec_of cd38 rfl) rfl ?_
    refine rc_iload_n mq38 (mvDec_of cd38 rfl) rfl ?_
    refine rc_icmp_lt (t := 14) mq38 (mvDec_of cd38 rfl) rfl (fun hc => ?_) (fun hc => ?_)
    · replace H := H.1 hc
      refine rc_iconst mq38 (mvDec_of cd38 rfl) (by decide) ?_
      refine rc_zret mq38 (mvDec_of cd38 rfl) (Or.inl rfl) ?_
      show Rch 116 11 [some (mvR 68), some (mvI x1)] [mvI 0] (97, g, h) _
      refine rc_zret mq116 (mvDec_of cd116 rfl) (Or.inl rfl) ?_
      show Rch 233 15 [some (mvR 68), some (mvI x1), some (mvI x2)] [mvI 0] (97, g, h) _
      refine rc_ifF (t := 21) mq233 (mvDec_of cd233 rfl) rfl rfl ?_
      refine rc_bipush mq233 (mvDec_of cd233 rfl) (by decide) ?_
      exact rc_iret mq233 (mvDec_of cd233 rfl) ⟨_, _, rfl, rfl, H⟩
    · replace H := H.2 hc
      refine rc_iload_n mq38 (mvDec_of cd38 rfl) rfl ?_
      refine rc_iload_n mq38 (mvDec_of cd38 rfl) rfl ?_
      refine rc_icmp_gt (t := 14) mq38 (mvDec_of cd38 rfl) rfl (fun hc => ?_) (fun hc => ?_)
      · replace H := H.1 hc
        refine rc_iconst mq38 (mvDec_of cd38 rfl) (by decide) ?_
        refine rc_zret mq38 (mvDec_of cd38 rfl) (Or.inl rfl) ?_
        show Rch 116 11 [some (mvR 68), some (mvI x1)] [mvI 0] (97, g, h) _
        refine rc_zret mq116 (mvDec_of cd116 rfl) (Or.inl rfl) ?_
        show Rch 233 15 [some (mvR 68), some (mvI x1), some (mvI x2)] [mvI 0] (97, g, h) _
        refine rc_ifF (t := 21) mq233 (mvDec_of cd233 rfl) rfl rfl ?_
        refine rc_bipush mq233 (mvDec_of cd233 rfl) (by decide) ?_
        exact rc_iret mq233 (mvDec_of cd233 rfl) ⟨_, _, rfl, rfl, H⟩
      · replace H := H.2 hc
        refine rc_iconst mq38 (mvDec_of cd38 rfl) (by decide) ?_
        refine rc_goto (t := 15) mq38 (mvDec_of cd38 rfl) rfl ?_
        refine rc_zret mq38 (mvDec_of cd38 rfl) (Or.inr rfl) ?_
        show Rch 116 11 [some (mvR 68), some (mvI x1)] [mvI 1] (97, g, h) _
        refine rc_zret mq116 (mvDec_of cd116 rfl) (Or.inr rfl) ?_
        show Rch 233 15 [some (mvR 68), some (mvI x1), some (mvI x2)] [mvI 1] (97, g, h) _
        refine rc_ifT (t := 21) mq233 (mvDec_of cd233 rfl) rfl rfl ?_
        refine rc_iload_n mq233 (mvDec_of cd233 rfl) rfl ?_
        refine rc_iconst mq233 (mvDec_of cd233 rfl) (by decide) ?_
        refine rc_aload_n mq233 (mvDec_of cd233 rfl) rfl ?_
        refine rc_callV [mvR 68] [mvI 0, mvI x2] [some (mvR 68), none, none] mq233 (mvDec_of cd233 rfl) lk_10_173 mq46 (by decide) rfl rfl (Nat.le_of_ble_eq_true rfl) (Nat.le_of_ble_eq_true rfl) (by decide) rfl mis68 rfl (ri_bind H (fun r2 h1 H => ?_))
        refine rc_callS [mvI x2, mvI 0, mvI r2] [] [some (mvI x2), some (mvI 0), some (mvI r2)] mq233 (mvDec_of cd233 rfl) lk_10_95 mq38 (by decide) rfl rfl (Nat.le_of_ble_eq_true rfl) (Nat.le_of_ble_eq_true rfl) (by decide) rfl ?_
        refine rc_iload_n mq38 (mvDec_of cd38 rfl) rfl ?_
        refine rc_iload_n mq38 (mvDec_of cd38 rfl) rfl ?_
        refine rc_icmp_lt (t := 14) mq38 (mvDec_of cd38 rfl) rfl (fun hc => ?_) (fun hc => ?_)
        · replace H := H.1 hc
          refine rc_iconst mq38 (mvDec_of cd38 rfl) (by decide) ?_
          refine rc_zret mq38 (mvDec_of cd38 rfl) (Or.inl rfl) ?_
          show Rch 233 30 [some (mvR 68), some (mvI x1), some (mvI x2)] [mvI 0] (97, g, h1) _
          refine rc_ifF (t := 36) mq233 (mvDec_of cd233 rfl) rfl rfl ?_
          refine rc_bipush mq233 (mvDec_of cd233 rfl) (by decide) ?_
          exact rc_iret mq233 (mvDec_of cd233 rfl) ⟨_, _, rfl, rfl, H⟩
        · replace H := H.2 hc
          refine rc_iload_n mq38 (mvDec_of cd38 rfl) rfl ?_
          refine rc_iload_n mq38 (mvDec_of cd38 rfl) rfl ?_
          refine rc_icmp_gt (t := 14) mq38 (mvDec_of cd38 rfl) rfl (fun hc => ?_) (fun hc => ?_)
          · replace H := H.1 hc
            refine rc_iconst mq38 (mvDec_of cd38 rfl) (by decide) ?_
            refine rc_zret mq38 (mvDec_of cd38 rfl) (Or.inl rfl) ?_
            show Rch 233 30 [some (mvR 68), some (mvI x1), some (mvI x2)] [mvI 0] (97, g, h1) _
            refine rc_ifF (t := 36) mq233 (mvDec_of cd233 rfl) rfl rfl ?_
            refine rc_bipush mq233 (mvDec_of cd233 rfl) (by decide) ?_
            exact rc_iret mq233 (mvDec_of cd233 rfl) ⟨_, _, rfl, rfl, H⟩
          · replace H := H.2 hc
            refine rc_iconst mq38 (mvDec_of cd38 rfl) (by decide) ?_
            refine rc_goto (t := 15) mq38 (mvDec_of cd38 rfl) rfl ?_
            refine rc_zret mq38 (mvDec_of cd38 rfl) (Or.inr rfl) ?_
            show Rch 233 30 [some (mvR 68), some (mvI x1), some (mvI x2)] [mvI 1] (97, g, h1) _
            refine rc_ifT (t := 36) mq233 (mvDec_of cd233 rfl) rfl rfl ?_
            refine rc_aload_n mq233 (mvDec_of cd233 rfl) rfl ?_
            refine rc_aload_n mq233 (mvDec_of cd233 rfl) rfl ?_
            refine rc_iload_n mq233 (mvDec_of cd233 rfl) rfl ?_
            refine rc_iload_n mq233 (mvDec_of cd233 rfl) rfl ?_
            refine rc_callV [mvR 68, mvI x1, mvI x2] [mvR 68] [some (mvR 68), some (mvI x1), some (mvI x2), none, none] mq233 (mvDec_of cd233 rfl) lk_10_384 mq215 (by decide) rfl rfl (Nat.le_of_ble_eq_true rfl) (Nat.le_of_ble_eq_true rfl) (by decide) rfl mis68 rfl (ri_bind H (fun r4 h3 H => ?_))
            refine rc_putI 13 mq233 (mvDec_of cd233 rfl) fl_10_387 mis68 rfl (fun z => absurd z (by decide)) (Or.inl rfl) ?_
            refine rc_heap (fun h5 hh => ?_)
            replace H := H h5 hh
            refine rc_aload_n mq233 (mvDec_of cd233 rfl) rfl ?_
            refine rc_iconst mq233 (mvDec_of cd233 rfl) (by decide) ?_
            refine rc_putI 12 mq233 (mvDec_of cd233 rfl) fl_10_151 mis68 rfl (fun z => absurd z (by decide)) (Or.inr ⟨rfl, Or.inr rfl⟩) ?_
            refine rc_heap (fun h6 hh => ?_)
            replace H := H h6 hh
            refine rc_aload_n mq233 (mvDec_of cd233 rfl) rfl ?_
            refine rc_dup mq233 (mvDec_of cd233 rfl) rfl ?_
            refine rc_getI 16 mq233 (mvDec_of cd233 rfl) fl_10_390 mis68 rfl (by decide) (by decide) ?_
            refine rc_iconst mq233 (mvDec_of cd233 rfl) (by decide) ?_
            refine rc_iadd mq233 (mvDec_of cd233 rfl) ?_
            refine rc_putI 16 mq233 (mvDec_of cd233 rfl) fl_10_390 mis68 rfl (fun z => absurd z (by decide)) (Or.inl rfl) ?_
            refine rc_heap (fun h7 hh => ?_)
            replace H := H h7 hh
            refine rc_aload_n mq233 (mvDec_of cd233 rfl) rfl ?_
            refine rc_getI 13 mq233 (mvDec_of cd233 rfl) fl_10_387 mis68 rfl (by decide) (by decide) ?_
            exact rc_iret mq233 (mvDec_of cd233 rfl) ⟨_, _, rfl, rfl, H⟩
  · replace H := H.2 hc
    refine rc_bipush mq233 (mvDec_of cd233 rfl) (by decide) ?_
    exact rc_iret mq233 (mvDec_of cd233 rfl) ⟨_, _, rfl, rfl, H⟩
abbrev MD_cutNow (g : Nat → Nat → Nat) (h : Nat → Int → Int) (x1 : Int) (K : Int → (Nat → Int → Int) → Prop) : Prop := RI 243 0 [some (mvR 68), some (mvI x1), none] [] g h K
theorem MD_cutNow_wp {sw : Bool} {g : Nat → Nat → Nat} {h : Nat → Int → Int} {x1 : Int} {K : Int → (Nat → Int → Int) → Prop} (hG : Gok sw g)  (H :
  MD_indexNow g h (fun r2 h1 =>
    (((x1 < 0 ∨ 4 < x1) →
      MD_wayPart g h1 r2 x1 (fun r4 h3 =>
        K r4 h3)) ∧
    (x1 = 0 →
      MD_isConsistent g h1 (fun r6 h5 =>
        ((r6 = 0 →
          K 0 h5) ∧
        (¬ r6 = 0 →
          K 1 h5)))) ∧
    (x1 = 1 →
      MD_levelNow g h1 (fun r8 h7 =>
        K r8 h7)) ∧
    (x1 = 2 →
      MD_holds g h1 (fun r10 h9 =>
        ((r10 = 0 →
          K 0 h9) ∧
        (¬ r10 = 0 →
          K 1 h9)))) ∧
    (x1 = 3 →
      MD_wayPart g h1 r2 x1 (fun r12 h11 =>
        K r12 h11)) ∧
    (x1 = 4 →
      MD_underAll g h1 (fun r14 h13 =>
        K r14 h13))))) : MD_cutNow g h x1 K := by
  refine rc_aload_n mq243 (mvDec_of cd243 rfl) rfl ?_
  refine rc_callV [mvR 68] [] [some (mvR 68), none, none] mq243 (mvDec_of cd243 rfl) lk_10_250 mq52 (by decide) rfl rfl (Nat.le_of_ble_eq_true rfl) (Nat.le_of_ble_eq_true rfl) (by decide) rfl mis68 rfl (ri_bind H (fun r2 h1 H => ?_))
  refine rc_istore_n [some (mvR 68), some (mvI x1), some (mvI r2)] mq243 (mvDec_of cd243 rfl) rfl ?_
  refine rc_iload_n mq243 (mvDec_of cd243 rfl) rfl ?_
  have hsw : (x1 < 0 ∨ 4 < x1) ∨ x1 = 0 ∨ x1 = 1 ∨ x1 = 2 ∨ x1 = 3 ∨ x1 = 4 := by omega
  rcases hsw with hsw | hsw | hsw | hsw | hsw | hsw
  · replace H := H.1 hsw
    refine rc_swD (t := 76) mq243 (mvDec_of cd243 rfl) hsw rfl ?_
    refine rc_aload_n mq243 (mvDec_of cd243 rfl) rfl ?_
    refine rc_iload_n mq243 (mvDec_of cd243 rfl) rfl ?_
    refine rc_iload_n mq243 (mvDec_of cd243 rfl) rfl ?_
    refine rc_callV [mvR 68, mvI r2, mvI x1] [] [some (mvR 68), some (mvI r2), some (mvI x1)] mq243 (mvDec_of cd243 rfl) lk_10_253 mq225 (by decide) rfl rfl (Nat.le_of_ble_eq_true rfl) (Nat.le_of_ble_eq_true rfl) (by decide) rfl mis68 rfl (ri_bind H (fun r4 h3 H => ?_))
    exact rc_iret mq243 (mvDec_of cd243 rfl) ⟨_, _, rfl, rfl, H⟩
  · replace H := H.2.1 hsw
    refine rc_swI (t := 40) mq243 (mvDec_of cd243 rfl) (by omega) (by rw [hsw]; rfl) rfl ?_
    refine rc_aload_n mq243 (mvDec_of cd243 rfl) rfl ?_
    refine rc_callV [mvR 68] [] [some (mvR 68), none, none, none] mq243 (mvDec_of cd243 rfl) lk_10_234 mq55 (by decide) rfl rfl (Nat.le_of_ble_eq_true rfl) (Nat.le_of_ble_eq_true rfl) (by decide) rfl mis68 rfl (ri_bind H (fun r6 h5 H => ?_))
    refine rc_if_eq (t := 51) mq243 (mvDec_of cd243 rfl) rfl (fun hc => ?_) (fun hc => ?_)
    · replace H := H.1 hc
      refine rc_iconst mq243 (mvDec_of cd243 rfl) (by decide) ?_
      exact rc_iret mq243 (mvDec_of cd243 rfl) ⟨_, _, rfl, rfl, H⟩
    · replace H := H.2 hc
      refine rc_iconst mq243 (mvDec_of cd243 rfl) (by decide) ?_
      refine rc_goto (t := 52) mq243 (mvDec_of cd243 rfl) rfl ?_
      exact rc_iret mq243 (mvDec_of cd243 rfl) ⟨_, _, rfl, rfl, H⟩
  · replace H := H.2.2.1 hsw
    refine rc_swI (t := 53) mq243 (mvDec_of cd243 rfl) (by omega) (by rw [hsw]; rfl) rfl ?_
    refine rc_aload_n mq243 (mvDec_of cd243 rfl) rfl ?_
    refine rc_callV [mvR 68] [] [some (mvR 68), none, none] mq243 (mvDec_of cd243 rfl) lk_10_240 mq56 (by decide) rfl rfl (Nat.le_of_ble_eq_true rfl) (Nat.le_of_ble_eq_true rfl) (by decide) rfl mis68 rfl (ri_bind H (fun r8 h7 H => ?_))
    exact rc_iret mq243 (mvDec_of cd243 rfl) ⟨_, _, rfl, rfl, H⟩
  · replace H := H.2.2.2.1 hsw
    refine rc_swI (t := 58) mq243 (mvDec_of cd243 rfl) (by omega) (by rw [hsw]; rfl) rfl ?_
    refine rc_aload_n mq243 (mvDec_of cd243 rfl) rfl ?_
    refine rc_callV [mvR 68] [] [some (mvR 68)] mq243 (mvDec_of cd243 rfl) lk_10_237 mq192 (by decide) rfl rfl (Nat.le_of_ble_eq_true rfl) (Nat.le_of_ble_eq_true rfl) (by decide) rfl mis68 rfl (ri_bind H (fun r10 h9 H => ?_))
    refine rc_if_eq (t := 69) mq243 (mvDec_of cd243 rfl) rfl (fun hc => ?_) (fun hc => ?_)
    · replace H := H.1 hc
      refine rc_iconst mq243 (mvDec_of cd243 rfl) (by decide) ?_
      exact rc_iret mq243 (mvDec_of cd243 rfl) ⟨_, _, rfl, rfl, H⟩
    · replace H := H.2 hc
      refine rc_iconst mq243 (mvDec_of cd243 rfl) (by decide) ?_
      refine rc_goto (t := 70) mq243 (mvDec_of cd243 rfl) rfl ?_
      exact rc_iret mq243 (mvDec_of cd243 rfl) ⟨_, _, rfl, rfl, H⟩
  · replace H := H.2.2.2.2.1 hsw
    refine rc_swI (t := 76) mq243 (mvDec_of cd243 rfl) (by omega) (by rw [hsw]; rfl) rfl ?_
    refine rc_aload_n mq243 (mvDec_of cd243 rfl) rfl ?_
    refine rc_iload_n mq243 (mvDec_of cd243 rfl) rfl ?_
    refine rc_iload_n mq243 (mvDec_of cd243 rfl) rfl ?_
    refine rc_callV [mvR 68, mvI r2, mvI x1] [] [some (mvR 68), some (mvI r2), some (mvI x1)] mq243 (mvDec_of cd243 rfl) lk_10_253 mq225 (by decide) rfl rfl (Nat.le_of_ble_eq_true rfl) (Nat.le_of_ble_eq_true rfl) (by decide) rfl mis68 rfl (ri_bind H (fun r12 h11 H => ?_))
    exact rc_iret mq243 (mvDec_of cd243 rfl) ⟨_, _, rfl, rfl, H⟩
  · replace H := H.2.2.2.2.2 hsw
    refine rc_swI (t := 71) mq243 (mvDec_of cd243 rfl) (by omega) (by rw [hsw]; rfl) rfl ?_
    refine rc_aload_n mq243 (mvDec_of cd243 rfl) rfl ?_
    refine rc_callV [mvR 68] [] [some (mvR 68), none, none, none, none] mq243 (mvDec_of cd243 rfl) lk_10_225 mq120 (by decide) rfl rfl (Nat.le_of_ble_eq_true rfl) (Nat.le_of_ble_eq_true rfl) (by decide) rfl mis68 rfl (ri_bind H (fun r14 h13 H => ?_))
    exact rc_iret mq243 (mvDec_of cd243 rfl) ⟨_, _, rfl, rfl, H⟩
abbrev MD_lattice (g : Nat → Nat → Nat) (h : Nat → Int → Int) (x1 : Int) (K : Int → (Nat → Int → Int) → Prop) : Prop := RI 244 0 [some (mvR 68), some (mvI x1)] [] g h K
theorem MD_lattice_wp {sw : Bool} {g : Nat → Nat → Nat} {h : Nat → Int → Int} {x1 : Int} {K : Int → (Nat → Int → Int) → Prop} (hG : Gok sw g)  (H :
  ((x1 < 0 →
    K (-102) h) ∧
  (0 ≤ x1 →
    ((4 < x1 →
      K (-102) h) ∧
    (x1 ≤ 4 →
      (((h 68 0) ≤ 0 →
        K (-103) h) ∧
      (0 < (h 68 0) →
        MD_latticeNow g h x1 (fun r2 h1 =>
          K r2 h1)))))))) : MD_lattice g h x1 K := by
  refine rc_iload_n mq244 (mvDec_of cd244 rfl) rfl ?_
  refine rc_iconst mq244 (mvDec_of cd244 rfl) (by decide) ?_
  refine rc_iconst mq244 (mvDec_of cd244 rfl) (by decide) ?_
  refine rc_callS [mvI x1, mvI 0, mvI 4] [] [some (mvI x1), some (mvI 0), some (mvI 4)] mq244 (mvDec_of cd244 rfl) lk_10_95 mq38 (by decide) rfl rfl (Nat.le_of_ble_eq_true rfl) (Nat.le_of_ble_eq_true rfl) (by decide) rfl ?_
  refine rc_iload_n mq38 (mvDec_of cd38 rfl) rfl ?_
  refine rc_iload_n mq38 (mvDec_of cd38 rfl) rfl ?_
  refine rc_icmp_lt (t := 14) mq38 (mvDec_of cd38 rfl) rfl (fun hc => ?_) (fun hc => ?_)
  · replace H := H.1 hc
    refine rc_iconst mq38 (mvDec_of cd38 rfl) (by decide) ?_
    refine rc_zret mq38 (mvDec_of cd38 rfl) (Or.inl rfl) ?_
    show Rch 244 6 [some (mvR 68), some (mvI x1)] [mvI 0] (97, g, h) _
    refine rc_ifF (t := 12) mq244 (mvDec_of cd244 rfl) rfl rfl ?_
    refine rc_bipush mq244 (mvDec_of cd244 rfl) (by decide) ?_
    exact rc_iret mq244 (mvDec_of cd244 rfl) ⟨_, _, rfl, rfl, H⟩
  · replace H := H.2 hc
    refine rc_iload_n mq38 (mvDec_of cd38 rfl) rfl ?_
    refine rc_iload_n mq38 (mvDec_of cd38 rfl) rfl ?_
    refine rc_icmp_gt (t := 14) mq38 (mvDec_of cd38 rfl) rfl (fun hc => ?_) (fun hc => ?_)
    · replace H := H.1 hc
      refine rc_iconst mq38 (mvDec_of cd38 rfl) (by decide) ?_
      refine rc_zret mq38 (mvDec_of cd38 rfl) (Or.inl rfl) ?_
      show Rch 244 6 [some (mvR 68), some (mvI x1)] [mvI 0] (97, g, h) _
      refine rc_ifF (t := 12) mq244 (mvDec_of cd244 rfl) rfl rfl ?_
      refine rc_bipush mq244 (mvDec_of cd244 rfl) (by decide) ?_
      exact rc_iret mq244 (mvDec_of cd244 rfl) ⟨_, _, rfl, rfl, H⟩
    · replace H := H.2 hc
      refine rc_iconst mq38 (mvDec_of cd38 rfl) (by decide) ?_
      refine rc_goto (t := 15) mq38 (mvDec_of cd38 rfl) rfl ?_
      refine rc_zret mq38 (mvDec_of cd38 rfl) (Or.inr rfl) ?_
      show Rch 244 6 [some (mvR 68), some (mvI x1)] [mvI 1] (97, g, h) _
      refine rc_ifT (t := 12) mq244 (mvDec_of cd244 rfl) rfl rfl ?_
      refine rc_aload_n mq244 (mvDec_of cd244 rfl) rfl ?_
      refine rc_callV [mvR 68] [] [some (mvR 68)] mq244 (mvDec_of cd244 rfl) lk_10_262 mq43 (by decide) rfl rfl (Nat.le_of_ble_eq_true rfl) (Nat.le_of_ble_eq_true rfl) (by decide) rfl mis68 rfl ?_
      refine rc_aload_n mq43 (mvDec_of cd43 rfl) rfl ?_
      refine rc_getI 0 mq43 (mvDec_of cd43 rfl) fl_10_138 mis68 rfl (by decide) (by decide) ?_
      refine rc_if_le (t := 11) mq43 (mvDec_of cd43 rfl) rfl (fun hc => ?_) (fun hc => ?_)
      · replace H := H.1 hc
        refine rc_iconst mq43 (mvDec_of cd43 rfl) (by decide) ?_
        refine rc_zret mq43 (mvDec_of cd43 rfl) (Or.inl rfl) ?_
        show Rch 244 16 [some (mvR 68), some (mvI x1)] [mvI 0] (97, g, h) _
        refine rc_ifT (t := 27) mq244 (mvDec_of cd244 rfl) rfl rfl ?_
        refine rc_bipush mq244 (mvDec_of cd244 rfl) (by decide) ?_
        exact rc_iret mq244 (mvDec_of cd244 rfl) ⟨_, _, rfl, rfl, H⟩
      · replace H := H.2 hc
        refine rc_iconst mq43 (mvDec_of cd43 rfl) (by decide) ?_
        refine rc_goto (t := 12) mq43 (mvDec_of cd43 rfl) rfl ?_
        refine rc_zret mq43 (mvDec_of cd43 rfl) (Or.inr rfl) ?_
        show Rch 244 16 [some (mvR 68), some (mvI x1)] [mvI 1] (97, g, h) _
        refine rc_ifF (t := 27) mq244 (mvDec_of cd244 rfl) rfl rfl ?_
        refine rc_aload_n mq244 (mvDec_of cd244 rfl) rfl ?_
        refine rc_iload_n mq244 (mvDec_of cd244 rfl) rfl ?_
        refine rc_callV [mvR 68, mvI x1] [] [some (mvR 68), some (mvI x1)] mq244 (mvDec_of cd244 rfl) lk_10_284 mq226 (by decide) rfl rfl (Nat.le_of_ble_eq_true rfl) (Nat.le_of_ble_eq_true rfl) (by decide) rfl mis68 rfl (ri_bind H (fun r2 h1 H => ?_))
        refine rc_goto (t := 29) mq244 (mvDec_of cd244 rfl) rfl ?_
        exact rc_iret mq244 (mvDec_of cd244 rfl) ⟨_, _, rfl, rfl, H⟩
abbrev MD_level (g : Nat → Nat → Nat) (h : Nat → Int → Int) (x1 : Int) (x2 : Int) (K : Int → (Nat → Int → Int) → Prop) : Prop := RI 245 0 [some (mvR 68), some (mvI x1), some (mvI x2)] [] g h K
theorem MD_level_wp {sw : Bool} {g : Nat → Nat → Nat} {h : Nat → Int → Int} {x1 : Int} {x2 : Int} {K : Int → (Nat → Int → Int) → Prop} (hG : Gok sw g)  (H :
  (((h 68 0) ≤ 0 →
    K (-103) h) ∧
  (0 < (h 68 0) →
    MD_levelAt g h x1 x2 (fun r2 h1 =>
      K r2 h1)))) : MD_level g h x1 x2 K := by
  refine rc_aload_n mq245 (mvDec_of cd245 rfl) rfl ?_
  refine rc_callV [mvR 68] [] [some (mvR 68)] mq245 (mvDec_of cd245 rfl) lk_10_262 mq43 (by decide) rfl rfl (Nat.le_of_ble_eq_true rfl) (Nat.le_of_ble_eq_true rfl) (by decide) rfl mis68 rfl ?_
  refine rc_aload_n mq43 (mvDec_of cd43 rfl) rfl ?_
  refine rc_getI 0 mq43 (mvDec_of cd43 rfl) fl_10_138 mis68 rfl (by decide) (by decide) ?_
  refine rc_if_le (t := 11) mq43 (mvDec_of cd43 rfl) rfl (fun hc => ?_) (fun hc => ?_)
  · replace H := H.1 hc
    refine rc_iconst mq43 (mvDec_of cd43 rfl) (by decide) ?_
    refine rc_zret mq43 (mvDec_of cd43 rfl) (Or.inl rfl) ?_
    show Rch 245 4 [some (mvR 68), some (mvI x1), some (mvI x2)] [mvI 0] (97, g, h) _
    refine rc_ifT (t := 16) mq245 (mvDec_of cd245 rfl) rfl rfl ?_
    refine rc_bipush mq245 (mvDec_of cd245 rfl) (by decide) ?_
    exact rc_iret mq245 (mvDec_of cd245 rfl) ⟨_, _, rfl, rfl, H⟩
  · replace H := H.2 hc
    refine rc_iconst mq43 (mvDec_of cd43 rfl) (by decide) ?_
    refine rc_goto (t := 12) mq43 (mvDec_of cd43 rfl) rfl ?_
    refine rc_zret mq43 (mvDec_of cd43 rfl) (Or.inr rfl) ?_
    show Rch 245 4 [some (mvR 68), some (mvI x1), some (mvI x2)] [mvI 1] (97, g, h) _
    refine rc_ifF (t := 16) mq245 (mvDec_of cd245 rfl) rfl rfl ?_
    refine rc_aload_n mq245 (mvDec_of cd245 rfl) rfl ?_
    refine rc_iload_n mq245 (mvDec_of cd245 rfl) rfl ?_
    refine rc_iload_n mq245 (mvDec_of cd245 rfl) rfl ?_
    refine rc_callV [mvR 68, mvI x1, mvI x2] [] [some (mvR 68), some (mvI x1), some (mvI x2), none] mq245 (mvDec_of cd245 rfl) lk_10_293 mq227 (by decide) rfl rfl (Nat.le_of_ble_eq_true rfl) (Nat.le_of_ble_eq_true rfl) (by decide) rfl mis68 rfl (ri_bind H (fun r2 h1 H => ?_))
    refine rc_goto (t := 18) mq245 (mvDec_of cd245 rfl) rfl ?_
    exact rc_iret mq245 (mvDec_of cd245 rfl) ⟨_, _, rfl, rfl, H⟩
abbrev MD_wished (g : Nat → Nat → Nat) (h : Nat → Int → Int) (x1 : Int) (K : Int → (Nat → Int → Int) → Prop) : Prop := RI 246 0 [some (mvR 68), some (mvI x1)] [] g h K
theorem MD_wished_wp {sw : Bool} {g : Nat → Nat → Nat} {h : Nat → Int → Int} {x1 : Int} {K : Int → (Nat → Int → Int) → Prop} (hG : Gok sw g)  (H :
  ((x1 < 0 →
    K (-102) h) ∧
  (0 ≤ x1 →
    ((3 < x1 →
      K (-102) h) ∧
    (x1 ≤ 3 →
      (((h 68 0) ≤ 0 →
        K (-103) h) ∧
      (0 < (h 68 0) →
        MD_wishedNow g h x1 (fun r2 h1 =>
          K r2 h1)))))))) : MD_wished g h x1 K := by
  refine rc_iload_n mq246 (mvDec_of cd246 rfl) rfl ?_
  refine rc_iconst mq246 (mvDec_of cd246 rfl) (by decide) ?_
  refine rc_iconst mq246 (mvDec_of cd246 rfl) (by decide) ?_
  refine rc_callS [mvI x1, mvI 0, mvI 3] [] [some (mvI x1), some (mvI 0), some (mvI 3)] mq246 (mvDec_of cd246 rfl) lk_10_95 mq38 (by decide) rfl rfl (Nat.le_of_ble_eq_true rfl) (Nat.le_of_ble_eq_true rfl) (by decide) rfl ?_
  refine rc_iload_n mq38 (mvDec_of cd38 rfl) rfl ?_
  refine rc_iload_n mq38 (mvDec_of cd38 rfl) rfl ?_
  refine rc_icmp_lt (t := 14) mq38 (mvDec_of cd38 rfl) rfl (fun hc => ?_) (fun hc => ?_)
  · replace H := H.1 hc
    refine rc_iconst mq38 (mvDec_of cd38 rfl) (by decide) ?_
    refine rc_zret mq38 (mvDec_of cd38 rfl) (Or.inl rfl) ?_
    show Rch 246 6 [some (mvR 68), some (mvI x1)] [mvI 0] (97, g, h) _
    refine rc_ifF (t := 12) mq246 (mvDec_of cd246 rfl) rfl rfl ?_
    refine rc_bipush mq246 (mvDec_of cd246 rfl) (by decide) ?_
    exact rc_iret mq246 (mvDec_of cd246 rfl) ⟨_, _, rfl, rfl, H⟩
  · replace H := H.2 hc
    refine rc_iload_n mq38 (mvDec_of cd38 rfl) rfl ?_
    refine rc_iload_n mq38 (mvDec_of cd38 rfl) rfl ?_
    refine rc_icmp_gt (t := 14) mq38 (mvDec_of cd38 rfl) rfl (fun hc => ?_) (fun hc => ?_)
    · replace H := H.1 hc
      refine rc_iconst mq38 (mvDec_of cd38 rfl) (by decide) ?_
      refine rc_zret mq38 (mvDec_of cd38 rfl) (Or.inl rfl) ?_
      show Rch 246 6 [some (mvR 68), some (mvI x1)] [mvI 0] (97, g, h) _
      refine rc_ifF (t := 12) mq246 (mvDec_of cd246 rfl) rfl rfl ?_
      refine rc_bipush mq246 (mvDec_of cd246 rfl) (by decide) ?_
      exact rc_iret mq246 (mvDec_of cd246 rfl) ⟨_, _, rfl, rfl, H⟩
    · replace H := H.2 hc
      refine rc_iconst mq38 (mvDec_of cd38 rfl) (by decide) ?_
      refine rc_goto (t := 15) mq38 (mvDec_of cd38 rfl) rfl ?_
      refine rc_zret mq38 (mvDec_of cd38 rfl) (Or.inr rfl) ?_
      show Rch 246 6 [some (mvR 68), some (mvI x1)] [mvI 1] (97, g, h) _
      refine rc_ifT (t := 12) mq246 (mvDec_of cd246 rfl) rfl rfl ?_
      refine rc_aload_n mq246 (mvDec_of cd246 rfl) rfl ?_
      refine rc_callV [mvR 68] [] [some (mvR 68)] mq246 (mvDec_of cd246 rfl) lk_10_262 mq43 (by decide) rfl rfl (Nat.le_of_ble_eq_true rfl) (Nat.le_of_ble_eq_true rfl) (by decide) rfl mis68 rfl ?_
      refine rc_aload_n mq43 (mvDec_of cd43 rfl) rfl ?_
      refine rc_getI 0 mq43 (mvDec_of cd43 rfl) fl_10_138 mis68 rfl (by decide) (by decide) ?_
      refine rc_if_le (t := 11) mq43 (mvDec_of cd43 rfl) rfl (fun hc => ?_) (fun hc => ?_)
      · replace H := H.1 hc
        refine rc_iconst mq43 (mvDec_of cd43 rfl) (by decide) ?_
        refine rc_zret mq43 (mvDec_of cd43 rfl) (Or.inl rfl) ?_
        show Rch 246 16 [some (mvR 68), some (mvI x1)] [mvI 0] (97, g, h) _
        refine rc_ifT (t := 27) mq246 (mvDec_of cd246 rfl) rfl rfl ?_
        refine rc_bipush mq246 (mvDec_of cd246 rfl) (by decide) ?_
        exact rc_iret mq246 (mvDec_of cd246 rfl) ⟨_, _, rfl, rfl, H⟩
      · replace H := H.2 hc
        refine rc_iconst mq43 (mvDec_of cd43 rfl) (by decide) ?_
        refine rc_goto (t := 12) mq43 (mvDec_of cd43 rfl) rfl ?_
        refine rc_zret mq43 (mvDec_of cd43 rfl) (Or.inr rfl) ?_
        show Rch 246 16 [some (mvR 68), some (mvI x1)] [mvI 1] (97, g, h) _
        refine rc_ifF (t := 27) mq246 (mvDec_of cd246 rfl) rfl rfl ?_
        refine rc_aload_n mq246 (mvDec_of cd246 rfl) rfl ?_
        refine rc_iload_n mq246 (mvDec_of cd246 rfl) rfl ?_
        refine rc_callV [mvR 68, mvI x1] [] [some (mvR 68), some (mvI x1)] mq246 (mvDec_of cd246 rfl) lk_10_302 mq228 (by decide) rfl rfl (Nat.le_of_ble_eq_true rfl) (Nat.le_of_ble_eq_true rfl) (by decide) rfl mis68 rfl (ri_bind H (fun r2 h1 H => ?_))
        refine rc_goto (t := 29) mq246 (mvDec_of cd246 rfl) rfl ?_
        exact rc_iret mq246 (mvDec_of cd246 rfl) ⟨_, _, rfl, rfl, H⟩
abbrev MD_least (g : Nat → Nat → Nat) (h : Nat → Int → Int)  (K : Int → (Nat → Int → Int) → Prop) : Prop := RI 247 0 [some (mvR 68)] [] g h K
theorem MD_least_wp {sw : Bool} {g : Nat → Nat → Nat} {h : Nat → Int → Int}  {K : Int → (Nat → Int → Int) → Prop} (hG : Gok sw g)  (H :
  (((h 68 0) ≤ 0 →
    K (-103) h) ∧
  (0 < (h 68 0) →
    ((¬ (h 68 7) = 0 →
      K (-103) h) ∧
    ((h 68 7) = 0 →
      MD_leastNow g h (fun r2 h1 =>
        K r2 h1)))))) : MD_least g h  K := by
  refine rc_aload_n mq247 (mvDec_of cd247 rfl) rfl ?_
  refine rc_callV [mvR 68] [] [some (mvR 68)] mq247 (mvDec_of cd247 rfl) lk_10_308 mq131 (by decide) rfl rfl (Nat.le_of_ble_eq_true rfl) (Nat.le_of_ble_eq_true rfl) (by decide) rfl mis68 rfl ?_
  refine rc_aload_n mq131 (mvDec_of cd131 rfl) rfl ?_
  refine rc_callV [mvR 68] [] [some (mvR 68)] mq131 (mvDec_of cd131 rfl) lk_10_262 mq43 (by decide) rfl rfl (Nat.le_of_ble_eq_true rfl) (Nat.le_of_ble_eq_true rfl) (by decide) rfl mis68 rfl ?_
  refine rc_aload_n mq43 (mvDec_of cd43 rfl) rfl ?_
  refine rc_getI 0 mq43 (mvDec_of cd43 rfl) fl_10_138 mis68 rfl (by decide) (by decide) ?_
  refine rc_if_le (t := 11) mq43 (mvDec_of cd43 rfl) rfl (fun hc => ?_) (fun hc => ?_)
  · replace H := H.1 hc
    refine rc_iconst mq43 (mvDec_of cd43 rfl) (by decide) ?_
    refine rc_zret mq43 (mvDec_of cd43 rfl) (Or.inl rfl) ?_
    show Rch 131 4 [some (mvR 68)] [mvI 0] (97, g, h) _
    refine rc_ifT (t := 18) mq131 (mvDec_of cd131 rfl) rfl rfl ?_
    refine rc_iconst mq131 (mvDec_of cd131 rfl) (by decide) ?_
    refine rc_zret mq131 (mvDec_of cd131 rfl) (Or.inl rfl) ?_
    show Rch 247 4 [some (mvR 68)] [mvI 0] (97, g, h) _
    refine rc_ifT (t := 14) mq247 (mvDec_of cd247 rfl) rfl rfl ?_
    refine rc_bipush mq247 (mvDec_of cd247 rfl) (by decide) ?_
    exact rc_iret mq247 (mvDec_of cd247 rfl) ⟨_, _, rfl, rfl, H⟩
  · replace H := H.2 hc
    refine rc_iconst mq43 (mvDec_of cd43 rfl) (by decide) ?_
    refine rc_goto (t := 12) mq43 (mvDec_of cd43 rfl) rfl ?_
    refine rc_zret mq43 (mvDec_of cd43 rfl) (Or.inr rfl) ?_
    show Rch 131 4 [some (mvR 68)] [mvI 1] (97, g, h) _
    refine rc_ifF (t := 18) mq131 (mvDec_of cd131 rfl) rfl rfl ?_
    refine rc_aload_n mq131 (mvDec_of cd131 rfl) rfl ?_
    refine rc_getI 7 mq131 (mvDec_of cd131 rfl) fl_10_213 mis68 rfl (by decide) (by decide) ?_
    refine rc_if_ne (t := 18) mq131 (mvDec_of cd131 rfl) rfl (fun hc => ?_) (fun hc => ?_)
    · replace H := H.1 hc
      refine rc_iconst mq131 (mvDec_of cd131 rfl) (by decide) ?_
      refine rc_zret mq131 (mvDec_of cd131 rfl) (Or.inl rfl) ?_
      show Rch 247 4 [some (mvR 68)] [mvI 0] (97, g, h) _
      refine rc_ifT (t := 14) mq247 (mvDec_of cd247 rfl) rfl rfl ?_
      refine rc_bipush mq247 (mvDec_of cd247 rfl) (by decide) ?_
      exact rc_iret mq247 (mvDec_of cd247 rfl) ⟨_, _, rfl, rfl, H⟩
    · replace H := H.2 hc
      refine rc_iconst mq131 (mvDec_of cd131 rfl) (by decide) ?_
      refine rc_goto (t := 19) mq131 (mvDec_of cd131 rfl) rfl ?_
      refine rc_zret mq131 (mvDec_of cd131 rfl) (Or.inr rfl) ?_
      show Rch 247 4 [some (mvR 68)] [mvI 1] (97, g, h) _
      refine rc_ifF (t := 14) mq247 (mvDec_of cd247 rfl) rfl rfl ?_
      refine rc_aload_n mq247 (mvDec_of cd247 rfl) rfl ?_
      refine rc_callV [mvR 68] [] [some (mvR 68), none, none] mq247 (mvDec_of cd247 rfl) lk_10_311 mq230 (by decide) rfl rfl (Nat.le_of_ble_eq_true rfl) (Nat.le_of_ble_eq_true rfl) (by decide) rfl mis68 rfl (ri_bind H (fun r2 h1 H => ?_))
      refine rc_goto (t := 16) mq247 (mvDec_of cd247 rfl) rfl ?_
      exact rc_iret mq247 (mvDec_of cd247 rfl) ⟨_, _, rfl, rfl, H⟩
abbrev MD_lean (g : Nat → Nat → Nat) (h : Nat → Int → Int) (x1 : Int) (K : Int → (Nat → Int → Int) → Prop) : Prop := RI 248 0 [some (mvR 68), some (mvI x1)] [] g h K
theorem MD_lean_wp {sw : Bool} {g : Nat → Nat → Nat} {h : Nat → Int → Int} {x1 : Int} {K : Int → (Nat → Int → Int) → Prop} (hG : Gok sw g)  (H :
  ((x1 < 0 →
    K (-102) h) ∧
  (0 ≤ x1 →
    ((3 < x1 →
      K (-102) h) ∧
    (x1 ≤ 3 →
      (((h 68 0) ≤ 0 →
        K (-103) h) ∧
      (0 < (h 68 0) →
        ((¬ (h 68 7) = 0 →
          K (-103) h) ∧
        ((h 68 7) = 0 →
          MD_leanNow g h x1 (fun r2 h1 =>
            K r2 h1)))))))))) : MD_lean g h x1 K := by
  refine rc_iload_n mq248 (mvDec_of cd248 rfl) rfl ?_
  refine rc_iconst mq248 (mvDec_of cd248 rfl) (by decide) ?_
  refine rc_iconst mq248 (mvDec_of cd248 rfl) (by decide) ?_
  refine rc_callS [mvI x1, mvI 0, mvI 3] [] [some (mvI x1), some (mvI 0), some (mvI 3)] mq248 (mvDec_of cd248 rfl) lk_10_95 mq38 (by decide) rfl rfl (Nat.le_of_ble_eq_true rfl) (Nat.le_of_ble_eq_true rfl) (by decide) rfl ?_
  refine rc_iload_n mq38 (mvDec_of cd38 rfl) rfl ?_
  refine rc_iload_n mq38 (mvDec_of cd38 rfl) rfl ?_
  refine rc_icmp_lt (t := 14) mq38 (mvDec_of cd38 rfl) rfl (fun hc => ?_) (fun hc => ?_)
  · replace H := H.1 hc
    refine rc_iconst mq38 (mvDec_of cd38 rfl) (by decide) ?_
    refine rc_zret mq38 (mvDec_of cd38 rfl) (Or.inl rfl) ?_
    show Rch 248 6 [some (mvR 68), some (mvI x1)] [mvI 0] (97, g, h) _
    refine rc_ifF (t := 12) mq248 (mvDec_of cd248 rfl) rfl rfl ?_
    refine rc_bipush mq248 (mvDec_of cd248 rfl) (by decide) ?_
    exact rc_iret mq248 (mvDec_of cd248 rfl) ⟨_, _, rfl, rfl, H⟩
  · replace H := H.2 hc
    refine rc_iload_n mq38 (mvDec_of cd38 rfl) rfl ?_
    refine rc_iload_n mq38 (mvDec_of cd38 rfl) rfl ?_
    refine rc_icmp_gt (t := 14) mq38 (mvDec_of cd38 rfl) rfl (fun hc => ?_) (fun hc => ?_)
    · replace H := H.1 hc
      refine rc_iconst mq38 (mvDec_of cd38 rfl) (by decide) ?_
      refine rc_zret mq38 (mvDec_of cd38 rfl) (Or.inl rfl) ?_
      show Rch 248 6 [some (mvR 68), some (mvI x1)] [mvI 0] (97, g, h) _
      refine rc_ifF (t := 12) mq248 (mvDec_of cd248 rfl) rfl rfl ?_
      refine rc_bipush mq248 (mvDec_of cd248 rfl) (by decide) ?_
      exact rc_iret mq248 (mvDec_of cd248 rfl) ⟨_, _, rfl, rfl, H⟩
    · replace H := H.2 hc
      refine rc_iconst mq38 (mvDec_of cd38 rfl) (by decide) ?_
      refine rc_goto (t := 15) mq38 (mvDec_of cd38 rfl) rfl ?_
      refine rc_zret mq38 (mvDec_of cd38 rfl) (Or.inr rfl) ?_
      show Rch 248 6 [some (mvR 68), some (mvI x1)] [mvI 1] (97, g, h) _
      refine rc_ifT (t := 12) mq248 (mvDec_of cd248 rfl) rfl rfl ?_
      refine rc_aload_n mq248 (mvDec_of cd248 rfl) rfl ?_
      refine rc_callV [mvR 68] [] [some (mvR 68)] mq248 (mvDec_of cd248 rfl) lk_10_308 mq131 (by decide) rfl rfl (Nat.le_of_ble_eq_true rfl) (Nat.le_of_ble_eq_true rfl) (by decide) rfl mis68 rfl ?_
      refine rc_aload_n mq131 (mvDec_of cd131 rfl) rfl ?_
      refine rc_callV [mvR 68] [] [some (mvR 68)] mq131 (mvDec_of cd131 rfl) lk_10_262 mq43 (by decide) rfl rfl (Nat.le_of_ble_eq_true rfl) (Nat.le_of_ble_eq_true rfl) (by decide) rfl mis68 rfl ?_
      refine rc_aload_n mq43 (mvDec_of cd43 rfl) rfl ?_
      refine rc_getI 0 mq43 (mvDec_of cd43 rfl) fl_10_138 mis68 rfl (by decide) (by decide) ?_
      refine rc_if_le (t := 11) mq43 (mvDec_of cd43 rfl) rfl (fun hc => ?_) (fun hc => ?_)
      · replace H := H.1 hc
        refine rc_iconst mq43 (mvDec_of cd43 rfl) (by decide) ?_
        refine rc_zret mq43 (mvDec_of cd43 rfl) (Or.inl rfl) ?_
        show Rch 131 4 [some (mvR 68)] [mvI 0] (97, g, h) _
        refine rc_ifT (t := 18) mq131 (mvDec_of cd131 rfl) rfl rfl ?_
        refine rc_iconst mq131 (mvDec_of cd131 rfl) (by decide) ?_
        refine rc_zret mq131 (mvDec_of cd131 rfl) (Or.inl rfl) ?_
        show Rch 248 16 [some (mvR 68), some (mvI x1)] [mvI 0] (97, g, h) _
        refine rc_ifT (t := 27) mq248 (mvDec_of cd248 rfl) rfl rfl ?_
        refine rc_bipush mq248 (mvDec_of cd248 rfl) (by decide) ?_
        exact rc_iret mq248 (mvDec_of cd248 rfl) ⟨_, _, rfl, rfl, H⟩
      · replace H := H.2 hc
        refine rc_iconst mq43 (mvDec_of cd43 rfl) (by decide) ?_
        refine rc_goto (t := 12) mq43 (mvDec_of cd43 rfl) rfl ?_
        refine rc_zret mq43 (mvDec_of cd43 rfl) (Or.inr rfl) ?_
        show Rch 131 4 [some (mvR 68)] [mvI 1] (97, g, h) _
        refine rc_ifF (t := 18) mq131 (mvDec_of cd131 rfl) rfl rfl ?_
        refine rc_aload_n mq131 (mvDec_of cd131 rfl) rfl ?_
        refine rc_getI 7 mq131 (mvDec_of cd131 rfl) fl_10_213 mis68 rfl (by decide) (by decide) ?_
        refine rc_if_ne (t := 18) mq131 (mvDec_of cd131 rfl) rfl (fun hc => ?_) (fun hc => ?_)
        · replace H := H.1 hc
          refine rc_iconst mq131 (mvDec_of cd131 rfl) (by decide) ?_
          refine rc_zret mq131 (mvDec_of cd131 rfl) (Or.inl rfl) ?_
          show Rch 248 16 [some (mvR 68), some (mvI x1)] [mvI 0] (97, g, h) _
          refine rc_ifT (t := 27) mq248 (mvDec_of cd248 rfl) rfl rfl ?_
          refine rc_bipush mq248 (mvDec_of cd248 rfl) (by decide) ?_
          exact rc_iret mq248 (mvDec_of cd248 rfl) ⟨_, _, rfl, rfl, H⟩
        · replace H := H.2 hc
          refine rc_iconst mq131 (mvDec_of cd131 rfl) (by decide) ?_
          refine rc_goto (t := 19) mq131 (mvDec_of cd131 rfl) rfl ?_
          refine rc_zret mq131 (mvDec_of cd131 rfl) (Or.inr rfl) ?_
          show Rch 248 16 [some (mvR 68), some (mvI x1)] [mvI 1] (97, g, h) _
          refine rc_ifF (t := 27) mq248 (mvDec_of cd248 rfl) rfl rfl ?_
          refine rc_aload_n mq248 (mvDec_of cd248 rfl) rfl ?_
          refine rc_iload_n mq248 (mvDec_of cd248 rfl) rfl ?_
          refine rc_callV [mvR 68, mvI x1] [] [some (mvR 68), some (mvI x1), none] mq248 (mvDec_of cd248 rfl) lk_10_338 mq232 (by decide) rfl rfl (Nat.le_of_ble_eq_true rfl) (Nat.le_of_ble_eq_true rfl) (by decide) rfl mis68 rfl (ri_bind H (fun r2 h1 H => ?_))
          refine rc_goto (t := 29) mq248 (mvDec_of cd248 rfl) rfl ?_
          exact rc_iret mq248 (mvDec_of cd248 rfl) ⟨_, _, rfl, rfl, H⟩
abbrev MD_mixEvents (g : Nat → Nat → Nat) (h : Nat → Int → Int)  (K : (Nat → Int → Int) → Prop) : Prop := RV 249 0 [some (mvR 68), none, none] [] g h K
abbrev MD_mixEvents_2 (g : Nat → Nat → Nat) (h : Nat → Int → Int) (l1 : Int) (u2 : Option Int) (K : (Nat → Int → Int) → Prop) : Prop := RV 249 2 [some (mvR 68), some (mvI l1), u2.map mvI] [] g h K
abbrev MD_mixEvents_12 (g : Nat → Nat → Nat) (h : Nat → Int → Int) (l1 : Int) (l2 : Int) (K : (Nat → Int → Int) → Prop) : Prop := RV 249 12 [some (mvR 68), some (mvI l1), some (mvI l2)] [] g h K
abbrev MD_mixEvents_57 (g : Nat → Nat → Nat) (h : Nat → Int → Int) (l1 : Int) (u2 : Option Int) (K : (Nat → Int → Int) → Prop) : Prop := RV 249 57 [some (mvR 68), some (mvI l1), u2.map mvI] [] g h K
theorem MD_mixEvents_wp {sw : Bool} {g : Nat → Nat → Nat} {h : Nat → Int → Int}  {K : (Nat → Int → Int) → Prop} (hG : Gok sw g)  (H :
  MD_mixEvents_2 g h 0 none K) : MD_mixEvents g h  K := by
  refine rc_iconst mq249 (mvDec_of cd249 rfl) (by decide) ?_
  refine rc_istore_n [some (mvR 68), some (mvI 0), none] mq249 (mvDec_of cd249 rfl) rfl ?_
  exact H
theorem MD_mixEvents_2_wp {sw : Bool} {g : Nat → Nat → Nat} {h : Nat → Int → Int} {l1 : Int} {u2 : Option Int} {K : (Nat → Int → Int) → Prop} (hG : Gok sw g)  (H :
  (((h 68 0) ≤ l1 →
    MD_mixEvents_57 g h 0 u2 K) ∧
  (l1 < (h 68 0) →
    MD_mixEvents_12 g h l1 0 K))) : MD_mixEvents_2 g h l1 u2 K := by
  refine rc_iload_n mq249 (mvDec_of cd249 rfl) rfl ?_
  refine rc_aload_n mq249 (mvDec_of cd249 rfl) rfl ?_
  refine rc_getI 0 mq249 (mvDec_of cd249 rfl) fl_10_138 mis68 rfl (by decide) (by decide) ?_
  refine rc_icmp_ge (t := 55) mq249 (mvDec_of cd249 rfl) rfl (fun hc => ?_) (fun hc => ?_)
  · replace H := H.1 hc
    refine rc_iconst mq249 (mvDec_of cd249 rfl) (by decide) ?_
    refine rc_istore_n [some (mvR 68), some (mvI 0), u2.map mvI] mq249 (mvDec_of cd249 rfl) rfl ?_
    exact H
  · replace H := H.2 hc
    refine rc_iconst mq249 (mvDec_of cd249 rfl) (by decide) ?_
    refine rc_istore_n [some (mvR 68), some (mvI l1), some (mvI 0)] mq249 (mvDec_of cd249 rfl) rfl ?_
    exact H
theorem MD_mixEvents_12_wp {sw : Bool} {g : Nat → Nat → Nat} {h : Nat → Int → Int} {l1 : Int} {l2 : Int} {K : (Nat → Int → Int) → Prop} (hG : Gok sw g)  (H :
  (0 ≤ l1 ∧ l1 < 4) ∧
  (((mw (7 * (h 69 l1))) ≤ l2 →
    MD_mixEvents_2 g h (mw (l1 + 1)) (some l2) K) ∧
  (l2 < (mw (7 * (h 69 l1))) →
    MD_eventNow g h l1 (mw (l2.tdiv 7)) (l2.tmod 7) (fun r2 h1 =>
      (∀ h3, h3 = mvUpd h1 68 44 (mwl ((mwl (31 * (h1 68 44))) + r2)) →
      MD_mixEvents_12 g h3 l1 (mw (l2 + 1)) K))))) : MD_mixEvents_12 g h l1 l2 K := by
  refine rc_iload_n mq249 (mvDec_of cd249 rfl) rfl ?_
  refine rc_bipush mq249 (mvDec_of cd249 rfl) (by decide) ?_
  refine rc_aload_n mq249 (mvDec_of cd249 rfl) rfl ?_
  refine rc_getR 69 mq249 (mvDec_of cd249 rfl) fl_10_7 mis68 rfl (gr_68_1 hG) (by decide) ?_
  refine rc_iload_n mq249 (mvDec_of cd249 rfl) rfl ?_
  obtain ⟨⟨hb0, hb1⟩, H⟩ := H
  refine rc_iald mq249 (mvDec_of cd249 rfl) mis69 hb0 hb1 ?_
  refine rc_imul mq249 (mvDec_of cd249 rfl) ?_
  refine rc_icmp_ge (t := 49) mq249 (mvDec_of cd249 rfl) rfl (fun hc => ?_) (fun hc => ?_)
  · replace H := H.1 hc
    refine rc_iinc [some (mvR 68), some (mvI (mw (l1 + 1))), some (mvI l2)] mq249 (mvDec_of cd249 rfl) rfl rfl ?_
    refine rc_goto (t := 2) mq249 (mvDec_of cd249 rfl) rfl ?_
    exact H
  · replace H := H.2 hc
    refine rc_aload_n mq249 (mvDec_of cd249 rfl) rfl ?_
    refine rc_aload_n mq249 (mvDec_of cd249 rfl) rfl ?_
    refine rc_iload_n mq249 (mvDec_of cd249 rfl) rfl ?_
    refine rc_iload_n mq249 (mvDec_of cd249 rfl) rfl ?_
    refine rc_bipush mq249 (mvDec_of cd249 rfl) (by decide) ?_
    refine rc_idiv mq249 (mvDec_of cd249 rfl) (by decide) ?_
    refine rc_iload_n mq249 (mvDec_of cd249 rfl) rfl ?_
    refine rc_bipush mq249 (mvDec_of cd249 rfl) (by decide) ?_
    refine rc_irem mq249 (mvDec_of cd249 rfl) (by decide) ?_
    refine rc_callV [mvR 68, mvI l1, mvI (mw (l2.tdiv 7)), mvI (l2.tmod 7)] [mvR 68] [some (mvR 68), some (mvI l1), some (mvI (mw (l2.tdiv 7))), some (mvI (l2.tmod 7)), none] mq249 (mvDec_of cd249 rfl) lk_10_186 mq47 (by decide) rfl rfl (Nat.le_of_ble_eq_true rfl) (Nat.le_of_ble_eq_true rfl) (by decide) rfl mis68 rfl (ri_bind H (fun r2 h1 H => ?_))
    refine rc_i2l mq249 (mvDec_of cd249 rfl) ?_
    refine rc_callV [mvR 68, mvJ r2] [] [some (mvR 68), some (mvJ r2), none] mq249 (mvDec_of cd249 rfl) lk_10_407 mq64 (by decide) rfl rfl (Nat.le_of_ble_eq_true rfl) (Nat.le_of_ble_eq_true rfl) (by decide) rfl mis68 rfl ?_
    refine rc_aload_n mq64 (mvDec_of cd64 rfl) rfl ?_
    refine rc_ldc2 mq64 (mvDec_of cd64 rfl) rfl ?_
    refine rc_aload_n mq64 (mvDec_of cd64 rfl) rfl ?_
    refine rc_getJ 44 mq64 (mvDec_of cd64 rfl) fl_10_404 mis68 rfl (by decide) rfl ?_
    refine rc_lmul mq64 (mvDec_of cd64 rfl) ?_
    refine rc_lload_n mq64 (mvDec_of cd64 rfl) rfl ?_
    refine rc_ladd mq64 (mvDec_of cd64 rfl) ?_
    refine rc_putJ 44 mq64 (mvDec_of cd64 rfl) fl_10_404 mis68 rfl (fun z => absurd z (by decide)) rfl ?_
    refine rc_heap (fun h3 hh => ?_)
    replace H := H h3 hh
    refine rc_vret mq64 (mvDec_of cd64 rfl) ?_
    show Rch 249 43 [some (mvR 68), some (mvI l1), some (mvI l2)] [] (97, g, h3) _
    refine rc_iinc [some (mvR 68), some (mvI l1), some (mvI (mw (l2 + 1)))] mq249 (mvDec_of cd249 rfl) rfl rfl ?_
    refine rc_goto (t := 12) mq249 (mvDec_of cd249 rfl) rfl ?_
    exact H
theorem MD_mixEvents_57_wp {sw : Bool} {g : Nat → Nat → Nat} {h : Nat → Int → Int} {l1 : Int} {u2 : Option Int} {K : (Nat → Int → Int) → Prop} (hG : Gok sw g)  (H :
  ((5 ≤ l1 →
    K h) ∧
  (l1 < 5 →
    MD_latticeNow g h l1 (fun r2 h1 =>
      (∀ h3, h3 = mvUpd h1 68 44 (mwl ((mwl (31 * (h1 68 44))) + r2)) →
      MD_mixEvents_57 g h3 (mw (l1 + 1)) u2 K))))) : MD_mixEvents_57 g h l1 u2 K := by
  refine rc_iload_n mq249 (mvDec_of cd249 rfl) rfl ?_
  refine rc_iconst mq249 (mvDec_of cd249 rfl) (by decide) ?_
  refine rc_icmp_ge (t := 78) mq249 (mvDec_of cd249 rfl) rfl (fun hc => ?_) (fun hc => ?_)
  · replace H := H.1 hc
    exact rc_vret mq249 (mvDec_of cd249 rfl) ⟨_, rfl, rfl, H⟩
  · replace H := H.2 hc
    refine rc_aload_n mq249 (mvDec_of cd249 rfl) rfl ?_
    refine rc_aload_n mq249 (mvDec_of cd249 rfl) rfl ?_
    refine rc_iload_n mq249 (mvDec_of cd249 rfl) rfl ?_
    refine rc_callV [mvR 68, mvI l1] [mvR 68] [some (mvR 68), some (mvI l1)] mq249 (mvDec_of cd249 rfl) lk_10_284 mq226 (by decide) rfl rfl (Nat.le_of_ble_eq_true rfl) (Nat.le_of_ble_eq_true rfl) (by decide) rfl mis68 rfl (ri_bind H (fun r2 h1 H => ?_))
    refine rc_i2l mq249 (mvDec_of cd249 rfl) ?_
    refine rc_callV [mvR 68, mvJ r2] [] [some (mvR 68), some (mvJ r2), none] mq249 (mvDec_of cd249 rfl) lk_10_407 mq64 (by decide) rfl rfl (Nat.le_of_ble_eq_true rfl) (Nat.le_of_ble_eq_true rfl) (by decide) rfl mis68 rfl ?_
    refine rc_aload_n mq64 (mvDec_of cd64 rfl) rfl ?_
    refine rc_ldc2 mq64 (mvDec_of cd64 rfl) rfl ?_
    refine rc_aload_n mq64 (mvDec_of cd64 rfl) rfl ?_
    refine rc_getJ 44 mq64 (mvDec_of cd64 rfl) fl_10_404 mis68 rfl (by decide) rfl ?_
    refine rc_lmul mq64 (mvDec_of cd64 rfl) ?_
    refine rc_lload_n mq64 (mvDec_of cd64 rfl) rfl ?_
    refine rc_ladd mq64 (mvDec_of cd64 rfl) ?_
    refine rc_putJ 44 mq64 (mvDec_of cd64 rfl) fl_10_404 mis68 rfl (fun z => absurd z (by decide)) rfl ?_
    refine rc_heap (fun h3 hh => ?_)
    replace H := H h3 hh
    refine rc_vret mq64 (mvDec_of cd64 rfl) ?_
    show Rch 249 72 [some (mvR 68), some (mvI l1), u2.map mvI] [] (97, g, h3) _
    refine rc_iinc [some (mvR 68), some (mvI (mw (l1 + 1))), u2.map mvI] mq249 (mvDec_of cd249 rfl) rfl rfl ?_
    refine rc_goto (t := 57) mq249 (mvDec_of cd249 rfl) rfl ?_
    exact H
abbrev MD_mixCuts (g : Nat → Nat → Nat) (h : Nat → Int → Int)  (K : (Nat → Int → Int) → Prop) : Prop := RV 250 0 [some (mvR 68), none, none, none] [] g h K
abbrev MD_mixCuts_11 (g : Nat → Nat → Nat) (h : Nat → Int → Int) (l1 : Int) (l2 : Int) (u3 : Option Int) (K : (Nat → Int → Int) → Prop) : Prop := RV 250 11 [some (mvR 68), some (mvI l1), some (mvI l2), u3.map mvI] [] g h K
abbrev MD_mixCuts_21 (g : Nat → Nat → Nat) (h : Nat → Int → Int) (l1 : Int) (l2 : Int) (l3 : Int) (K : (Nat → Int → Int) → Prop) : Prop := RV 250 21 [some (mvR 68), some (mvI l1), some (mvI l2), some (mvI l3)] [] g h K
abbrev MD_mixCuts_64 (g : Nat → Nat → Nat) (h : Nat → Int → Int) (u1 : Option Int) (l2 : Int) (u3 : Option Int) (K : (Nat → Int → Int) → Prop) : Prop := RV 250 64 [some (mvR 68), u1.map mvI, some (mvI l2), u3.map mvI] [] g h K
abbrev MD_mixCuts_87 (g : Nat → Nat → Nat) (h : Nat → Int → Int) (u1 : Option Int) (l2 : Int) (u3 : Option Int) (K : (Nat → Int → Int) → Prop) : Prop := RV 250 87 [some (mvR 68), u1.map mvI, some (mvI l2), u3.map mvI] [] g h K
theorem MD_mixCuts_wp {sw : Bool} {g : Nat → Nat → Nat} {h : Nat → Int → Int}  {K : (Nat → Int → Int) → Prop} (hG : Gok sw g)  (H :
  MD_layCuts g h (fun h1 =>
    MD_cutsAll g h1 (fun r3 h2 =>
      MD_mixCuts_11 g h2 r3 0 none K))) : MD_mixCuts g h  K := by
  refine rc_aload_n mq250 (mvDec_of cd250 rfl) rfl ?_
  refine rc_callV [mvR 68] [] [some (mvR 68), none, none, none] mq250 (mvDec_of cd250 rfl) lk_10_256 mq213 (by decide) rfl rfl (Nat.le_of_ble_eq_true rfl) (Nat.le_of_ble_eq_true rfl) (by decide) rfl mis68 rfl (rv_bind H (fun h1 H => ?_))
  refine rc_aload_n mq250 (mvDec_of cd250 rfl) rfl ?_
  refine rc_callV [mvR 68] [] [some (mvR 68), none, none] mq250 (mvDec_of cd250 rfl) lk_10_231 mq49 (by decide) rfl rfl (Nat.le_of_ble_eq_true rfl) (Nat.le_of_ble_eq_true rfl) (by decide) rfl mis68 rfl (ri_bind H (fun r3 h2 H => ?_))
  refine rc_istore_n [some (mvR 68), some (mvI r3), none, none] mq250 (mvDec_of cd250 rfl) rfl ?_
  refine rc_iconst mq250 (mvDec_of cd250 rfl) (by decide) ?_
  refine rc_istore_n [some (mvR 68), some (mvI r3), some (mvI 0), none] mq250 (mvDec_of cd250 rfl) rfl ?_
  exact H
theorem MD_mixCuts_11_wp {sw : Bool} {g : Nat → Nat → Nat} {h : Nat → Int → Int} {l1 : Int} {l2 : Int} {u3 : Option Int} {K : (Nat → Int → Int) → Prop} (hG : Gok sw g)  (H :
  MD_eventsAll g h (fun r2 h1 =>
    ((r2 < l2 →
      MD_mixCuts_64 g h1 (some l1) 0 u3 K) ∧
    (l2 ≤ r2 →
      MD_mixCuts_21 g h1 l1 l2 0 K)))) : MD_mixCuts_11 g h l1 l2 u3 K := by
  refine rc_iload_n mq250 (mvDec_of cd250 rfl) rfl ?_
  refine rc_aload_n mq250 (mvDec_of cd250 rfl) rfl ?_
  refine rc_callV [mvR 68] [mvI l2] [some (mvR 68), none, none] mq250 (mvDec_of cd250 rfl) lk_10_173 mq46 (by decide) rfl rfl (Nat.le_of_ble_eq_true rfl) (Nat.le_of_ble_eq_true rfl) (by decide) rfl mis68 rfl (ri_bind H (fun r2 h1 H => ?_))
  refine rc_icmp_gt (t := 62) mq250 (mvDec_of cd250 rfl) rfl (fun hc => ?_) (fun hc => ?_)
  · replace H := H.1 hc
    refine rc_iconst mq250 (mvDec_of cd250 rfl) (by decide) ?_
    refine rc_istore_n [some (mvR 68), some (mvI l1), some (mvI 0), u3.map mvI] mq250 (mvDec_of cd250 rfl) rfl ?_
    exact H
  · replace H := H.2 hc
    refine rc_iconst mq250 (mvDec_of cd250 rfl) (by decide) ?_
    refine rc_istore_n [some (mvR 68), some (mvI l1), some (mvI l2), some (mvI 0)] mq250 (mvDec_of cd250 rfl) rfl ?_
    exact H
theorem MD_mixCuts_21_wp {sw : Bool} {g : Nat → Nat → Nat} {h : Nat → Int → Int} {l1 : Int} {l2 : Int} {l3 : Int} {K : (Nat → Int → Int) → Prop} (hG : Gok sw g)  (H :
  ((l1 ≤ l3 →
    MD_mixCuts_11 g h l1 (mw (l2 + 1)) (some l3) K) ∧
  (l3 < l1 →
    (0 ≤ l3 ∧ l3 < 640) ∧
    (((h 82 l3) = 0 →
      MD_mixCuts_21 g h l1 l2 (mw (l3 + 1)) K) ∧
    (¬ (h 82 l3) = 0 →
      (0 ≤ l3 ∧ l3 < 640) ∧
      ((¬ (h 87 l3) = l2 →
        MD_mixCuts_21 g h l1 l2 (mw (l3 + 1)) K) ∧
      ((h 87 l3) = l2 →
        MD_mixCut g h l3 (fun h1 =>
          MD_mixCuts_21 g h1 l1 l2 (mw (l3 + 1)) K)))))))) : MD_mixCuts_21 g h l1 l2 l3 K := by
  refine rc_iload_n mq250 (mvDec_of cd250 rfl) rfl ?_
  refine rc_iload_n mq250 (mvDec_of cd250 rfl) rfl ?_
  refine rc_icmp_ge (t := 56) mq250 (mvDec_of cd250 rfl) rfl (fun hc => ?_) (fun hc => ?_)
  · replace H := H.1 hc
    refine rc_iinc [some (mvR 68), some (mvI l1), some (mvI (mw (l2 + 1))), some (mvI l3)] mq250 (mvDec_of cd250 rfl) rfl rfl ?_
    refine rc_goto (t := 11) mq250 (mvDec_of cd250 rfl) rfl ?_
    exact H
  · replace H := H.2 hc
    refine rc_aload_n mq250 (mvDec_of cd250 rfl) rfl ?_
    refine rc_getR 82 mq250 (mvDec_of cd250 rfl) fl_10_49 mis68 rfl (gr_68_27 hG) (by decide) ?_
    refine rc_iload_n mq250 (mvDec_of cd250 rfl) rfl ?_
    obtain ⟨⟨hb0, hb1⟩, H⟩ := H
    refine rc_bald mq250 (mvDec_of cd250 rfl) mis82 hb0 hb1 ?_
    refine rc_if_eq (t := 50) mq250 (mvDec_of cd250 rfl) rfl (fun hc => ?_) (fun hc => ?_)
    · replace H := H.1 hc
      refine rc_iinc [some (mvR 68), some (mvI l1), some (mvI l2), some (mvI (mw (l3 + 1)))] mq250 (mvDec_of cd250 rfl) rfl rfl ?_
      refine rc_goto (t := 21) mq250 (mvDec_of cd250 rfl) rfl ?_
      exact H
    · replace H := H.2 hc
      refine rc_aload_n mq250 (mvDec_of cd250 rfl) rfl ?_
      refine rc_getR 87 mq250 (mvDec_of cd250 rfl) fl_10_65 mis68 rfl (gr_68_32 hG) (by decide) ?_
      refine rc_iload_n mq250 (mvDec_of cd250 rfl) rfl ?_
      obtain ⟨⟨hb0, hb1⟩, H⟩ := H
      refine rc_iald mq250 (mvDec_of cd250 rfl) mis87 hb0 hb1 ?_
      refine rc_iload_n mq250 (mvDec_of cd250 rfl) rfl ?_
      refine rc_icmp_ne (t := 50) mq250 (mvDec_of cd250 rfl) rfl (fun hc => ?_) (fun hc => ?_)
      · replace H := H.1 hc
        refine rc_iinc [some (mvR 68), some (mvI l1), some (mvI l2), some (mvI (mw (l3 + 1)))] mq250 (mvDec_of cd250 rfl) rfl rfl ?_
        refine rc_goto (t := 21) mq250 (mvDec_of cd250 rfl) rfl ?_
        exact H
      · replace H := H.2 hc
        refine rc_aload_n mq250 (mvDec_of cd250 rfl) rfl ?_
        refine rc_iload_n mq250 (mvDec_of cd250 rfl) rfl ?_
        refine rc_callV [mvR 68, mvI l3] [] [some (mvR 68), some (mvI l3)] mq250 (mvDec_of cd250 rfl) lk_10_411 mq198 (by decide) rfl rfl (Nat.le_of_ble_eq_true rfl) (Nat.le_of_ble_eq_true rfl) (by decide) rfl mis68 rfl (rv_bind H (fun h1 H => ?_))
        refine rc_iinc [some (mvR 68), some (mvI l1), some (mvI l2), some (mvI (mw (l3 + 1)))] mq250 (mvDec_of cd250 rfl) rfl rfl ?_
        refine rc_goto (t := 21) mq250 (mvDec_of cd250 rfl) rfl ?_
        exact H
theorem MD_mixCuts_64_wp {sw : Bool} {g : Nat → Nat → Nat} {h : Nat → Int → Int} {u1 : Option Int} {l2 : Int} {u3 : Option Int} {K : (Nat → Int → Int) → Prop} (hG : Gok sw g)  (H :
  ((4 ≤ l2 →
    MD_mixCuts_87 g h u1 0 u3 K) ∧
  (l2 < 4 →
    MD_wishedNow g h l2 (fun r2 h1 =>
      (∀ h3, h3 = mvUpd h1 68 44 (mwl ((mwl (31 * (h1 68 44))) + r2)) →
      MD_mixCuts_64 g h3 u1 (mw (l2 + 1)) u3 K))))) : MD_mixCuts_64 g h u1 l2 u3 K := by
  refine rc_iload_n mq250 (mvDec_of cd250 rfl) rfl ?_
  refine rc_iconst mq250 (mvDec_of cd250 rfl) (by decide) ?_
  refine rc_icmp_ge (t := 85) mq250 (mvDec_of cd250 rfl) rfl (fun hc => ?_) (fun hc => ?_)
  · replace H := H.1 hc
    refine rc_iconst mq250 (mvDec_of cd250 rfl) (by decide) ?_
    refine rc_istore_n [some (mvR 68), u1.map mvI, some (mvI 0), u3.map mvI] mq250 (mvDec_of cd250 rfl) (by cases u1 <;> rfl) ?_
    exact H
  · replace H := H.2 hc
    refine rc_aload_n mq250 (mvDec_of cd250 rfl) rfl ?_
    refine rc_aload_n mq250 (mvDec_of cd250 rfl) rfl ?_
    refine rc_iload_n mq250 (mvDec_of cd250 rfl) rfl ?_
    refine rc_callV [mvR 68, mvI l2] [mvR 68] [some (mvR 68), some (mvI l2)] mq250 (mvDec_of cd250 rfl) lk_10_302 mq228 (by decide) rfl rfl (Nat.le_of_ble_eq_true rfl) (Nat.le_of_ble_eq_true rfl) (by decide) rfl mis68 rfl (ri_bind H (fun r2 h1 H => ?_))
    refine rc_i2l mq250 (mvDec_of cd250 rfl) ?_
    refine rc_callV [mvR 68, mvJ r2] [] [some (mvR 68), some (mvJ r2), none] mq250 (mvDec_of cd250 rfl) lk_10_407 mq64 (by decide) rfl rfl (Nat.le_of_ble_eq_true rfl) (Nat.le_of_ble_eq_true rfl) (by decide) rfl mis68 rfl ?_
    refine rc_aload_n mq64 (mvDec_of cd64 rfl) rfl ?_
    refine rc_ldc2 mq64 (mvDec_of cd64 rfl) rfl ?_
    refine rc_aload_n mq64 (mvDec_of cd64 rfl) rfl ?_
    refine rc_getJ 44 mq64 (mvDec_of cd64 rfl) fl_10_404 mis68 rfl (by decide) rfl ?_
    refine rc_lmul mq64 (mvDec_of cd64 rfl) ?_
    refine rc_lload_n mq64 (mvDec_of cd64 rfl) rfl ?_
    refine rc_ladd mq64 (mvDec_of cd64 rfl) ?_
    refine rc_putJ 44 mq64 (mvDec_of cd64 rfl) fl_10_404 mis68 rfl (fun z => absurd z (by decide)) rfl ?_
    refine rc_heap (fun h3 hh => ?_)
    replace H := H h3 hh
    refine rc_vret mq64 (mvDec_of cd64 rfl) ?_
    show Rch 250 79 [some (mvR 68), u1.map mvI, some (mvI l2), u3.map mvI] [] (97, g, h3) _
    refine rc_iinc [some (mvR 68), u1.map mvI, some (mvI (mw (l2 + 1))), u3.map mvI] mq250 (mvDec_of cd250 rfl) rfl (by cases u1 <;> rfl) ?_
    refine rc_goto (t := 64) mq250 (mvDec_of cd250 rfl) rfl ?_
    exact H
theorem MD_mixCuts_87_wp {sw : Bool} {g : Nat → Nat → Nat} {h : Nat → Int → Int} {u1 : Option Int} {l2 : Int} {u3 : Option Int} {K : (Nat → Int → Int) → Prop} (hG : Gok sw g)  (H :
  MD_eventsAll g h (fun r2 h1 =>
    ((r2 ≤ l2 →
      K h1) ∧
    (l2 < r2 →
      (((h1 86 0) = 0 →
        K h1) ∧
      (¬ (h1 86 0) = 0 →
        MD_aroundNow g h1 l2 (fun r4 h3 =>
          (∀ h5, h5 = mvUpd h3 68 44 (mwl ((mwl (31 * (h3 68 44))) + r4)) →
          MD_mixCuts_87 g h5 u1 (mw (l2 + 1)) u3 K)))))))) : MD_mixCuts_87 g h u1 l2 u3 K := by
  refine rc_iload_n mq250 (mvDec_of cd250 rfl) rfl ?_
  refine rc_aload_n mq250 (mvDec_of cd250 rfl) rfl ?_
  refine rc_callV [mvR 68] [mvI l2] [some (mvR 68), none, none] mq250 (mvDec_of cd250 rfl) lk_10_173 mq46 (by decide) rfl rfl (Nat.le_of_ble_eq_true rfl) (Nat.le_of_ble_eq_true rfl) (by decide) rfl mis68 rfl (ri_bind H (fun r2 h1 H => ?_))
  refine rc_icmp_ge (t := 120) mq250 (mvDec_of cd250 rfl) rfl (fun hc => ?_) (fun hc => ?_)
  · replace H := H.1 hc
    exact rc_vret mq250 (mvDec_of cd250 rfl) ⟨_, rfl, rfl, H⟩
  · replace H := H.2 hc
    refine rc_aload_n mq250 (mvDec_of cd250 rfl) rfl ?_
    refine rc_getR 86 mq250 (mvDec_of cd250 rfl) fl_10_62 mis68 rfl (gr_68_31 hG) (by decide) ?_
    refine rc_iconst mq250 (mvDec_of cd250 rfl) (by decide) ?_
    refine rc_bald mq250 (mvDec_of cd250 rfl) mis86 (by decide) (by decide) ?_
    refine rc_if_eq (t := 120) mq250 (mvDec_of cd250 rfl) rfl (fun hc => ?_) (fun hc => ?_)
    · replace H := H.1 hc
      exact rc_vret mq250 (mvDec_of cd250 rfl) ⟨_, rfl, rfl, H⟩
    · replace H := H.2 hc
      refine rc_aload_n mq250 (mvDec_of cd250 rfl) rfl ?_
      refine rc_aload_n mq250 (mvDec_of cd250 rfl) rfl ?_
      refine rc_iload_n mq250 (mvDec_of cd250 rfl) rfl ?_
      refine rc_callV [mvR 68, mvI l2] [mvR 68] [some (mvR 68), some (mvI l2), none, none, none] mq250 (mvDec_of cd250 rfl) lk_10_305 mq172 (by decide) rfl rfl (Nat.le_of_ble_eq_true rfl) (Nat.le_of_ble_eq_true rfl) (by decide) rfl mis68 rfl (ri_bind H (fun r4 h3 H => ?_))
      refine rc_i2l mq250 (mvDec_of cd250 rfl) ?_
      refine rc_callV [mvR 68, mvJ r4] [] [some (mvR 68), some (mvJ r4), none] mq250 (mvDec_of cd250 rfl) lk_10_407 mq64 (by decide) rfl rfl (Nat.le_of_ble_eq_true rfl) (Nat.le_of_ble_eq_true rfl) (by decide) rfl mis68 rfl ?_
      refine rc_aload_n mq64 (mvDec_of cd64 rfl) rfl ?_
      refine rc_ldc2 mq64 (mvDec_of cd64 rfl) rfl ?_
      refine rc_aload_n mq64 (mvDec_of cd64 rfl) rfl ?_
      refine rc_getJ 44 mq64 (mvDec_of cd64 rfl) fl_10_404 mis68 rfl (by decide) rfl ?_
      refine rc_lmul mq64 (mvDec_of cd64 rfl) ?_
      refine rc_lload_n mq64 (mvDec_of cd64 rfl) rfl ?_
      refine rc_ladd mq64 (mvDec_of cd64 rfl) ?_
      refine rc_putJ 44 mq64 (mvDec_of cd64 rfl) fl_10_404 mis68 rfl (fun z => absurd z (by decide)) rfl ?_
      refine rc_heap (fun h5 hh => ?_)
      replace H := H h5 hh
      refine rc_vret mq64 (mvDec_of cd64 rfl) ?_
      show Rch 250 114 [some (mvR 68), u1.map mvI, some (mvI l2), u3.map mvI] [] (97, g, h5) _
      refine rc_iinc [some (mvR 68), u1.map mvI, some (mvI (mw (l2 + 1))), u3.map mvI] mq250 (mvDec_of cd250 rfl) rfl (by cases u1 <;> rfl) ?_
      refine rc_goto (t := 87) mq250 (mvDec_of cd250 rfl) rfl ?_
      exact H
abbrev MD_mixAll (g : Nat → Nat → Nat) (h : Nat → Int → Int)  (K : (Nat → Int → Int) → Prop) : Prop := RV 251 0 [some (mvR 68), none, none, none] [] g h K
abbrev MD_mixAll_20 (g : Nat → Nat → Nat) (h : Nat → Int → Int) (l1 : Int) (u2 : Option Int) (u3 : Option Int) (K : (Nat → Int → Int) → Prop) : Prop := RV 251 20 [some (mvR 68), some (mvI l1), u2.map mvI, u3.map mvI] [] g h K
abbrev MD_mixAll_36 (g : Nat → Nat → Nat) (h : Nat → Int → Int) (l1 : Int) (l2 : Int) (l3 : Int) (K : (Nat → Int → Int) → Prop) : Prop := RV 251 36 [some (mvR 68), some (mvI l1), some (mvI l2), some (mvI l3)] [] g h K
abbrev MD_mixAll_82 (g : Nat → Nat → Nat) (h : Nat → Int → Int) (l1 : Int) (u2 : Option Int) (u3 : Option Int) (K : (Nat → Int → Int) → Prop) : Prop := RV 251 82 [some (mvR 68), some (mvI l1), u2.map mvI, u3.map mvI] [] g h K
theorem MD_mixAll_wp {sw : Bool} {g : Nat → Nat → Nat} {h : Nat → Int → Int}  {K : (Nat → Int → Int) → Prop} (hG : Gok sw g)  (H :
  MD_leastNow g h (fun r2 h1 =>
    (∀ h3, h3 = mvUpd h1 68 44 (mwl ((mwl (31 * (h1 68 44))) + r2)) →
    MD_strongNow g h3 (fun r5 h4 =>
      (∀ h6, h6 = mvUpd h4 68 44 (mwl ((mwl (31 * (h4 68 44))) + r5)) →
      MD_mixAll_20 g h6 0 none none K))))) : MD_mixAll g h  K := by
  refine rc_aload_n mq251 (mvDec_of cd251 rfl) rfl ?_
  refine rc_aload_n mq251 (mvDec_of cd251 rfl) rfl ?_
  refine rc_callV [mvR 68] [mvR 68] [some (mvR 68), none, none] mq251 (mvDec_of cd251 rfl) lk_10_311 mq230 (by decide) rfl rfl (Nat.le_of_ble_eq_true rfl) (Nat.le_of_ble_eq_true rfl) (by decide) rfl mis68 rfl (ri_bind H (fun r2 h1 H => ?_))
  refine rc_i2l mq251 (mvDec_of cd251 rfl) ?_
  refine rc_callV [mvR 68, mvJ r2] [] [some (mvR 68), some (mvJ r2), none] mq251 (mvDec_of cd251 rfl) lk_10_407 mq64 (by decide) rfl rfl (Nat.le_of_ble_eq_true rfl) (Nat.le_of_ble_eq_true rfl) (by decide) rfl mis68 rfl ?_
  refine rc_aload_n mq64 (mvDec_of cd64 rfl) rfl ?_
  refine rc_ldc2 mq64 (mvDec_of cd64 rfl) rfl ?_
  refine rc_aload_n mq64 (mvDec_of cd64 rfl) rfl ?_
  refine rc_getJ 44 mq64 (mvDec_of cd64 rfl) fl_10_404 mis68 rfl (by decide) rfl ?_
  refine rc_lmul mq64 (mvDec_of cd64 rfl) ?_
  refine rc_lload_n mq64 (mvDec_of cd64 rfl) rfl ?_
  refine rc_ladd mq64 (mvDec_of cd64 rfl) ?_
  refine rc_putJ 44 mq64 (mvDec_of cd64 rfl) fl_10_404 mis68 rfl (fun z => absurd z (by decide)) rfl ?_
  refine rc_heap (fun h3 hh => ?_)
  replace H := H h3 hh
  refine rc_vret mq64 (mvDec_of cd64 rfl) ?_
  show Rch 251 9 [some (mvR 68), none, none, none] [] (97, g, h3) _
  refine rc_aload_n mq251 (mvDec_of cd251 rfl) rfl ?_
  refine rc_aload_n mq251 (mvDec_of cd251 rfl) rfl ?_
  refine rc_callV [mvR 68] [mvR 68] [some (mvR 68), none, none, none, none, none] mq251 (mvDec_of cd251 rfl) lk_10_326 mq214 (by decide) rfl rfl (Nat.le_of_ble_eq_true rfl) (Nat.le_of_ble_eq_true rfl) (by decide) rfl mis68 rfl (ri_bind H (fun r5 h4 H => ?_))
  refine rc_i2l mq251 (mvDec_of cd251 rfl) ?_
  refine rc_callV [mvR 68, mvJ r5] [] [some (mvR 68), some (mvJ r5), none] mq251 (mvDec_of cd251 rfl) lk_10_407 mq64 (by decide) rfl rfl (Nat.le_of_ble_eq_true rfl) (Nat.le_of_ble_eq_true rfl) (by decide) rfl mis68 rfl ?_
  refine rc_aload_n mq64 (mvDec_of cd64 rfl) rfl ?_
  refine rc_ldc2 mq64 (mvDec_of cd64 rfl) rfl ?_
  refine rc_aload_n mq64 (mvDec_of cd64 rfl) rfl ?_
  refine rc_getJ 44 mq64 (mvDec_of cd64 rfl) fl_10_404 mis68 rfl (by decide) rfl ?_
  refine rc_lmul mq64 (mvDec_of cd64 rfl) ?_
  refine rc_lload_n mq64 (mvDec_of cd64 rfl) rfl ?_
  refine rc_ladd mq64 (mvDec_of cd64 rfl) ?_
  refine rc_putJ 44 mq64 (mvDec_of cd64 rfl) fl_10_404 mis68 rfl (fun z => absurd z (by decide)) rfl ?_
  refine rc_heap (fun h6 hh => ?_)
  replace H := H h6 hh
  refine rc_vret mq64 (mvDec_of cd64 rfl) ?_
  show Rch 251 18 [some (mvR 68), none, none, none] [] (97, g, h6) _
  refine rc_iconst mq251 (mvDec_of cd251 rfl) (by decide) ?_
  refine rc_istore_n [some (mvR 68), some (mvI 0), none, none] mq251 (mvDec_of cd251 rfl) rfl ?_
  exact H
theorem MD_mixAll_20_wp {sw : Bool} {g : Nat → Nat → Nat} {h : Nat → Int → Int} {l1 : Int} {u2 : Option Int} {u3 : Option Int} {K : (Nat → Int → Int) → Prop} (hG : Gok sw g)  (H :
  (((h 68 0) ≤ l1 →
    MD_mixAll_82 g h 0 u2 u3 K) ∧
  (l1 < (h 68 0) →
    MD_intervals g h l1 (fun r2 h1 =>
      MD_mixAll_36 g h1 l1 r2 0 K)))) : MD_mixAll_20 g h l1 u2 u3 K := by
  refine rc_iload_n mq251 (mvDec_of cd251 rfl) rfl ?_
  refine rc_aload_n mq251 (mvDec_of cd251 rfl) rfl ?_
  refine rc_getI 0 mq251 (mvDec_of cd251 rfl) fl_10_138 mis68 rfl (by decide) (by decide) ?_
  refine rc_icmp_ge (t := 80) mq251 (mvDec_of cd251 rfl) rfl (fun hc => ?_) (fun hc => ?_)
  · replace H := H.1 hc
    refine rc_iconst mq251 (mvDec_of cd251 rfl) (by decide) ?_
    refine rc_istore_n [some (mvR 68), some (mvI 0), u2.map mvI, u3.map mvI] mq251 (mvDec_of cd251 rfl) rfl ?_
    exact H
  · replace H := H.2 hc
    refine rc_aload_n mq251 (mvDec_of cd251 rfl) rfl ?_
    refine rc_iload_n mq251 (mvDec_of cd251 rfl) rfl ?_
    refine rc_callV [mvR 68, mvI l1] [] [some (mvR 68), some (mvI l1), none] mq251 (mvDec_of cd251 rfl) lk_10_320 mq193 (by decide) rfl rfl (Nat.le_of_ble_eq_true rfl) (Nat.le_of_ble_eq_true rfl) (by decide) rfl mis68 rfl (ri_bind H (fun r2 h1 H => ?_))
    refine rc_istore_n [some (mvR 68), some (mvI l1), some (mvI r2), u3.map mvI] mq251 (mvDec_of cd251 rfl) rfl ?_
    refine rc_iconst mq251 (mvDec_of cd251 rfl) (by decide) ?_
    refine rc_istore_n [some (mvR 68), some (mvI l1), some (mvI r2), some (mvI 0)] mq251 (mvDec_of cd251 rfl) rfl ?_
    exact H
theorem MD_mixAll_36_wp {sw : Bool} {g : Nat → Nat → Nat} {h : Nat → Int → Int} {l1 : Int} {l2 : Int} {l3 : Int} {K : (Nat → Int → Int) → Prop} (hG : Gok sw g)  (H :
  ((l2 ≤ l3 →
    MD_mixAll_20 g h (mw (l1 + 1)) (some l2) (some l3) K) ∧
  (l3 < l2 →
    MD_beginOf g h l1 l3 (fun r2 h1 =>
      (∀ h3, h3 = mvUpd h1 68 44 (mwl ((mwl (31 * (h1 68 44))) + r2)) →
      MD_beginOf g h3 l1 l3 (fun r5 h4 =>
        MD_endOf g h4 l1 r5 (fun r7 h6 =>
          (∀ h8, h8 = mvUpd h6 68 44 (mwl ((mwl (31 * (h6 68 44))) + r7)) →
          MD_mixAll_36 g h8 l1 l2 (mw (l3 + 1)) K)))))))) : MD_mixAll_36 g h l1 l2 l3 K := by
  refine rc_iload_n mq251 (mvDec_of cd251 rfl) rfl ?_
  refine rc_iload_n mq251 (mvDec_of cd251 rfl) rfl ?_
  refine rc_icmp_ge (t := 74) mq251 (mvDec_of cd251 rfl) rfl (fun hc => ?_) (fun hc => ?_)
  · replace H := H.1 hc
    refine rc_iinc [some (mvR 68), some (mvI (mw (l1 + 1))), some (mvI l2), some (mvI l3)] mq251 (mvDec_of cd251 rfl) rfl rfl ?_
    refine rc_goto (t := 20) mq251 (mvDec_of cd251 rfl) rfl ?_
    exact H
  · replace H := H.2 hc
    refine rc_aload_n mq251 (mvDec_of cd251 rfl) rfl ?_
    refine rc_aload_n mq251 (mvDec_of cd251 rfl) rfl ?_
    refine rc_iload_n mq251 (mvDec_of cd251 rfl) rfl ?_
    refine rc_iload_n mq251 (mvDec_of cd251 rfl) rfl ?_
    refine rc_callV [mvR 68, mvI l1, mvI l3] [mvR 68] [some (mvR 68), some (mvI l1), some (mvI l3), none, none, none] mq251 (mvDec_of cd251 rfl) lk_10_314 mq173 (by decide) rfl rfl (Nat.le_of_ble_eq_true rfl) (Nat.le_of_ble_eq_true rfl) (by decide) rfl mis68 rfl (ri_bind H (fun r2 h1 H => ?_))
    refine rc_i2l mq251 (mvDec_of cd251 rfl) ?_
    refine rc_callV [mvR 68, mvJ r2] [] [some (mvR 68), some (mvJ r2), none] mq251 (mvDec_of cd251 rfl) lk_10_407 mq64 (by decide) rfl rfl (Nat.le_of_ble_eq_true rfl) (Nat.le_of_ble_eq_true rfl) (by decide) rfl mis68 rfl ?_
    refine rc_aload_n mq64 (mvDec_of cd64 rfl) rfl ?_
    refine rc_ldc2 mq64 (mvDec_of cd64 rfl) rfl ?_
    refine rc_aload_n mq64 (mvDec_of cd64 rfl) rfl ?_
    refine rc_getJ 44 mq64 (mvDec_of cd64 rfl) fl_10_404 mis68 rfl (by decide) rfl ?_
    refine rc_lmul mq64 (mvDec_of cd64 rfl) ?_
    refine rc_lload_n mq64 (mvDec_of cd64 rfl) rfl ?_
    refine rc_ladd mq64 (mvDec_of cd64 rfl) ?_
    refine rc_putJ 44 mq64 (mvDec_of cd64 rfl) fl_10_404 mis68 rfl (fun z => absurd z (by decide)) rfl ?_
    refine rc_heap (fun h3 hh => ?_)
    replace H := H h3 hh
    refine rc_vret mq64 (mvDec_of cd64 rfl) ?_
    show Rch 251 52 [some (mvR 68), some (mvI l1), some (mvI l2), some (mvI l3)] [] (97, g, h3) _
    refine rc_aload_n mq251 (mvDec_of cd251 rfl) rfl ?_
    refine rc_aload_n mq251 (mvDec_of cd251 rfl) rfl ?_
    refine rc_iload_n mq251 (mvDec_of cd251 rfl) rfl ?_
    refine rc_aload_n mq251 (mvDec_of cd251 rfl) rfl ?_
    refine rc_iload_n mq251 (mvDec_of cd251 rfl) rfl ?_
    refine rc_iload_n mq251 (mvDec_of cd251 rfl) rfl ?_
    refine rc_callV [mvR 68, mvI l1, mvI l3] [mvI l1, mvR 68, mvR 68] [some (mvR 68), some (mvI l1), some (mvI l3), none, none, none] mq251 (mvDec_of cd251 rfl) lk_10_314 mq173 (by decide) rfl rfl (Nat.le_of_ble_eq_true rfl) (Nat.le_of_ble_eq_true rfl) (by decide) rfl mis68 rfl (ri_bind H (fun r5 h4 H => ?_))
    refine rc_callV [mvR 68, mvI l1, mvI r5] [mvR 68] [some (mvR 68), some (mvI l1), some (mvI r5), none] mq251 (mvDec_of cd251 rfl) lk_10_317 mq174 (by decide) rfl rfl (Nat.le_of_ble_eq_true rfl) (Nat.le_of_ble_eq_true rfl) (by decide) rfl mis68 rfl (ri_bind H (fun r7 h6 H => ?_))
    refine rc_i2l mq251 (mvDec_of cd251 rfl) ?_
    refine rc_callV [mvR 68, mvJ r7] [] [some (mvR 68), some (mvJ r7), none] mq251 (mvDec_of cd251 rfl) lk_10_407 mq64 (by decide) rfl rfl (Nat.le_of_ble_eq_true rfl) (Nat.le_of_ble_eq_true rfl) (by decide) rfl mis68 rfl ?_
    refine rc_aload_n mq64 (mvDec_of cd64 rfl) rfl ?_
    refine rc_ldc2 mq64 (mvDec_of cd64 rfl) rfl ?_
    refine rc_aload_n mq64 (mvDec_of cd64 rfl) rfl ?_
    refine rc_getJ 44 mq64 (mvDec_of cd64 rfl) fl_10_404 mis68 rfl (by decide) rfl ?_
    refine rc_lmul mq64 (mvDec_of cd64 rfl) ?_
    refine rc_lload_n mq64 (mvDec_of cd64 rfl) rfl ?_
    refine rc_ladd mq64 (mvDec_of cd64 rfl) ?_
    refine rc_putJ 44 mq64 (mvDec_of cd64 rfl) fl_10_404 mis68 rfl (fun z => absurd z (by decide)) rfl ?_
    refine rc_heap (fun h8 hh => ?_)
    replace H := H h8 hh
    refine rc_vret mq64 (mvDec_of cd64 rfl) ?_
    show Rch 251 68 [some (mvR 68), some (mvI l1), some (mvI l2), some (mvI l3)] [] (97, g, h8) _
    refine rc_iinc [some (mvR 68), some (mvI l1), some (mvI l2), some (mvI (mw (l3 + 1)))] mq251 (mvDec_of cd251 rfl) rfl rfl ?_
    refine rc_goto (t := 36) mq251 (mvDec_of cd251 rfl) rfl ?_
    exact H
theorem MD_mixAll_82_wp {sw : Bool} {g : Nat → Nat → Nat} {h : Nat → Int → Int} {l1 : Int} {u2 : Option Int} {u3 : Option Int} {K : (Nat → Int → Int) → Prop} (hG : Gok sw g)  (H :
  ((4 ≤ l1 →
    K h) ∧
  (l1 < 4 →
    MD_leanNow g h l1 (fun r2 h1 =>
      (∀ h3, h3 = mvUpd h1 68 44 (mwl ((mwl (31 * (h1 68 44))) + r2)) →
      MD_mixAll_82 g h3 (mw (l1 + 1)) u2 u3 K))))) : MD_mixAll_82 g h l1 u2 u3 K := by
  refine rc_iload_n mq251 (mvDec_of cd251 rfl) rfl ?_
  refine rc_iconst mq251 (mvDec_of cd251 rfl) (by decide) ?_
  refine rc_icmp_ge (t := 103) mq251 (mvDec_of cd251 rfl) rfl (fun hc => ?_) (fun hc => ?_)
  · replace H := H.1 hc
    exact rc_vret mq251 (mvDec_of cd251 rfl) ⟨_, rfl, rfl, H⟩
  · replace H := H.2 hc
    refine rc_aload_n mq251 (mvDec_of cd251 rfl) rfl ?_
    refine rc_aload_n mq251 (mvDec_of cd251 rfl) rfl ?_
    refine rc_iload_n mq251 (mvDec_of cd251 rfl) rfl ?_
    refine rc_callV [mvR 68, mvI l1] [mvR 68] [some (mvR 68), some (mvI l1), none] mq251 (mvDec_of cd251 rfl) lk_10_338 mq232 (by decide) rfl rfl (Nat.le_of_ble_eq_true rfl) (Nat.le_of_ble_eq_true rfl) (by decide) rfl mis68 rfl (ri_bind H (fun r2 h1 H => ?_))
    refine rc_i2l mq251 (mvDec_of cd251 rfl) ?_
    refine rc_callV [mvR 68, mvJ r2] [] [some (mvR 68), some (mvJ r2), none] mq251 (mvDec_of cd251 rfl) lk_10_407 mq64 (by decide) rfl rfl (Nat.le_of_ble_eq_true rfl) (Nat.le_of_ble_eq_true rfl) (by decide) rfl mis68 rfl ?_
    refine rc_aload_n mq64 (mvDec_of cd64 rfl) rfl ?_
    refine rc_ldc2 mq64 (mvDec_of cd64 rfl) rfl ?_
    refine rc_aload_n mq64 (mvDec_of cd64 rfl) rfl ?_
    refine rc_getJ 44 mq64 (mvDec_of cd64 rfl) fl_10_404 mis68 rfl (by decide) rfl ?_
    refine rc_lmul mq64 (mvDec_of cd64 rfl) ?_
    refine rc_lload_n mq64 (mvDec_of cd64 rfl) rfl ?_
    refine rc_ladd mq64 (mvDec_of cd64 rfl) ?_
    refine rc_putJ 44 mq64 (mvDec_of cd64 rfl) fl_10_404 mis68 rfl (fun z => absurd z (by decide)) rfl ?_
    refine rc_heap (fun h3 hh => ?_)
    replace H := H h3 hh
    refine rc_vret mq64 (mvDec_of cd64 rfl) ?_
    show Rch 251 97 [some (mvR 68), some (mvI l1), u2.map mvI, u3.map mvI] [] (97, g, h3) _
    refine rc_iinc [some (mvR 68), some (mvI (mw (l1 + 1))), u2.map mvI, u3.map mvI] mq251 (mvDec_of cd251 rfl) rfl rfl ?_
    refine rc_goto (t := 82) mq251 (mvDec_of cd251 rfl) rfl ?_
    exact H
abbrev MD_cut (g : Nat → Nat → Nat) (h : Nat → Int → Int) (x1 : Int) (x2 : Int) (K : Int → (Nat → Int → Int) → Prop) : Prop := RI 253 0 [some (mvR 68), some (mvI x1), some (mvI x2)] [] g h K
theorem MD_cut_wp {sw : Bool} {g : Nat → Nat → Nat} {h : Nat → Int → Int} {x1 : Int} {x2 : Int} {K : Int → (Nat → Int → Int) → Prop} (hG : Gok sw g)  (H :
  (((h 68 0) ≤ 0 →
    K (-103) h) ∧
  (0 < (h 68 0) →
    MD_takesTold g h x1 (fun r2 h1 =>
      ((¬ r2 = 0 →
        ((x2 < 0 →
          K (-102) h1) ∧
        (0 ≤ x2 →
          ((5 < x2 →
            K (-102) h1) ∧
          (x2 ≤ 5 →
            ((x2 ≤ 1 →
              MD_cutNow g h1 x2 (fun r4 h3 =>
                K r4 h3)) ∧
            (1 < x2 →
              MD_isConsistent g h1 (fun r6 h5 =>
                ((¬ r6 = 0 →
                  MD_cutNow g h5 x2 (fun r8 h7 =>
                    K r8 h7)) ∧
                (r6 = 0 →
                  K (-103) h5)))))))))) ∧
      (r2 = 0 →
        K (-101) h1)))))) : MD_cut g h x1 x2 K := by
  refine rc_aload_n mq253 (mvDec_of cd253 rfl) rfl ?_
  refine rc_callV [mvR 68] [] [some (mvR 68)] mq253 (mvDec_of cd253 rfl) lk_10_262 mq43 (by decide) rfl rfl (Nat.le_of_ble_eq_true rfl) (Nat.le_of_ble_eq_true rfl) (by decide) rfl mis68 rfl ?_
  refine rc_aload_n mq43 (mvDec_of cd43 rfl) rfl ?_
  refine rc_getI 0 mq43 (mvDec_of cd43 rfl) fl_10_138 mis68 rfl (by decide) (by decide) ?_
  refine rc_if_le (t := 11) mq43 (mvDec_of cd43 rfl) rfl (fun hc => ?_) (fun hc => ?_)
  · replace H := H.1 hc
    refine rc_iconst mq43 (mvDec_of cd43 rfl) (by decide) ?_
    refine rc_zret mq43 (mvDec_of cd43 rfl) (Or.inl rfl) ?_
    show Rch 253 4 [some (mvR 68), some (mvI x1), some (mvI x2)] [mvI 0] (97, g, h) _
    refine rc_ifF (t := 10) mq253 (mvDec_of cd253 rfl) rfl rfl ?_
    refine rc_bipush mq253 (mvDec_of cd253 rfl) (by decide) ?_
    exact rc_iret mq253 (mvDec_of cd253 rfl) ⟨_, _, rfl, rfl, H⟩
  · replace H := H.2 hc
    refine rc_iconst mq43 (mvDec_of cd43 rfl) (by decide) ?_
    refine rc_goto (t := 12) mq43 (mvDec_of cd43 rfl) rfl ?_
    refine rc_zret mq43 (mvDec_of cd43 rfl) (Or.inr rfl) ?_
    show Rch 253 4 [some (mvR 68), some (mvI x1), some (mvI x2)] [mvI 1] (97, g, h) _
    refine rc_ifT (t := 10) mq253 (mvDec_of cd253 rfl) rfl rfl ?_
    refine rc_aload_n mq253 (mvDec_of cd253 rfl) rfl ?_
    refine rc_iload_n mq253 (mvDec_of cd253 rfl) rfl ?_
    refine rc_callV [mvR 68, mvI x1] [] [some (mvR 68), some (mvI x1), none, none, none] mq253 (mvDec_of cd253 rfl) lk_10_265 mq54 (by decide) rfl rfl (Nat.le_of_ble_eq_true rfl) (Nat.le_of_ble_eq_true rfl) (by decide) rfl mis68 rfl (ri_bind H (fun r2 h1 H => ?_))
    refine rc_if_ne (t := 21) mq253 (mvDec_of cd253 rfl) rfl (fun hc => ?_) (fun hc => ?_)
    · replace H := H.1 hc
      refine rc_iload_n mq253 (mvDec_of cd253 rfl) rfl ?_
      refine rc_iconst mq253 (mvDec_of cd253 rfl) (by decide) ?_
      refine rc_iconst mq253 (mvDec_of cd253 rfl) (by decide) ?_
      refine rc_callS [mvI x2, mvI 0, mvI 5] [] [some (mvI x2), some (mvI 0), some (mvI 5)] mq253 (mvDec_of cd253 rfl) lk_10_95 mq38 (by decide) rfl rfl (Nat.le_of_ble_eq_true rfl) (Nat.le_of_ble_eq_true rfl) (by decide) rfl ?_
      refine rc_iload_n mq38 (mvDec_of cd38 rfl) rfl ?_
      refine rc_iload_n mq38 (mvDec_of cd38 rfl) rfl ?_
      refine rc_icmp_lt (t := 14) mq38 (mvDec_of cd38 rfl) rfl (fun hc => ?_) (fun hc => ?_)
      · replace H := H.1 hc
        refine rc_iconst mq38 (mvDec_of cd38 rfl) (by decide) ?_
        refine rc_zret mq38 (mvDec_of cd38 rfl) (Or.inl rfl) ?_
        show Rch 253 27 [some (mvR 68), some (mvI x1), some (mvI x2)] [mvI 0] (97, g, h1) _
        refine rc_ifF (t := 33) mq253 (mvDec_of cd253 rfl) rfl rfl ?_
        refine rc_bipush mq253 (mvDec_of cd253 rfl) (by decide) ?_
        exact rc_iret mq253 (mvDec_of cd253 rfl) ⟨_, _, rfl, rfl, H⟩
      · replace H := H.2 hc
        refine rc_iload_n mq38 (mvDec_of cd38 rfl) rfl ?_
        refine rc_iload_n mq38 (mvDec_of cd38 rfl) rfl ?_
        refine rc_icmp_gt (t := 14) mq38 (mvDec_of cd38 rfl) rfl (fun hc => ?_) (fun hc => ?_)
        · replace H := H.1 hc
          refine rc_iconst mq38 (mvDec_of cd38 rfl) (by decide) ?_
          refine rc_zret mq38 (mvDec_of cd38 rfl) (Or.inl rfl) ?_
          show Rch 253 27 [some (mvR 68), some (mvI x1), some (mvI x2)] [mvI 0] (97, g, h1) _
          refine rc_ifF (t := 33) mq253 (mvDec_of cd253 rfl) rfl rfl ?_
          refine rc_bipush mq253 (mvDec_of cd253 rfl) (by decide) ?_
          exact rc_iret mq253 (mvDec_of cd253 rfl) ⟨_, _, rfl, rfl, H⟩
        · replace H := H.2 hc
          refine rc_iconst mq38 (mvDec_of cd38 rfl) (by decide) ?_
          refine rc_goto (t := 15) mq38 (mvDec_of cd38 rfl) rfl ?_
          refine rc_zret mq38 (mvDec_of cd38 rfl) (Or.inr rfl) ?_
          show Rch 253 27 [some (mvR 68), some (mvI x1), some (mvI x2)] [mvI 1] (97, g, h1) _
          refine rc_ifT (t := 33) mq253 (mvDec_of cd253 rfl) rfl rfl ?_
          refine rc_iload_n mq253 (mvDec_of cd253 rfl) rfl ?_
          refine rc_iconst mq253 (mvDec_of cd253 rfl) (by decide) ?_
          refine rc_icmp_le (t := 50) mq253 (mvDec_of cd253 rfl) rfl (fun hc => ?_) (fun hc => ?_)
          · replace H := H.1 hc
            refine rc_aload_n mq253 (mvDec_of cd253 rfl) rfl ?_
            refine rc_iload_n mq253 (mvDec_of cd253 rfl) rfl ?_
            refine rc_callV [mvR 68, mvI x2] [] [some (mvR 68), some (mvI x2), none] mq253 (mvDec_of cd253 rfl) lk_10_268 mq243 (by decide) rfl rfl (Nat.le_of_ble_eq_true rfl) (Nat.le_of_ble_eq_true rfl) (by decide) rfl mis68 rfl (ri_bind H (fun r4 h3 H => ?_))
            exact rc_iret mq253 (mvDec_of cd253 rfl) ⟨_, _, rfl, rfl, H⟩
          · replace H := H.2 hc
            refine rc_aload_n mq253 (mvDec_of cd253 rfl) rfl ?_
            refine rc_callV [mvR 68] [] [some (mvR 68), none, none, none] mq253 (mvDec_of cd253 rfl) lk_10_234 mq55 (by decide) rfl rfl (Nat.le_of_ble_eq_true rfl) (Nat.le_of_ble_eq_true rfl) (by decide) rfl mis68 rfl (ri_bind H (fun r6 h5 H => ?_))
            refine rc_if_ne (t := 50) mq253 (mvDec_of cd253 rfl) rfl (fun hc => ?_) (fun hc => ?_)
            · replace H := H.1 hc
              refine rc_aload_n mq253 (mvDec_of cd253 rfl) rfl ?_
              refine rc_iload_n mq253 (mvDec_of cd253 rfl) rfl ?_
              refine rc_callV [mvR 68, mvI x2] [] [some (mvR 68), some (mvI x2), none] mq253 (mvDec_of cd253 rfl) lk_10_268 mq243 (by decide) rfl rfl (Nat.le_of_ble_eq_true rfl) (Nat.le_of_ble_eq_true rfl) (by decide) rfl mis68 rfl (ri_bind H (fun r8 h7 H => ?_))
              exact rc_iret mq253 (mvDec_of cd253 rfl) ⟨_, _, rfl, rfl, H⟩
            · replace H := H.2 hc
              refine rc_bipush mq253 (mvDec_of cd253 rfl) (by decide) ?_
              refine rc_goto (t := 55) mq253 (mvDec_of cd253 rfl) rfl ?_
              exact rc_iret mq253 (mvDec_of cd253 rfl) ⟨_, _, rfl, rfl, H⟩
    · replace H := H.2 hc
      refine rc_bipush mq253 (mvDec_of cd253 rfl) (by decide) ?_
      exact rc_iret mq253 (mvDec_of cd253 rfl) ⟨_, _, rfl, rfl, H⟩
abbrev MD_digest (g : Nat → Nat → Nat) (h : Nat → Int → Int)  (K : Int → (Nat → Int → Int) → Prop) : Prop := RJ 254 0 [some (mvR 68), none] [] g h K
abbrev MD_digest_22 (g : Nat → Nat → Nat) (h : Nat → Int → Int) (u1 : Option Int) (K : Int → (Nat → Int → Int) → Prop) : Prop := RJ 254 22 [some (mvR 68), u1.map mvI] [] g h K
abbrev MD_digest_33 (g : Nat → Nat → Nat) (h : Nat → Int → Int) (u1 : Option Int) (K : Int → (Nat → Int → Int) → Prop) : Prop := RJ 254 33 [some (mvR 68), u1.map mvI] [] g h K
abbrev MD_digest_46 (g : Nat → Nat → Nat) (h : Nat → Int → Int) (l1 : Int) (K : Int → (Nat → Int → Int) → Prop) : Prop := RJ 254 46 [some (mvR 68), some (mvI l1)] [] g h K
abbrev MD_digest_73 (g : Nat → Nat → Nat) (h : Nat → Int → Int) (l1 : Int) (K : Int → (Nat → Int → Int) → Prop) : Prop := RJ 254 73 [some (mvR 68), some (mvI l1)] [] g h K
theorem MD_digest_wp {sw : Bool} {g : Nat → Nat → Nat} {h : Nat → Int → Int}  {K : Int → (Nat → Int → Int) → Prop} (hG : Gok sw g)  (H :
  (∀ h1, h1 = mvUpd h 68 44 1549 →
  (((h1 68 0) ≤ 0 →
    MD_digest_22 g h1 none K) ∧
  (0 < (h1 68 0) →
    MD_mixEvents g h1 (fun h2 =>
      MD_mixCuts g h2 (fun h3 =>
        MD_digest_22 g h3 none K)))))) : MD_digest g h  K := by
  refine rc_aload_n mq254 (mvDec_of cd254 rfl) rfl ?_
  refine rc_ldc2 mq254 (mvDec_of cd254 rfl) rfl ?_
  refine rc_putJ 44 mq254 (mvDec_of cd254 rfl) fl_10_404 mis68 rfl (fun z => absurd z (by decide)) rfl ?_
  refine rc_heap (fun h1 hh => ?_)
  replace H := H h1 hh
  refine rc_aload_n mq254 (mvDec_of cd254 rfl) rfl ?_
  refine rc_callV [mvR 68] [] [some (mvR 68)] mq254 (mvDec_of cd254 rfl) lk_10_262 mq43 (by decide) rfl rfl (Nat.le_of_ble_eq_true rfl) (Nat.le_of_ble_eq_true rfl) (by decide) rfl mis68 rfl ?_
  refine rc_aload_n mq43 (mvDec_of cd43 rfl) rfl ?_
  refine rc_getI 0 mq43 (mvDec_of cd43 rfl) fl_10_138 mis68 rfl (by decide) (by decide) ?_
  refine rc_if_le (t := 11) mq43 (mvDec_of cd43 rfl) rfl (fun hc => ?_) (fun hc => ?_)
  · replace H := H.1 hc
    refine rc_iconst mq43 (mvDec_of cd43 rfl) (by decide) ?_
    refine rc_zret mq43 (mvDec_of cd43 rfl) (Or.inl rfl) ?_
    show Rch 254 11 [some (mvR 68), none] [mvI 0] (97, g, h1) _
    refine rc_ifT (t := 22) mq254 (mvDec_of cd254 rfl) rfl rfl ?_
    exact H
  · replace H := H.2 hc
    refine rc_iconst mq43 (mvDec_of cd43 rfl) (by decide) ?_
    refine rc_goto (t := 12) mq43 (mvDec_of cd43 rfl) rfl ?_
    refine rc_zret mq43 (mvDec_of cd43 rfl) (Or.inr rfl) ?_
    show Rch 254 11 [some (mvR 68), none] [mvI 1] (97, g, h1) _
    refine rc_ifF (t := 22) mq254 (mvDec_of cd254 rfl) rfl rfl ?_
    refine rc_aload_n mq254 (mvDec_of cd254 rfl) rfl ?_
    refine rc_callV [mvR 68] [] [some (mvR 68), none, none] mq254 (mvDec_of cd254 rfl) lk_10_416 mq249 (by decide) rfl rfl (Nat.le_of_ble_eq_true rfl) (Nat.le_of_ble_eq_true rfl) (by decide) rfl mis68 rfl (rv_bind H (fun h2 H => ?_))
    refine rc_aload_n mq254 (mvDec_of cd254 rfl) rfl ?_
    refine rc_callV [mvR 68] [] [some (mvR 68), none, none, none] mq254 (mvDec_of cd254 rfl) lk_10_419 mq250 (by decide) rfl rfl (Nat.le_of_ble_eq_true rfl) (Nat.le_of_ble_eq_true rfl) (by decide) rfl mis68 rfl (rv_bind H (fun h3 H => ?_))
    exact H
theorem MD_digest_22_wp {sw : Bool} {g : Nat → Nat → Nat} {h : Nat → Int → Int} {u1 : Option Int} {K : Int → (Nat → Int → Int) → Prop} (hG : Gok sw g)  (H :
  (((h 68 0) ≤ 0 →
    MD_digest_33 g h u1 K) ∧
  (0 < (h 68 0) →
    ((¬ (h 68 7) = 0 →
      MD_digest_33 g h u1 K) ∧
    ((h 68 7) = 0 →
      MD_mixAll g h (fun h1 =>
        MD_digest_33 g h1 u1 K)))))) : MD_digest_22 g h u1 K := by
  refine rc_aload_n mq254 (mvDec_of cd254 rfl) rfl ?_
  refine rc_callV [mvR 68] [] [some (mvR 68)] mq254 (mvDec_of cd254 rfl) lk_10_308 mq131 (by decide) rfl rfl (Nat.le_of_ble_eq_true rfl) (Nat.le_of_ble_eq_true rfl) (by decide) rfl mis68 rfl ?_
  refine rc_aload_n mq131 (mvDec_of cd131 rfl) rfl ?_
  refine rc_callV [mvR 68] [] [some (mvR 68)] mq131 (mvDec_of cd131 rfl) lk_10_262 mq43 (by decide) rfl rfl (Nat.le_of_ble_eq_true rfl) (Nat.le_of_ble_eq_true rfl) (by decide) rfl mis68 rfl ?_
  refine rc_aload_n mq43 (mvDec_of cd43 rfl) rfl ?_
  refine rc_getI 0 mq43 (mvDec_of cd43 rfl) fl_10_138 mis68 rfl (by decide) (by decide) ?_
  refine rc_if_le (t := 11) mq43 (mvDec_of cd43 rfl) rfl (fun hc => ?_) (fun hc => ?_)
  · replace H := H.1 hc
    refine rc_iconst mq43 (mvDec_of cd43 rfl) (by decide) ?_
    refine rc_zret mq43 (mvDec_of cd43 rfl) (Or.inl rfl) ?_
    show Rch 131 4 [some (mvR 68)] [mvI 0] (97, g, h) _
    refine rc_ifT (t := 18) mq131 (mvDec_of cd131 rfl) rfl rfl ?_
    refine rc_iconst mq131 (mvDec_of cd131 rfl) (by decide) ?_
    refine rc_zret mq131 (mvDec_of cd131 rfl) (Or.inl rfl) ?_
    show Rch 254 26 [some (mvR 68), u1.map mvI] [mvI 0] (97, g, h) _
    refine rc_ifT (t := 33) mq254 (mvDec_of cd254 rfl) rfl rfl ?_
    exact H
  · replace H := H.2 hc
    refine rc_iconst mq43 (mvDec_of cd43 rfl) (by decide) ?_
    refine rc_goto (t := 12) mq43 (mvDec_of cd43 rfl) rfl ?_
    refine rc_zret mq43 (mvDec_of cd43 rfl) (Or.inr rfl) ?_
    show Rch 131 4 [some (mvR 68)] [mvI 1] (97, g, h) _
    refine rc_ifF (t := 18) mq131 (mvDec_of cd131 rfl) rfl rfl ?_
    refine rc_aload_n mq131 (mvDec_of cd131 rfl) rfl ?_
    refine rc_getI 7 mq131 (mvDec_of cd131 rfl) fl_10_213 mis68 rfl (by decide) (by decide) ?_
    refine rc_if_ne (t := 18) mq131 (mvDec_of cd131 rfl) rfl (fun hc => ?_) (fun hc => ?_)
    · replace H := H.1 hc
      refine rc_iconst mq131 (mvDec_of cd131 rfl) (by decide) ?_
      refine rc_zret mq131 (mvDec_of cd131 rfl) (Or.inl rfl) ?_
      show Rch 254 26 [some (mvR 68), u1.map mvI] [mvI 0] (97, g, h) _
      refine rc_ifT (t := 33) mq254 (mvDec_of cd254 rfl) rfl rfl ?_
      exact H
    · replace H := H.2 hc
      refine rc_iconst mq131 (mvDec_of cd131 rfl) (by decide) ?_
      refine rc_goto (t := 19) mq131 (mvDec_of cd131 rfl) rfl ?_
      refine rc_zret mq131 (mvDec_of cd131 rfl) (Or.inr rfl) ?_
      show Rch 254 26 [some (mvR 68), u1.map mvI] [mvI 1] (97, g, h) _
      refine rc_ifF (t := 33) mq254 (mvDec_of cd254 rfl) rfl rfl ?_
      refine rc_aload_n mq254 (mvDec_of cd254 rfl) rfl ?_
      refine rc_callV [mvR 68] [] [some (mvR 68), none, none, none] mq254 (mvDec_of cd254 rfl) lk_10_422 mq251 (by decide) rfl rfl (Nat.le_of_ble_eq_true rfl) (Nat.le_of_ble_eq_true rfl) (by decide) rfl mis68 rfl (rv_bind H (fun h1 H => ?_))
      exact H
theorem MD_digest_33_wp {sw : Bool} {g : Nat → Nat → Nat} {h : Nat → Int → Int} {u1 : Option Int} {K : Int → (Nat → Int → Int) → Prop} (hG : Gok sw g)  (H :
  (((h 68 10) = 0 →
    MD_digest_46 g h 0 K) ∧
  (¬ (h 68 10) = 0 →
    MD_mixPlayed g h (fun h1 =>
      MD_digest_46 g h1 0 K)))) : MD_digest_33 g h u1 K := by
  refine rc_aload_n mq254 (mvDec_of cd254 rfl) rfl ?_
  refine rc_getI 10 mq254 (mvDec_of cd254 rfl) fl_10_147 mis68 rfl (by decide) (by decide) ?_
  refine rc_if_eq (t := 44) mq254 (mvDec_of cd254 rfl) rfl (fun hc => ?_) (fun hc => ?_)
  · replace H := H.1 hc
    refine rc_iconst mq254 (mvDec_of cd254 rfl) (by decide) ?_
    refine rc_istore_n [some (mvR 68), some (mvI 0)] mq254 (mvDec_of cd254 rfl) rfl ?_
    exact H
  · replace H := H.2 hc
    refine rc_aload_n mq254 (mvDec_of cd254 rfl) rfl ?_
    refine rc_callV [mvR 68] [] [some (mvR 68), none] mq254 (mvDec_of cd254 rfl) lk_10_425 mq139 (by decide) rfl rfl (Nat.le_of_ble_eq_true rfl) (Nat.le_of_ble_eq_true rfl) (by decide) rfl mis68 rfl (rv_bind H (fun h1 H => ?_))
    refine rc_iconst mq254 (mvDec_of cd254 rfl) (by decide) ?_
    refine rc_istore_n [some (mvR 68), some (mvI 0)] mq254 (mvDec_of cd254 rfl) rfl ?_
    exact H
theorem MD_digest_46_wp {sw : Bool} {g : Nat → Nat → Nat} {h : Nat → Int → Int} {l1 : Int} {K : Int → (Nat → Int → Int) → Prop} (hG : Gok sw g)  (H :
  (((h 68 17) ≤ l1 →
    MD_digest_73 g h 0 K) ∧
  (l1 < (h 68 17) →
    (0 ≤ l1 ∧ l1 < 36) ∧
    (∀ h1, h1 = mvUpd h 68 44 (mwl ((mwl (31 * (h 68 44))) + (h 76 l1))) →
    MD_digest_46 g h1 (mw (l1 + 1)) K)))) : MD_digest_46 g h l1 K := by
  refine rc_iload_n mq254 (mvDec_of cd254 rfl) rfl ?_
  refine rc_aload_n mq254 (mvDec_of cd254 rfl) rfl ?_
  refine rc_getI 17 mq254 (mvDec_of cd254 rfl) fl_10_99 mis68 rfl (by decide) (by decide) ?_
  refine rc_icmp_ge (t := 71) mq254 (mvDec_of cd254 rfl) rfl (fun hc => ?_) (fun hc => ?_)
  · replace H := H.1 hc
    refine rc_iconst mq254 (mvDec_of cd254 rfl) (by decide) ?_
    refine rc_istore_n [some (mvR 68), some (mvI 0)] mq254 (mvDec_of cd254 rfl) rfl ?_
    exact H
  · replace H := H.2 hc
    refine rc_aload_n mq254 (mvDec_of cd254 rfl) rfl ?_
    refine rc_aload_n mq254 (mvDec_of cd254 rfl) rfl ?_
    refine rc_getR 76 mq254 (mvDec_of cd254 rfl) fl_10_31 mis68 rfl (gr_68_18 hG) (by decide) ?_
    refine rc_iload_n mq254 (mvDec_of cd254 rfl) rfl ?_
    obtain ⟨⟨hb0, hb1⟩, H⟩ := H
    refine rc_iald mq254 (mvDec_of cd254 rfl) mis76 hb0 hb1 ?_
    refine rc_i2l mq254 (mvDec_of cd254 rfl) ?_
    refine rc_callV [mvR 68, mvJ (h 76 l1)] [] [some (mvR 68), some (mvJ (h 76 l1)), none] mq254 (mvDec_of cd254 rfl) lk_10_407 mq64 (by decide) rfl rfl (Nat.le_of_ble_eq_true rfl) (Nat.le_of_ble_eq_true rfl) (by decide) rfl mis68 rfl ?_
    refine rc_aload_n mq64 (mvDec_of cd64 rfl) rfl ?_
    refine rc_ldc2 mq64 (mvDec_of cd64 rfl) rfl ?_
    refine rc_aload_n mq64 (mvDec_of cd64 rfl) rfl ?_
    refine rc_getJ 44 mq64 (mvDec_of cd64 rfl) fl_10_404 mis68 rfl (by decide) rfl ?_
    refine rc_lmul mq64 (mvDec_of cd64 rfl) ?_
    refine rc_lload_n mq64 (mvDec_of cd64 rfl) rfl ?_
    refine rc_ladd mq64 (mvDec_of cd64 rfl) ?_
    refine rc_putJ 44 mq64 (mvDec_of cd64 rfl) fl_10_404 mis68 rfl (fun z => absurd z (by decide)) rfl ?_
    refine rc_heap (fun h1 hh => ?_)
    replace H := H h1 hh
    refine rc_vret mq64 (mvDec_of cd64 rfl) ?_
    show Rch 254 65 [some (mvR 68), some (mvI l1)] [] (97, g, h1) _
    refine rc_iinc [some (mvR 68), some (mvI (mw (l1 + 1)))] mq254 (mvDec_of cd254 rfl) rfl rfl ?_
    refine rc_goto (t := 46) mq254 (mvDec_of cd254 rfl) rfl ?_
    exact H
theorem MD_digest_73_wp {sw : Bool} {g : Nat → Nat → Nat} {h : Nat → Int → Int} {l1 : Int} {K : Int → (Nat → Int → Int) → Prop} (hG : Gok sw g)  (H :
  ((8 ≤ l1 →
    K (h 68 44) h) ∧
  (l1 < 8 →
    MD_howMany g h l1 (fun r2 h1 =>
      (∀ h3, h3 = mvUpd h1 68 44 (mwl ((mwl (31 * (h1 68 44))) + r2)) →
      MD_digest_73 g h3 (mw (l1 + 1)) K))))) : MD_digest_73 g h l1 K := by
  refine rc_iload_n mq254 (mvDec_of cd254 rfl) rfl ?_
  refine rc_bipush mq254 (mvDec_of cd254 rfl) (by decide) ?_
  refine rc_icmp_ge (t := 95) mq254 (mvDec_of cd254 rfl) rfl (fun hc => ?_) (fun hc => ?_)
  · replace H := H.1 hc
    refine rc_aload_n mq254 (mvDec_of cd254 rfl) rfl ?_
    refine rc_getJ 44 mq254 (mvDec_of cd254 rfl) fl_10_404 mis68 rfl (by decide) rfl ?_
    exact rc_lret mq254 (mvDec_of cd254 rfl) ⟨_, _, rfl, rfl, H⟩
  · replace H := H.2 hc
    refine rc_aload_n mq254 (mvDec_of cd254 rfl) rfl ?_
    refine rc_aload_n mq254 (mvDec_of cd254 rfl) rfl ?_
    refine rc_iload_n mq254 (mvDec_of cd254 rfl) rfl ?_
    refine rc_callV [mvR 68, mvI l1] [mvR 68] [some (mvR 68), some (mvI l1)] mq254 (mvDec_of cd254 rfl) lk_10_399 mq138 (by decide) rfl rfl (Nat.le_of_ble_eq_true rfl) (Nat.le_of_ble_eq_true rfl) (by decide) rfl mis68 rfl (ri_bind H (fun r2 h1 H => ?_))
    refine rc_i2l mq254 (mvDec_of cd254 rfl) ?_
    refine rc_callV [mvR 68, mvJ r2] [] [some (mvR 68), some (mvJ r2), none] mq254 (mvDec_of cd254 rfl) lk_10_407 mq64 (by decide) rfl rfl (Nat.le_of_ble_eq_true rfl) (Nat.le_of_ble_eq_true rfl) (by decide) rfl mis68 rfl ?_
    refine rc_aload_n mq64 (mvDec_of cd64 rfl) rfl ?_
    refine rc_ldc2 mq64 (mvDec_of cd64 rfl) rfl ?_
    refine rc_aload_n mq64 (mvDec_of cd64 rfl) rfl ?_
    refine rc_getJ 44 mq64 (mvDec_of cd64 rfl) fl_10_404 mis68 rfl (by decide) rfl ?_
    refine rc_lmul mq64 (mvDec_of cd64 rfl) ?_
    refine rc_lload_n mq64 (mvDec_of cd64 rfl) rfl ?_
    refine rc_ladd mq64 (mvDec_of cd64 rfl) ?_
    refine rc_putJ 44 mq64 (mvDec_of cd64 rfl) fl_10_404 mis68 rfl (fun z => absurd z (by decide)) rfl ?_
    refine rc_heap (fun h3 hh => ?_)
    replace H := H h3 hh
    refine rc_vret mq64 (mvDec_of cd64 rfl) ?_
    show Rch 254 89 [some (mvR 68), some (mvI l1)] [] (97, g, h3) _
    refine rc_iinc [some (mvR 68), some (mvI (mw (l1 + 1)))] mq254 (mvDec_of cd254 rfl) rfl rfl ?_
    refine rc_goto (t := 73) mq254 (mvDec_of cd254 rfl) rfl ?_
    exact H
