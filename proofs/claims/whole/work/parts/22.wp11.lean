/-! out of the bytecode, by program: what suffices for a method (_wp), for a loop at its head (_place_wp) -/
abbrev RC_blank (g : Nat → Nat → Nat) (h : Nat → Int → Int)  (K : Int → (Nat → Int → Int) → Prop) : Prop := RI 0 0 [some (mvR 3), none] [] g h K
theorem RC_blank_wp {sw : Bool} {g : Nat → Nat → Nat} {h : Nat → Int → Int}  {K : Int → (Nat → Int → Int) → Prop} (hG : Gok sw g)  (H :
  (∀ v1, v1 = (h 4 1) →
  (∀ h2, h2 = mvUpd h 4 1 0 →
  K v1 h2))) : RC_blank g h  K := by
  refine rc_aload_n mq0 (mvDec_of cd0 rfl) rfl ?_
  refine rc_getR 4 mq0 (mvDec_of cd0 rfl) fl_0_12 mis3 rfl (gr_3_0 hG) (by decide) ?_
  refine rc_getI 1 mq0 (mvDec_of cd0 rfl) fl_0_75 mis4 rfl (by decide) (by decide) ?_
  refine rc_top (fun v1 hv => ?_)
  replace H := H v1 hv
  refine rc_istore_n [some (mvR 3), some (mvI v1)] mq0 (mvDec_of cd0 rfl) rfl ?_
  refine rc_aload_n mq0 (mvDec_of cd0 rfl) rfl ?_
  refine rc_getR 4 mq0 (mvDec_of cd0 rfl) fl_0_12 mis3 rfl (gr_3_0 hG) (by decide) ?_
  refine rc_iconst mq0 (mvDec_of cd0 rfl) (by decide) ?_
  refine rc_putI 1 mq0 (mvDec_of cd0 rfl) fl_0_75 mis4 rfl (fun z => absurd z (by decide)) (Or.inl rfl) ?_
  refine rc_heap (fun h2 hh => ?_)
  replace H := H h2 hh
  refine rc_iload_n mq0 (mvDec_of cd0 rfl) rfl ?_
  exact rc_iret mq0 (mvDec_of cd0 rfl) ⟨_, _, rfl, rfl, H⟩
abbrev RC_played (g : Nat → Nat → Nat) (h : Nat → Int → Int) (x1 : Int) (K : Int → (Nat → Int → Int) → Prop) : Prop := RI 1 0 [some (mvR 3), some (mvI x1)] [] g h K
theorem RC_played_wp {sw : Bool} {g : Nat → Nat → Nat} {h : Nat → Int → Int} {x1 : Int} {K : Int → (Nat → Int → Int) → Prop} (hG : Gok sw g)  (H :
  ((x1 < 0 →
    K (-101) h) ∧
  (0 ≤ x1 →
    ((x1 < (h 61 0) →
      (0 ≤ x1 ∧ x1 < 16) ∧
      K (h 62 x1) h) ∧
    ((h 61 0) ≤ x1 →
      K (-101) h))))) : RC_played g h x1 K := by
  refine rc_iload_n mq1 (mvDec_of cd1 rfl) rfl ?_
  refine rc_if_lt (t := 15) mq1 (mvDec_of cd1 rfl) rfl (fun hc => ?_) (fun hc => ?_)
  · replace H := H.1 hc
    refine rc_bipush mq1 (mvDec_of cd1 rfl) (by decide) ?_
    exact rc_iret mq1 (mvDec_of cd1 rfl) ⟨_, _, rfl, rfl, H⟩
  · replace H := H.2 hc
    refine rc_iload_n mq1 (mvDec_of cd1 rfl) rfl ?_
    refine rc_aload_n mq1 (mvDec_of cd1 rfl) rfl ?_
    refine rc_getR 61 mq1 (mvDec_of cd1 rfl) fl_0_64 mis3 rfl (gr_3_8 hG) (by decide) ?_
    refine rc_getI 0 mq1 (mvDec_of cd1 rfl) fl_0_248 mis61 rfl (by decide) (by decide) ?_
    refine rc_icmp_lt (t := 18) mq1 (mvDec_of cd1 rfl) rfl (fun hc => ?_) (fun hc => ?_)
    · replace H := H.1 hc
      refine rc_aload_n mq1 (mvDec_of cd1 rfl) rfl ?_
      refine rc_getR 61 mq1 (mvDec_of cd1 rfl) fl_0_64 mis3 rfl (gr_3_8 hG) (by decide) ?_
      refine rc_getR 62 mq1 (mvDec_of cd1 rfl) fl_0_251 mis61 rfl (gr_61_1 hG) (by decide) ?_
      refine rc_iload_n mq1 (mvDec_of cd1 rfl) rfl ?_
      obtain ⟨⟨hb0, hb1⟩, H⟩ := H
      refine rc_iald mq1 (mvDec_of cd1 rfl) mis62 hb0 hb1 ?_
      exact rc_iret mq1 (mvDec_of cd1 rfl) ⟨_, _, rfl, rfl, H⟩
    · replace H := H.2 hc
      refine rc_bipush mq1 (mvDec_of cd1 rfl) (by decide) ?_
      exact rc_iret mq1 (mvDec_of cd1 rfl) ⟨_, _, rfl, rfl, H⟩
abbrev RC_letter (g : Nat → Nat → Nat) (h : Nat → Int → Int) (x1 : Int) (K : Int → (Nat → Int → Int) → Prop) : Prop := RI 67 0 [some (mvR 3), some (mvI x1)] [] g h K
theorem RC_letter_wp {sw : Bool} {g : Nat → Nat → Nat} {h : Nat → Int → Int} {x1 : Int} {K : Int → (Nat → Int → Int) → Prop} (hG : Gok sw g)  (H :
  ((x1 < 32 →
    K (-102) h) ∧
  (32 ≤ x1 →
    ((x1 ≤ 126 →
      (((h 4 1) < 36 →
        (0 ≤ (h 4 1) ∧ (h 4 1) < 36) ∧
        (∀ h1, h1 = mvUpd h 5 (h 4 1) x1 →
        (∀ h2, h2 = mvUpd h1 4 1 (mw ((h1 4 1) + 1)) →
        K (h2 4 1) h2))) ∧
      (36 ≤ (h 4 1) →
        K (-104) h))) ∧
    (126 < x1 →
      K (-102) h))))) : RC_letter g h x1 K := by
  refine rc_iload_n mq67 (mvDec_of cd67 rfl) rfl ?_
  refine rc_bipush mq67 (mvDec_of cd67 rfl) (by decide) ?_
  refine rc_icmp_lt (t := 12) mq67 (mvDec_of cd67 rfl) rfl (fun hc => ?_) (fun hc => ?_)
  · replace H := H.1 hc
    refine rc_bipush mq67 (mvDec_of cd67 rfl) (by decide) ?_
    exact rc_iret mq67 (mvDec_of cd67 rfl) ⟨_, _, rfl, rfl, H⟩
  · replace H := H.2 hc
    refine rc_iload_n mq67 (mvDec_of cd67 rfl) rfl ?_
    refine rc_bipush mq67 (mvDec_of cd67 rfl) (by decide) ?_
    refine rc_icmp_le (t := 15) mq67 (mvDec_of cd67 rfl) rfl (fun hc => ?_) (fun hc => ?_)
    · replace H := H.1 hc
      refine rc_aload_n mq67 (mvDec_of cd67 rfl) rfl ?_
      refine rc_getR 4 mq67 (mvDec_of cd67 rfl) fl_0_12 mis3 rfl (gr_3_0 hG) (by decide) ?_
      refine rc_getI 1 mq67 (mvDec_of cd67 rfl) fl_0_75 mis4 rfl (by decide) (by decide) ?_
      refine rc_bipush mq67 (mvDec_of cd67 rfl) (by decide) ?_
      refine rc_icmp_lt (t := 30) mq67 (mvDec_of cd67 rfl) rfl (fun hc => ?_) (fun hc => ?_)
      · replace H := H.1 hc
        refine rc_aload_n mq67 (mvDec_of cd67 rfl) rfl ?_
        refine rc_getR 4 mq67 (mvDec_of cd67 rfl) fl_0_12 mis3 rfl (gr_3_0 hG) (by decide) ?_
        refine rc_iload_n mq67 (mvDec_of cd67 rfl) rfl ?_
        refine rc_callV [mvR 4, mvI x1] [] [some (mvR 4), some (mvI x1)] mq67 (mvDec_of cd67 rfl) lk_0_79 mq5 (by decide) rfl rfl (Nat.le_of_ble_eq_true rfl) (Nat.le_of_ble_eq_true rfl) (by decide) rfl mis4 rfl ?_
        refine rc_aload_n mq5 (mvDec_of cd5 rfl) rfl ?_
        refine rc_getR 5 mq5 (mvDec_of cd5 rfl) fl_1_9 mis4 rfl (gr_4_0 hG) (by decide) ?_
        refine rc_aload_n mq5 (mvDec_of cd5 rfl) rfl ?_
        refine rc_getI 1 mq5 (mvDec_of cd5 rfl) fl_1_15 mis4 rfl (by decide) (by decide) ?_
        refine rc_iload_n mq5 (mvDec_of cd5 rfl) rfl ?_
        obtain ⟨⟨hb0, hb1⟩, H⟩ := H
        refine rc_iast mq5 (mvDec_of cd5 rfl) mis5 hb0 hb1 ?_
        refine rc_heap (fun h1 hh => ?_)
        replace H := H h1 hh
        refine rc_aload_n mq5 (mvDec_of cd5 rfl) rfl ?_
        refine rc_dup mq5 (mvDec_of cd5 rfl) rfl ?_
        refine rc_getI 1 mq5 (mvDec_of cd5 rfl) fl_1_15 mis4 rfl (by decide) (by decide) ?_
        refine rc_iconst mq5 (mvDec_of cd5 rfl) (by decide) ?_
        refine rc_iadd mq5 (mvDec_of cd5 rfl) ?_
        refine rc_putI 1 mq5 (mvDec_of cd5 rfl) fl_1_15 mis4 rfl (fun z => absurd z (by decide)) (Or.inl rfl) ?_
        refine rc_heap (fun h2 hh => ?_)
        replace H := H h2 hh
        refine rc_vret mq5 (mvDec_of cd5 rfl) ?_
        show Rch 67 38 [some (mvR 3), some (mvI x1)] [] (97, g, h2) _
        refine rc_aload_n mq67 (mvDec_of cd67 rfl) rfl ?_
        refine rc_getR 4 mq67 (mvDec_of cd67 rfl) fl_0_12 mis3 rfl (gr_3_0 hG) (by decide) ?_
        refine rc_getI 1 mq67 (mvDec_of cd67 rfl) fl_0_75 mis4 rfl (by decide) (by decide) ?_
        exact rc_iret mq67 (mvDec_of cd67 rfl) ⟨_, _, rfl, rfl, H⟩
      · replace H := H.2 hc
        refine rc_bipush mq67 (mvDec_of cd67 rfl) (by decide) ?_
        exact rc_iret mq67 (mvDec_of cd67 rfl) ⟨_, _, rfl, rfl, H⟩
    · replace H := H.2 hc
      refine rc_bipush mq67 (mvDec_of cd67 rfl) (by decide) ?_
      exact rc_iret mq67 (mvDec_of cd67 rfl) ⟨_, _, rfl, rfl, H⟩
abbrev RC_value (g : Nat → Nat → Nat) (h : Nat → Int → Int) (x1 : Int) (x2 : Int) (K : Int → (Nat → Int → Int) → Prop) : Prop := RI 68 0 [some (mvR 3), some (mvI x1), some (mvI x2)] [] g h K
theorem RC_value_wp {sw : Bool} {g : Nat → Nat → Nat} {h : Nat → Int → Int} {x1 : Int} {x2 : Int} {K : Int → (Nat → Int → Int) → Prop} (hG : Gok sw g)  (H :
  (((h (evO sw) 0) ≤ 0 →
    K (-103) h) ∧
  (0 < (h (evO sw) 0) →
    EV_isCut g h (evO sw) x1 (fun r2 h1 =>
      ((r2 = 0 →
        K (-101) h1) ∧
      (¬ r2 = 0 →
        ((x2 < 0 →
          K (-101) h1) ∧
        (0 ≤ x2 →
          (((h1 (evO sw) 0) ≤ x2 →
            K (-101) h1) ∧
          (x2 < (h1 (evO sw) 0) →
            EV_valueIn g h1 (evO sw) x1 x2 (fun r4 h3 =>
              K r4 h3))))))))))) : RC_value g h x1 x2 K := by
  refine rc_aload_n mq68 (mvDec_of cd68 rfl) rfl ?_
  refine rc_callV [mvR 3] [] [some (mvR 3)] mq68 (mvDec_of cd68 rfl) lk_0_145 mq3 (by decide) rfl rfl (Nat.le_of_ble_eq_true rfl) (Nat.le_of_ble_eq_true rfl) (by decide) rfl mis3 rfl ?_
  refine rc_aload_n mq3 (mvDec_of cd3 rfl) rfl ?_
  refine rc_getR (evO sw) mq3 (mvDec_of cd3 rfl) fl_0_19 mis3 rfl (gr_3_1 hG) (evO_ne sw) ?_
  refine rc_getI 0 mq3 (mvDec_of cd3 rfl) fl_0_104 (miE0 (evO_id sw)) rfl (by decide) (by decide) ?_
  refine rc_if_le (t := 14) mq3 (mvDec_of cd3 rfl) rfl (fun hc => ?_) (fun hc => ?_)
  · replace H := H.1 hc
    refine rc_iconst mq3 (mvDec_of cd3 rfl) (by decide) ?_
    refine rc_zret mq3 (mvDec_of cd3 rfl) (Or.inl rfl) ?_
    show Rch 68 4 [some (mvR 3), some (mvI x1), some (mvI x2)] [mvI 0] (97, g, h) _
    refine rc_ifF (t := 10) mq68 (mvDec_of cd68 rfl) rfl rfl ?_
    refine rc_bipush mq68 (mvDec_of cd68 rfl) (by decide) ?_
    exact rc_iret mq68 (mvDec_of cd68 rfl) ⟨_, _, rfl, rfl, H⟩
  · replace H := H.2 hc
    refine rc_iconst mq3 (mvDec_of cd3 rfl) (by decide) ?_
    refine rc_goto (t := 15) mq3 (mvDec_of cd3 rfl) rfl ?_
    refine rc_zret mq3 (mvDec_of cd3 rfl) (Or.inr rfl) ?_
    show Rch 68 4 [some (mvR 3), some (mvI x1), some (mvI x2)] [mvI 1] (97, g, h) _
    refine rc_ifT (t := 10) mq68 (mvDec_of cd68 rfl) rfl rfl ?_
    refine rc_aload_n mq68 (mvDec_of cd68 rfl) rfl ?_
    refine rc_getR (evO sw) mq68 (mvDec_of cd68 rfl) fl_0_19 mis3 rfl (gr_3_1 hG) (evO_ne sw) ?_
    refine rc_iload_n mq68 (mvDec_of cd68 rfl) rfl ?_
    refine rc_callV [mvR (evO sw), mvI x1] [] [some (mvR (evO sw)), some (mvI x1), none, none] mq68 (mvDec_of cd68 rfl) lk_0_148 mq22 (by decide) rfl rfl (Nat.le_of_ble_eq_true rfl) (Nat.le_of_ble_eq_true rfl) (by decide) rfl (miE0 (evO_id sw)) rfl (ri_bind H (fun r2 h1 H => ?_))
    refine rc_if_eq (t := 32) mq68 (mvDec_of cd68 rfl) rfl (fun hc => ?_) (fun hc => ?_)
    · replace H := H.1 hc
      refine rc_bipush mq68 (mvDec_of cd68 rfl) (by decide) ?_
      exact rc_iret mq68 (mvDec_of cd68 rfl) ⟨_, _, rfl, rfl, H⟩
    · replace H := H.2 hc
      refine rc_aload_n mq68 (mvDec_of cd68 rfl) rfl ?_
      refine rc_getR (evO sw) mq68 (mvDec_of cd68 rfl) fl_0_19 mis3 rfl (gr_3_1 hG) (evO_ne sw) ?_
      refine rc_iload_n mq68 (mvDec_of cd68 rfl) rfl ?_
      refine rc_callV [mvR (evO sw), mvI x2] [] [some (mvR (evO sw)), some (mvI x2)] mq68 (mvDec_of cd68 rfl) lk_0_107 mq8 (by decide) rfl rfl (Nat.le_of_ble_eq_true rfl) (Nat.le_of_ble_eq_true rfl) (by decide) rfl (miE0 (evO_id sw)) rfl ?_
      refine rc_iload_n mq8 (mvDec_of cd8 rfl) rfl ?_
      refine rc_if_lt (t := 16) mq8 (mvDec_of cd8 rfl) rfl (fun hc => ?_) (fun hc => ?_)
      · replace H := H.1 hc
        refine rc_iconst mq8 (mvDec_of cd8 rfl) (by decide) ?_
        refine rc_zret mq8 (mvDec_of cd8 rfl) (Or.inl rfl) ?_
        show Rch 68 29 [some (mvR 3), some (mvI x1), some (mvI x2)] [mvI 0] (97, g, h1) _
        refine rc_ifF (t := 35) mq68 (mvDec_of cd68 rfl) rfl rfl ?_
        refine rc_bipush mq68 (mvDec_of cd68 rfl) (by decide) ?_
        exact rc_iret mq68 (mvDec_of cd68 rfl) ⟨_, _, rfl, rfl, H⟩
      · replace H := H.2 hc
        refine rc_iload_n mq8 (mvDec_of cd8 rfl) rfl ?_
        refine rc_aload_n mq8 (mvDec_of cd8 rfl) rfl ?_
        refine rc_getI 0 mq8 (mvDec_of cd8 rfl) fl_2_36 (miE0 (evO_id sw)) rfl (by decide) (by decide) ?_
        refine rc_icmp_ge (t := 16) mq8 (mvDec_of cd8 rfl) rfl (fun hc => ?_) (fun hc => ?_)
        · replace H := H.1 hc
          refine rc_iconst mq8 (mvDec_of cd8 rfl) (by decide) ?_
          refine rc_zret mq8 (mvDec_of cd8 rfl) (Or.inl rfl) ?_
          show Rch 68 29 [some (mvR 3), some (mvI x1), some (mvI x2)] [mvI 0] (97, g, h1) _
          refine rc_ifF (t := 35) mq68 (mvDec_of cd68 rfl) rfl rfl ?_
          refine rc_bipush mq68 (mvDec_of cd68 rfl) (by decide) ?_
          exact rc_iret mq68 (mvDec_of cd68 rfl) ⟨_, _, rfl, rfl, H⟩
        · replace H := H.2 hc
          refine rc_iconst mq8 (mvDec_of cd8 rfl) (by decide) ?_
          refine rc_goto (t := 17) mq8 (mvDec_of cd8 rfl) rfl ?_
          refine rc_zret mq8 (mvDec_of cd8 rfl) (Or.inr rfl) ?_
          show Rch 68 29 [some (mvR 3), some (mvI x1), some (mvI x2)] [mvI 1] (97, g, h1) _
          refine rc_ifT (t := 35) mq68 (mvDec_of cd68 rfl) rfl rfl ?_
          refine rc_aload_n mq68 (mvDec_of cd68 rfl) rfl ?_
          refine rc_getR (evO sw) mq68 (mvDec_of cd68 rfl) fl_0_19 mis3 rfl (gr_3_1 hG) (evO_ne sw) ?_
          refine rc_iload_n mq68 (mvDec_of cd68 rfl) rfl ?_
          refine rc_iload_n mq68 (mvDec_of cd68 rfl) rfl ?_
          refine rc_callV [mvR (evO sw), mvI x1, mvI x2] [] [some (mvR (evO sw)), some (mvI x1), some (mvI x2)] mq68 (mvDec_of cd68 rfl) lk_0_166 mq25 (by decide) rfl rfl (Nat.le_of_ble_eq_true rfl) (Nat.le_of_ble_eq_true rfl) (by decide) rfl (miE0 (evO_id sw)) rfl (ri_bind H (fun r4 h3 H => ?_))
          exact rc_iret mq68 (mvDec_of cd68 rfl) ⟨_, _, rfl, rfl, H⟩
abbrev RC_shots (g : Nat → Nat → Nat) (h : Nat → Int → Int) (x1 : Int) (K : Int → (Nat → Int → Int) → Prop) : Prop := RI 69 0 [some (mvR 3), some (mvI x1)] [] g h K
theorem RC_shots_wp {sw : Bool} {g : Nat → Nat → Nat} {h : Nat → Int → Int} {x1 : Int} {K : Int → (Nat → Int → Int) → Prop} (hG : Gok sw g)  (H :
  ((x1 < 0 →
    K (-102) h) ∧
  (0 ≤ x1 →
    ((x1 ≤ 2 →
      ((¬ (h 63 0) = 0 →
        ((¬ x1 = 0 →
          ((¬ x1 = 1 →
            K (h 63 3) h) ∧
          (x1 = 1 →
            K (h 63 2) h))) ∧
        (x1 = 0 →
          K (h 63 1) h))) ∧
      ((h 63 0) = 0 →
        K (-103) h))) ∧
    (2 < x1 →
      K (-102) h))))) : RC_shots g h x1 K := by
  refine rc_iload_n mq69 (mvDec_of cd69 rfl) rfl ?_
  refine rc_if_lt (t := 9) mq69 (mvDec_of cd69 rfl) rfl (fun hc => ?_) (fun hc => ?_)
  · replace H := H.1 hc
    refine rc_bipush mq69 (mvDec_of cd69 rfl) (by decide) ?_
    exact rc_iret mq69 (mvDec_of cd69 rfl) ⟨_, _, rfl, rfl, H⟩
  · replace H := H.2 hc
    refine rc_iload_n mq69 (mvDec_of cd69 rfl) rfl ?_
    refine rc_iconst mq69 (mvDec_of cd69 rfl) (by decide) ?_
    refine rc_icmp_le (t := 12) mq69 (mvDec_of cd69 rfl) rfl (fun hc => ?_) (fun hc => ?_)
    · replace H := H.1 hc
      refine rc_aload_n mq69 (mvDec_of cd69 rfl) rfl ?_
      refine rc_getR 63 mq69 (mvDec_of cd69 rfl) fl_0_71 mis3 rfl (gr_3_9 hG) (by decide) ?_
      refine rc_getI 0 mq69 (mvDec_of cd69 rfl) fl_0_240 mis63 rfl (by decide) (by decide) ?_
      refine rc_if_ne (t := 25) mq69 (mvDec_of cd69 rfl) rfl (fun hc => ?_) (fun hc => ?_)
      · replace H := H.1 hc
        refine rc_aload_n mq69 (mvDec_of cd69 rfl) rfl ?_
        refine rc_getR 63 mq69 (mvDec_of cd69 rfl) fl_0_71 mis3 rfl (gr_3_9 hG) (by decide) ?_
        refine rc_iload_n mq69 (mvDec_of cd69 rfl) rfl ?_
        refine rc_callV [mvR 63, mvI x1] [] [some (mvR 63), some (mvI x1)] mq69 (mvDec_of cd69 rfl) lk_0_263 mq37 (by decide) rfl rfl (Nat.le_of_ble_eq_true rfl) (Nat.le_of_ble_eq_true rfl) (by decide) rfl mis63 rfl ?_
        refine rc_iload_n mq37 (mvDec_of cd37 rfl) rfl ?_
        refine rc_if_ne (t := 9) mq37 (mvDec_of cd37 rfl) rfl (fun hc => ?_) (fun hc => ?_)
        · replace H := H.1 hc
          refine rc_iload_n mq37 (mvDec_of cd37 rfl) rfl ?_
          refine rc_iconst mq37 (mvDec_of cd37 rfl) (by decide) ?_
          refine rc_icmp_ne (t := 21) mq37 (mvDec_of cd37 rfl) rfl (fun hc => ?_) (fun hc => ?_)
          · replace H := H.1 hc
            refine rc_aload_n mq37 (mvDec_of cd37 rfl) rfl ?_
            refine rc_getI 3 mq37 (mvDec_of cd37 rfl) fl_9_68 mis63 rfl (by decide) (by decide) ?_
            refine rc_iret mq37 (mvDec_of cd37 rfl) ?_
            show Rch 69 33 [some (mvR 3), some (mvI x1)] [mvI (h 63 3)] (97, g, h) _
            exact rc_iret mq69 (mvDec_of cd69 rfl) ⟨_, _, rfl, rfl, H⟩
          · replace H := H.2 hc
            refine rc_aload_n mq37 (mvDec_of cd37 rfl) rfl ?_
            refine rc_getI 2 mq37 (mvDec_of cd37 rfl) fl_9_65 mis63 rfl (by decide) (by decide) ?_
            refine rc_goto (t := 25) mq37 (mvDec_of cd37 rfl) rfl ?_
            refine rc_iret mq37 (mvDec_of cd37 rfl) ?_
            show Rch 69 33 [some (mvR 3), some (mvI x1)] [mvI (h 63 2)] (97, g, h) _
            exact rc_iret mq69 (mvDec_of cd69 rfl) ⟨_, _, rfl, rfl, H⟩
        · replace H := H.2 hc
          refine rc_aload_n mq37 (mvDec_of cd37 rfl) rfl ?_
          refine rc_getI 1 mq37 (mvDec_of cd37 rfl) fl_9_50 mis63 rfl (by decide) (by decide) ?_
          refine rc_iret mq37 (mvDec_of cd37 rfl) ?_
          show Rch 69 33 [some (mvR 3), some (mvI x1)] [mvI (h 63 1)] (97, g, h) _
          exact rc_iret mq69 (mvDec_of cd69 rfl) ⟨_, _, rfl, rfl, H⟩
      · replace H := H.2 hc
        refine rc_bipush mq69 (mvDec_of cd69 rfl) (by decide) ?_
        exact rc_iret mq69 (mvDec_of cd69 rfl) ⟨_, _, rfl, rfl, H⟩
    · replace H := H.2 hc
      refine rc_bipush mq69 (mvDec_of cd69 rfl) (by decide) ?_
      exact rc_iret mq69 (mvDec_of cd69 rfl) ⟨_, _, rfl, rfl, H⟩
abbrev RC_count (g : Nat → Nat → Nat) (h : Nat → Int → Int) (x1 : Int) (K : Int → (Nat → Int → Int) → Prop) : Prop := RI 70 0 [some (mvR 3), some (mvI x1)] [] g h K
theorem RC_count_wp {sw : Bool} {g : Nat → Nat → Nat} {h : Nat → Int → Int} {x1 : Int} {K : Int → (Nat → Int → Int) → Prop} (hG : Gok sw g)  (H :
  ((x1 < 0 →
    K (-102) h) ∧
  (0 ≤ x1 →
    ((x1 ≤ 7 →
      (((x1 < 0 ∨ 6 < x1) →
        K (h 3 11) h) ∧
      (x1 = 0 →
        K (h (evO sw) 0) h) ∧
      (x1 = 1 →
        K (h (evO sw) 1) h) ∧
      (x1 = 2 →
        EV_countKind g h (evO sw) 0 (fun r2 h1 =>
          K r2 h1)) ∧
      (x1 = 3 →
        EV_countKind g h (evO sw) 1 (fun r4 h3 =>
          K r4 h3)) ∧
      (x1 = 4 →
        EV_countKind g h (evO sw) 2 (fun r6 h5 =>
          K r6 h5)) ∧
      (x1 = 5 →
        K (h 4 1) h) ∧
      (x1 = 6 →
        K (h 3 10) h))) ∧
    (7 < x1 →
      K (-102) h))))) : RC_count g h x1 K := by
  refine rc_iload_n mq70 (mvDec_of cd70 rfl) rfl ?_
  refine rc_if_lt (t := 10) mq70 (mvDec_of cd70 rfl) rfl (fun hc => ?_) (fun hc => ?_)
  · replace H := H.1 hc
    refine rc_bipush mq70 (mvDec_of cd70 rfl) (by decide) ?_
    exact rc_iret mq70 (mvDec_of cd70 rfl) ⟨_, _, rfl, rfl, H⟩
  · replace H := H.2 hc
    refine rc_iload_n mq70 (mvDec_of cd70 rfl) rfl ?_
    refine rc_bipush mq70 (mvDec_of cd70 rfl) (by decide) ?_
    refine rc_icmp_le (t := 13) mq70 (mvDec_of cd70 rfl) rfl (fun hc => ?_) (fun hc => ?_)
    · replace H := H.1 hc
      refine rc_iload_n mq70 (mvDec_of cd70 rfl) rfl ?_
      have hsw : (x1 < 0 ∨ 6 < x1) ∨ x1 = 0 ∨ x1 = 1 ∨ x1 = 2 ∨ x1 = 3 ∨ x1 = 4 ∨ x1 = 5 ∨ x1 = 6 := by omega
      rcases hsw with hsw | hsw | hsw | hsw | hsw | hsw | hsw | hsw
      · replace H := H.1 hsw
        refine rc_swD (t := 112) mq70 (mvDec_of cd70 rfl) hsw rfl ?_
        refine rc_aload_n mq70 (mvDec_of cd70 rfl) rfl ?_
        refine rc_getI 11 mq70 (mvDec_of cd70 rfl) fl_0_257 mis3 rfl (by decide) (by decide) ?_
        exact rc_iret mq70 (mvDec_of cd70 rfl) ⟨_, _, rfl, rfl, H⟩
      · replace H := H.2.1 hsw
        refine rc_swI (t := 56) mq70 (mvDec_of cd70 rfl) (by omega) (by rw [hsw]; rfl) rfl ?_
        refine rc_aload_n mq70 (mvDec_of cd70 rfl) rfl ?_
        refine rc_getR (evO sw) mq70 (mvDec_of cd70 rfl) fl_0_19 mis3 rfl (gr_3_1 hG) (evO_ne sw) ?_
        refine rc_getI 0 mq70 (mvDec_of cd70 rfl) fl_0_104 (miE0 (evO_id sw)) rfl (by decide) (by decide) ?_
        exact rc_iret mq70 (mvDec_of cd70 rfl) ⟨_, _, rfl, rfl, H⟩
      · replace H := H.2.2.1 hsw
        refine rc_swI (t := 64) mq70 (mvDec_of cd70 rfl) (by omega) (by rw [hsw]; rfl) rfl ?_
        refine rc_aload_n mq70 (mvDec_of cd70 rfl) rfl ?_
        refine rc_getR (evO sw) mq70 (mvDec_of cd70 rfl) fl_0_19 mis3 rfl (gr_3_1 hG) (evO_ne sw) ?_
        refine rc_getI 1 mq70 (mvDec_of cd70 rfl) fl_0_181 (miE0 (evO_id sw)) rfl (by decide) (by decide) ?_
        exact rc_iret mq70 (mvDec_of cd70 rfl) ⟨_, _, rfl, rfl, H⟩
      · replace H := H.2.2.2.1 hsw
        refine rc_swI (t := 72) mq70 (mvDec_of cd70 rfl) (by omega) (by rw [hsw]; rfl) rfl ?_
        refine rc_aload_n mq70 (mvDec_of cd70 rfl) rfl ?_
        refine rc_getR (evO sw) mq70 (mvDec_of cd70 rfl) fl_0_19 mis3 rfl (gr_3_1 hG) (evO_ne sw) ?_
        refine rc_iconst mq70 (mvDec_of cd70 rfl) (by decide) ?_
        refine rc_callV [mvR (evO sw), mvI 0] [] [some (mvR (evO sw)), some (mvI 0), none, none, none] mq70 (mvDec_of cd70 rfl) lk_0_264 mq21 (by decide) rfl rfl (Nat.le_of_ble_eq_true rfl) (Nat.le_of_ble_eq_true rfl) (by decide) rfl (miE0 (evO_id sw)) rfl (ri_bind H (fun r2 h1 H => ?_))
        exact rc_iret mq70 (mvDec_of cd70 rfl) ⟨_, _, rfl, rfl, H⟩
      · replace H := H.2.2.2.2.1 hsw
        refine rc_swI (t := 81) mq70 (mvDec_of cd70 rfl) (by omega) (by rw [hsw]; rfl) rfl ?_
        refine rc_aload_n mq70 (mvDec_of cd70 rfl) rfl ?_
        refine rc_getR (evO sw) mq70 (mvDec_of cd70 rfl) fl_0_19 mis3 rfl (gr_3_1 hG) (evO_ne sw) ?_
        refine rc_iconst mq70 (mvDec_of cd70 rfl) (by decide) ?_
        refine rc_callV [mvR (evO sw), mvI 1] [] [some (mvR (evO sw)), some (mvI 1), none, none, none] mq70 (mvDec_of cd70 rfl) lk_0_264 mq21 (by decide) rfl rfl (Nat.le_of_ble_eq_true rfl) (Nat.le_of_ble_eq_true rfl) (by decide) rfl (miE0 (evO_id sw)) rfl (ri_bind H (fun r4 h3 H => ?_))
        exact rc_iret mq70 (mvDec_of cd70 rfl) ⟨_, _, rfl, rfl, H⟩
      · replace H := H.2.2.2.2.2.1 hsw
        refine rc_swI (t := 90) mq70 (mvDec_of cd70 rfl) (by omega) (by rw [hsw]; rfl) rfl ?_
        refine rc_aload_n mq70 (mvDec_of cd70 rfl) rfl ?_
        refine rc_getR (evO sw) mq70 (mvDec_of cd70 rfl) fl_0_19 mis3 rfl (gr_3_1 hG) (evO_ne sw) ?_
        refine rc_iconst mq70 (mvDec_of cd70 rfl) (by decide) ?_
        refine rc_callV [mvR (evO sw), mvI 2] [] [some (mvR (evO sw)), some (mvI 2), none, none, none] mq70 (mvDec_of cd70 rfl) lk_0_264 mq21 (by decide) rfl rfl (Nat.le_of_ble_eq_true rfl) (Nat.le_of_ble_eq_true rfl) (by decide) rfl (miE0 (evO_id sw)) rfl (ri_bind H (fun r6 h5 H => ?_))
        exact rc_iret mq70 (mvDec_of cd70 rfl) ⟨_, _, rfl, rfl, H⟩
      · replace H := H.2.2.2.2.2.2.1 hsw
        refine rc_swI (t := 99) mq70 (mvDec_of cd70 rfl) (by omega) (by rw [hsw]; rfl) rfl ?_
        refine rc_aload_n mq70 (mvDec_of cd70 rfl) rfl ?_
        refine rc_getR 4 mq70 (mvDec_of cd70 rfl) fl_0_12 mis3 rfl (gr_3_0 hG) (by decide) ?_
        refine rc_getI 1 mq70 (mvDec_of cd70 rfl) fl_0_75 mis4 rfl (by decide) (by decide) ?_
        exact rc_iret mq70 (mvDec_of cd70 rfl) ⟨_, _, rfl, rfl, H⟩
      · replace H := H.2.2.2.2.2.2.2 hsw
        refine rc_swI (t := 107) mq70 (mvDec_of cd70 rfl) (by omega) (by rw [hsw]; rfl) rfl ?_
        refine rc_aload_n mq70 (mvDec_of cd70 rfl) rfl ?_
        refine rc_getI 10 mq70 (mvDec_of cd70 rfl) fl_0_98 mis3 rfl (by decide) (by decide) ?_
        exact rc_iret mq70 (mvDec_of cd70 rfl) ⟨_, _, rfl, rfl, H⟩
    · replace H := H.2 hc
      refine rc_bipush mq70 (mvDec_of cd70 rfl) (by decide) ?_
      exact rc_iret mq70 (mvDec_of cd70 rfl) ⟨_, _, rfl, rfl, H⟩
abbrev RC_mixSearch (g : Nat → Nat → Nat) (h : Nat → Int → Int) (x1 : Int) (K : Int → (Nat → Int → Int) → Prop) : Prop := RJ 71 0 [some (mvR 3), some (mvJ x1), none, none] [] g h K
abbrev RC_mixSearch_2 (g : Nat → Nat → Nat) (h : Nat → Int → Int) (l1 : Int) (l3 : Int) (K : Int → (Nat → Int → Int) → Prop) : Prop := RJ 71 2 [some (mvR 3), some (mvJ l1), none, some (mvI l3)] [] g h K
abbrev RC_mixSearch_28 (g : Nat → Nat → Nat) (h : Nat → Int → Int) (l1 : Int) (l3 : Int) (K : Int → (Nat → Int → Int) → Prop) : Prop := RJ 71 28 [some (mvR 3), some (mvJ l1), none, some (mvI l3)] [] g h K
theorem RC_mixSearch_wp {sw : Bool} {g : Nat → Nat → Nat} {h : Nat → Int → Int} {x1 : Int} {K : Int → (Nat → Int → Int) → Prop} (hG : Gok sw g)  (H :
  RC_mixSearch_2 g h x1 0 K) : RC_mixSearch g h x1 K := by
  refine rc_iconst mq71 (mvDec_of cd71 rfl) (by decide) ?_
  refine rc_istore_n [some (mvR 3), some (mvJ x1), none, some (mvI 0)] mq71 (mvDec_of cd71 rfl) rfl ?_
  exact H
theorem RC_mixSearch_2_wp {sw : Bool} {g : Nat → Nat → Nat} {h : Nat → Int → Int} {l1 : Int} {l3 : Int} {K : Int → (Nat → Int → Int) → Prop} (hG : Gok sw g)  (H :
  ((3 < l3 →
    RC_mixSearch_28 g h l1 0 K) ∧
  (l3 ≤ 3 →
    SE_property g h 33 l3 (fun r2 h1 =>
      (∀ v3, v3 = (mwl ((mwl (31 * l1)) + r2)) →
      RC_mixSearch_2 g h1 v3 (mw (l3 + 1)) K))))) : RC_mixSearch_2 g h l1 l3 K := by
  refine rc_iload_n mq71 (mvDec_of cd71 rfl) rfl ?_
  refine rc_iconst mq71 (mvDec_of cd71 rfl) (by decide) ?_
  refine rc_icmp_gt (t := 26) mq71 (mvDec_of cd71 rfl) rfl (fun hc => ?_) (fun hc => ?_)
  · replace H := H.1 hc
    refine rc_iconst mq71 (mvDec_of cd71 rfl) (by decide) ?_
    refine rc_istore_n [some (mvR 3), some (mvJ l1), none, some (mvI 0)] mq71 (mvDec_of cd71 rfl) rfl ?_
    exact H
  · replace H := H.2 hc
    refine rc_lload_n mq71 (mvDec_of cd71 rfl) rfl ?_
    refine rc_aload_n mq71 (mvDec_of cd71 rfl) rfl ?_
    refine rc_getR 33 mq71 (mvDec_of cd71 rfl) fl_0_43 mis3 rfl (gr_3_5 hG) (by decide) ?_
    refine rc_iload_n mq71 (mvDec_of cd71 rfl) rfl ?_
    refine rc_callV [mvR 33, mvI l3] [mvJ l1] [some (mvR 33), some (mvI l3)] mq71 (mvDec_of cd71 rfl) lk_0_208 mq29 (by decide) rfl rfl (Nat.le_of_ble_eq_true rfl) (Nat.le_of_ble_eq_true rfl) (by decide) rfl mis33 rfl (ri_bind H (fun r2 h1 H => ?_))
    refine rc_callS [mvJ l1, mvI r2] [] [some (mvJ l1), none, some (mvI r2)] mq71 (mvDec_of cd71 rfl) lk_0_282 mq2 (by decide) rfl rfl (Nat.le_of_ble_eq_true rfl) (Nat.le_of_ble_eq_true rfl) (by decide) rfl ?_
    refine rc_ldc2 mq2 (mvDec_of cd2 rfl) rfl ?_
    refine rc_lload_n mq2 (mvDec_of cd2 rfl) rfl ?_
    refine rc_lmul mq2 (mvDec_of cd2 rfl) ?_
    refine rc_iload_n mq2 (mvDec_of cd2 rfl) rfl ?_
    refine rc_i2l mq2 (mvDec_of cd2 rfl) ?_
    refine rc_ladd mq2 (mvDec_of cd2 rfl) ?_
    refine rc_lret mq2 (mvDec_of cd2 rfl) ?_
    show Rch 71 19 [some (mvR 3), some (mvJ l1), none, some (mvI l3)] [mvJ (mwl ((mwl (31 * l1)) + r2))] (97, g, h1) _
    refine rc_topJ (fun v3 hv => ?_)
    replace H := H v3 hv
    refine rc_lstore_n [some (mvR 3), some (mvJ v3), none, some (mvI l3)] mq71 (mvDec_of cd71 rfl) rfl ?_
    refine rc_iinc [some (mvR 3), some (mvJ v3), none, some (mvI (mw (l3 + 1)))] mq71 (mvDec_of cd71 rfl) rfl rfl ?_
    refine rc_goto (t := 2) mq71 (mvDec_of cd71 rfl) rfl ?_
    exact H
theorem RC_mixSearch_28_wp {sw : Bool} {g : Nat → Nat → Nat} {h : Nat → Int → Int} {l1 : Int} {l3 : Int} {K : Int → (Nat → Int → Int) → Prop} (hG : Gok sw g)  (H :
  (((h 33 1) ≤ l3 →
    K l1 h) ∧
  (l3 < (h 33 1) →
    (0 ≤ l3 ∧ l3 < 16) ∧
    (∀ v1, v1 = (mwl ((mwl (31 * l1)) + (h 34 l3))) →
    RC_mixSearch_28 g h v1 (mw (l3 + 1)) K)))) : RC_mixSearch_28 g h l1 l3 K := by
  refine rc_iload_n mq71 (mvDec_of cd71 rfl) rfl ?_
  refine rc_aload_n mq71 (mvDec_of cd71 rfl) rfl ?_
  refine rc_getR 33 mq71 (mvDec_of cd71 rfl) fl_0_43 mis3 rfl (gr_3_5 hG) (by decide) ?_
  refine rc_getI 1 mq71 (mvDec_of cd71 rfl) fl_0_209 mis33 rfl (by decide) (by decide) ?_
  refine rc_icmp_ge (t := 59) mq71 (mvDec_of cd71 rfl) rfl (fun hc => ?_) (fun hc => ?_)
  · replace H := H.1 hc
    refine rc_lload_n mq71 (mvDec_of cd71 rfl) rfl ?_
    exact rc_lret mq71 (mvDec_of cd71 rfl) ⟨_, _, rfl, rfl, H⟩
  · replace H := H.2 hc
    refine rc_lload_n mq71 (mvDec_of cd71 rfl) rfl ?_
    refine rc_aload_n mq71 (mvDec_of cd71 rfl) rfl ?_
    refine rc_getR 33 mq71 (mvDec_of cd71 rfl) fl_0_43 mis3 rfl (gr_3_5 hG) (by decide) ?_
    refine rc_getR 34 mq71 (mvDec_of cd71 rfl) fl_0_212 mis33 rfl (gr_33_2 hG) (by decide) ?_
    refine rc_iload_n mq71 (mvDec_of cd71 rfl) rfl ?_
    obtain ⟨⟨hb0, hb1⟩, H⟩ := H
    refine rc_iald mq71 (mvDec_of cd71 rfl) mis34 hb0 hb1 ?_
    refine rc_callS [mvJ l1, mvI (h 34 l3)] [] [some (mvJ l1), none, some (mvI (h 34 l3))] mq71 (mvDec_of cd71 rfl) lk_0_282 mq2 (by decide) rfl rfl (Nat.le_of_ble_eq_true rfl) (Nat.le_of_ble_eq_true rfl) (by decide) rfl ?_
    refine rc_ldc2 mq2 (mvDec_of cd2 rfl) rfl ?_
    refine rc_lload_n mq2 (mvDec_of cd2 rfl) rfl ?_
    refine rc_lmul mq2 (mvDec_of cd2 rfl) ?_
    refine rc_iload_n mq2 (mvDec_of cd2 rfl) rfl ?_
    refine rc_i2l mq2 (mvDec_of cd2 rfl) ?_
    refine rc_ladd mq2 (mvDec_of cd2 rfl) ?_
    refine rc_lret mq2 (mvDec_of cd2 rfl) ?_
    show Rch 71 52 [some (mvR 3), some (mvJ l1), none, some (mvI l3)] [mvJ (mwl ((mwl (31 * l1)) + (h 34 l3)))] (97, g, h) _
    refine rc_topJ (fun v1 hv => ?_)
    replace H := H v1 hv
    refine rc_lstore_n [some (mvR 3), some (mvJ v1), none, some (mvI l3)] mq71 (mvDec_of cd71 rfl) rfl ?_
    refine rc_iinc [some (mvR 3), some (mvJ v1), none, some (mvI (mw (l3 + 1)))] mq71 (mvDec_of cd71 rfl) rfl rfl ?_
    refine rc_goto (t := 28) mq71 (mvDec_of cd71 rfl) rfl ?_
    exact H
abbrev RC_fault (g : Nat → Nat → Nat) (h : Nat → Int → Int)  (K : Int → (Nat → Int → Int) → Prop) : Prop := RI 140 0 [some (mvR 3)] [] g h K
theorem RC_fault_wp {sw : Bool} {g : Nat → Nat → Nat} {h : Nat → Int → Int}  {K : Int → (Nat → Int → Int) → Prop} (hG : Gok sw g)  (H :
  PG_firstFault g h (fun r2 h1 =>
    K r2 h1)) : RC_fault g h  K := by
  refine rc_aload_n mq140 (mvDec_of cd140 rfl) rfl ?_
  refine rc_getR 4 mq140 (mvDec_of cd140 rfl) fl_0_12 mis3 rfl (gr_3_0 hG) (by decide) ?_
  refine rc_callV [mvR 4] [] [some (mvR 4), none, none, none, none, none, none] mq140 (mvDec_of cd140 rfl) lk_0_83 mq75 (by decide) rfl rfl (Nat.le_of_ble_eq_true rfl) (Nat.le_of_ble_eq_true rfl) (by decide) rfl mis4 rfl (ri_bind H (fun r2 h1 H => ?_))
  exact rc_iret mq140 (mvDec_of cd140 rfl) ⟨_, _, rfl, rfl, H⟩
abbrev RC_event (g : Nat → Nat → Nat) (h : Nat → Int → Int) (x1 : Int) (x2 : Int) (x3 : Int) (K : Int → (Nat → Int → Int) → Prop) : Prop := RI 141 0 [some (mvR 3), some (mvI x1), some (mvI x2), some (mvI x3)] [] g h K
theorem RC_event_wp {sw : Bool} {g : Nat → Nat → Nat} {h : Nat → Int → Int} {x1 : Int} {x2 : Int} {x3 : Int} {K : Int → (Nat → Int → Int) → Prop} (hG : Gok sw g)  (H :
  ((x1 < 0 →
    K (-101) h) ∧
  (0 ≤ x1 →
    (((h (evO sw) 0) ≤ x1 →
      K (-101) h) ∧
    (x1 < (h (evO sw) 0) →
      ((x2 < 0 →
        K (-101) h) ∧
      (0 ≤ x2 →
        (0 ≤ x1 ∧ x1 < 4) ∧
        (((h (evO sw + 1) x1) ≤ x2 →
          K (-101) h) ∧
        (x2 < (h (evO sw + 1) x1) →
          ((x3 < 0 →
            K (-102) h) ∧
          (0 ≤ x3 →
            ((x3 ≤ 6 →
              EV_property g h (evO sw) x1 x2 x3 (fun r2 h1 =>
                K r2 h1)) ∧
            (6 < x3 →
              K (-102) h))))))))))))) : RC_event g h x1 x2 x3 K := by
  refine rc_aload_n mq141 (mvDec_of cd141 rfl) rfl ?_
  refine rc_getR (evO sw) mq141 (mvDec_of cd141 rfl) fl_0_19 mis3 rfl (gr_3_1 hG) (evO_ne sw) ?_
  refine rc_iload_n mq141 (mvDec_of cd141 rfl) rfl ?_
  refine rc_iload_n mq141 (mvDec_of cd141 rfl) rfl ?_
  refine rc_callV [mvR (evO sw), mvI x1, mvI x2] [] [some (mvR (evO sw)), some (mvI x1), some (mvI x2)] mq141 (mvDec_of cd141 rfl) lk_0_135 mq79 (by decide) rfl rfl (Nat.le_of_ble_eq_true rfl) (Nat.le_of_ble_eq_true rfl) (by decide) rfl (miE0 (evO_id sw)) rfl ?_
  refine rc_aload_n mq79 (mvDec_of cd79 rfl) rfl ?_
  refine rc_iload_n mq79 (mvDec_of cd79 rfl) rfl ?_
  refine rc_callV [mvR (evO sw), mvI x1] [] [some (mvR (evO sw)), some (mvI x1)] mq79 (mvDec_of cd79 rfl) lk_2_49 mq8 (by decide) rfl rfl (Nat.le_of_ble_eq_true rfl) (Nat.le_of_ble_eq_true rfl) (by decide) rfl (miE0 (evO_id sw)) rfl ?_
  refine rc_iload_n mq8 (mvDec_of cd8 rfl) rfl ?_
  refine rc_if_lt (t := 16) mq8 (mvDec_of cd8 rfl) rfl (fun hc => ?_) (fun hc => ?_)
  · replace H := H.1 hc
    refine rc_iconst mq8 (mvDec_of cd8 rfl) (by decide) ?_
    refine rc_zret mq8 (mvDec_of cd8 rfl) (Or.inl rfl) ?_
    show Rch 79 5 [some (mvR (evO sw)), some (mvI x1), some (mvI x2)] [mvI 0] (97, g, h) _
    refine rc_ifT (t := 26) mq79 (mvDec_of cd79 rfl) rfl rfl ?_
    refine rc_iconst mq79 (mvDec_of cd79 rfl) (by decide) ?_
    refine rc_zret mq79 (mvDec_of cd79 rfl) (Or.inl rfl) ?_
    show Rch 141 9 [some (mvR 3), some (mvI x1), some (mvI x2), some (mvI x3)] [mvI 0] (97, g, h) _
    refine rc_ifF (t := 15) mq141 (mvDec_of cd141 rfl) rfl rfl ?_
    refine rc_bipush mq141 (mvDec_of cd141 rfl) (by decide) ?_
    exact rc_iret mq141 (mvDec_of cd141 rfl) ⟨_, _, rfl, rfl, H⟩
  · replace H := H.2 hc
    refine rc_iload_n mq8 (mvDec_of cd8 rfl) rfl ?_
    refine rc_aload_n mq8 (mvDec_of cd8 rfl) rfl ?_
    refine rc_getI 0 mq8 (mvDec_of cd8 rfl) fl_2_36 (miE0 (evO_id sw)) rfl (by decide) (by decide) ?_
    refine rc_icmp_ge (t := 16) mq8 (mvDec_of cd8 rfl) rfl (fun hc => ?_) (fun hc => ?_)
    · replace H := H.1 hc
      refine rc_iconst mq8 (mvDec_of cd8 rfl) (by decide) ?_
      refine rc_zret mq8 (mvDec_of cd8 rfl) (Or.inl rfl) ?_
      show Rch 79 5 [some (mvR (evO sw)), some (mvI x1), some (mvI x2)] [mvI 0] (97, g, h) _
      refine rc_ifT (t := 26) mq79 (mvDec_of cd79 rfl) rfl rfl ?_
      refine rc_iconst mq79 (mvDec_of cd79 rfl) (by decide) ?_
      refine rc_zret mq79 (mvDec_of cd79 rfl) (Or.inl rfl) ?_
      show Rch 141 9 [some (mvR 3), some (mvI x1), some (mvI x2), some (mvI x3)] [mvI 0] (97, g, h) _
      refine rc_ifF (t := 15) mq141 (mvDec_of cd141 rfl) rfl rfl ?_
      refine rc_bipush mq141 (mvDec_of cd141 rfl) (by decide) ?_
      exact rc_iret mq141 (mvDec_of cd141 rfl) ⟨_, _, rfl, rfl, H⟩
    · replace H := H.2 hc
      refine rc_iconst mq8 (mvDec_of cd8 rfl) (by decide) ?_
      refine rc_goto (t := 17) mq8 (mvDec_of cd8 rfl) rfl ?_
      refine rc_zret mq8 (mvDec_of cd8 rfl) (Or.inr rfl) ?_
      show Rch 79 5 [some (mvR (evO sw)), some (mvI x1), some (mvI x2)] [mvI 1] (97, g, h) _
      refine rc_ifF (t := 26) mq79 (mvDec_of cd79 rfl) rfl rfl ?_
      refine rc_iload_n mq79 (mvDec_of cd79 rfl) rfl ?_
      refine rc_if_lt (t := 26) mq79 (mvDec_of cd79 rfl) rfl (fun hc => ?_) (fun hc => ?_)
      · replace H := H.1 hc
        refine rc_iconst mq79 (mvDec_of cd79 rfl) (by decide) ?_
        refine rc_zret mq79 (mvDec_of cd79 rfl) (Or.inl rfl) ?_
        show Rch 141 9 [some (mvR 3), some (mvI x1), some (mvI x2), some (mvI x3)] [mvI 0] (97, g, h) _
        refine rc_ifF (t := 15) mq141 (mvDec_of cd141 rfl) rfl rfl ?_
        refine rc_bipush mq141 (mvDec_of cd141 rfl) (by decide) ?_
        exact rc_iret mq141 (mvDec_of cd141 rfl) ⟨_, _, rfl, rfl, H⟩
      · replace H := H.2 hc
        refine rc_iload_n mq79 (mvDec_of cd79 rfl) rfl ?_
        refine rc_aload_n mq79 (mvDec_of cd79 rfl) rfl ?_
        refine rc_getR (evO sw + 1) mq79 (mvDec_of cd79 rfl) fl_2_9 (miE0 (evO_id sw)) rfl (mgE2 (evO_id sw) hG) (Nat.succ_ne_zero _) ?_
        refine rc_iload_n mq79 (mvDec_of cd79 rfl) rfl ?_
        obtain ⟨⟨hb0, hb1⟩, H⟩ := H
        refine rc_iald mq79 (mvDec_of cd79 rfl) (miE1 (evO_id sw)) hb0 hb1 ?_
        refine rc_icmp_ge (t := 26) mq79 (mvDec_of cd79 rfl) rfl (fun hc => ?_) (fun hc => ?_)
        · replace H := H.1 hc
          refine rc_iconst mq79 (mvDec_of cd79 rfl) (by decide) ?_
          refine rc_zret mq79 (mvDec_of cd79 rfl) (Or.inl rfl) ?_
          show Rch 141 9 [some (mvR 3), some (mvI x1), some (mvI x2), some (mvI x3)] [mvI 0] (97, g, h) _
          refine rc_ifF (t := 15) mq141 (mvDec_of cd141 rfl) rfl rfl ?_
          refine rc_bipush mq141 (mvDec_of cd141 rfl) (by decide) ?_
          exact rc_iret mq141 (mvDec_of cd141 rfl) ⟨_, _, rfl, rfl, H⟩
        · replace H := H.2 hc
          refine rc_iconst mq79 (mvDec_of cd79 rfl) (by decide) ?_
          refine rc_goto (t := 27) mq79 (mvDec_of cd79 rfl) rfl ?_
          refine rc_zret mq79 (mvDec_of cd79 rfl) (Or.inr rfl) ?_
          show Rch 141 9 [some (mvR 3), some (mvI x1), some (mvI x2), some (mvI x3)] [mvI 1] (97, g, h) _
          refine rc_ifT (t := 15) mq141 (mvDec_of cd141 rfl) rfl rfl ?_
          refine rc_iload_n mq141 (mvDec_of cd141 rfl) rfl ?_
          refine rc_if_lt (t := 25) mq141 (mvDec_of cd141 rfl) rfl (fun hc => ?_) (fun hc => ?_)
          · replace H := H.1 hc
            refine rc_bipush mq141 (mvDec_of cd141 rfl) (by decide) ?_
            exact rc_iret mq141 (mvDec_of cd141 rfl) ⟨_, _, rfl, rfl, H⟩
          · replace H := H.2 hc
            refine rc_iload_n mq141 (mvDec_of cd141 rfl) rfl ?_
            refine rc_bipush mq141 (mvDec_of cd141 rfl) (by decide) ?_
            refine rc_icmp_le (t := 28) mq141 (mvDec_of cd141 rfl) rfl (fun hc => ?_) (fun hc => ?_)
            · replace H := H.1 hc
              refine rc_aload_n mq141 (mvDec_of cd141 rfl) rfl ?_
              refine rc_getR (evO sw) mq141 (mvDec_of cd141 rfl) fl_0_19 mis3 rfl (gr_3_1 hG) (evO_ne sw) ?_
              refine rc_iload_n mq141 (mvDec_of cd141 rfl) rfl ?_
              refine rc_iload_n mq141 (mvDec_of cd141 rfl) rfl ?_
              refine rc_iload_n mq141 (mvDec_of cd141 rfl) rfl ?_
              refine rc_callV [mvR (evO sw), mvI x1, mvI x2, mvI x3] [] [some (mvR (evO sw)), some (mvI x1), some (mvI x2), some (mvI x3), none, none] mq141 (mvDec_of cd141 rfl) lk_0_138 mq82 (by decide) rfl rfl (Nat.le_of_ble_eq_true rfl) (Nat.le_of_ble_eq_true rfl) (by decide) rfl (miE0 (evO_id sw)) rfl (ri_bind H (fun r2 h1 H => ?_))
              exact rc_iret mq141 (mvDec_of cd141 rfl) ⟨_, _, rfl, rfl, H⟩
            · replace H := H.2 hc
              refine rc_bipush mq141 (mvDec_of cd141 rfl) (by decide) ?_
              exact rc_iret mq141 (mvDec_of cd141 rfl) ⟨_, _, rfl, rfl, H⟩
abbrev RC_order (g : Nat → Nat → Nat) (h : Nat → Int → Int) (x1 : Int) (x2 : Int) (x3 : Int) (x4 : Int) (K : Int → (Nat → Int → Int) → Prop) : Prop := RI 142 0 [some (mvR 3), some (mvI x1), some (mvI x2), some (mvI x3), some (mvI x4)] [] g h K
theorem RC_order_wp {sw : Bool} {g : Nat → Nat → Nat} {h : Nat → Int → Int} {x1 : Int} {x2 : Int} {x3 : Int} {x4 : Int} {K : Int → (Nat → Int → Int) → Prop} (hG : Gok sw g)  (H :
  ((x1 < 0 →
    K (-101) h) ∧
  (0 ≤ x1 →
    (((h (evO sw) 0) ≤ x1 →
      K (-101) h) ∧
    (x1 < (h (evO sw) 0) →
      ((x2 < 0 →
        K (-101) h) ∧
      (0 ≤ x2 →
        (0 ≤ x1 ∧ x1 < 4) ∧
        (((h (evO sw + 1) x1) ≤ x2 →
          K (-101) h) ∧
        (x2 < (h (evO sw + 1) x1) →
          ((x3 < 0 →
            K (-101) h) ∧
          (0 ≤ x3 →
            (((h (evO sw) 0) ≤ x3 →
              K (-101) h) ∧
            (x3 < (h (evO sw) 0) →
              ((x4 < 0 →
                K (-101) h) ∧
              (0 ≤ x4 →
                (0 ≤ x3 ∧ x3 < 4) ∧
                (((h (evO sw + 1) x3) ≤ x4 →
                  K (-101) h) ∧
                (x4 < (h (evO sw + 1) x3) →
                  ((¬ x1 = x3 →
                    ((¬ x1 = x3 →
                      (0 ≤ (mw ((mw ((mw ((mw (x3 * 9)) + x4)) * 4)) + x1)) ∧ (mw ((mw ((mw ((mw (x3 * 9)) + x4)) * 4)) + x1)) < 144) ∧
                      (((h (evO sw + 5) (mw ((mw ((mw ((mw (x3 * 9)) + x4)) * 4)) + x1))) ≤ x2 →
                        ((¬ x3 = x1 →
                          (0 ≤ (mw ((mw ((mw ((mw (x1 * 9)) + x2)) * 4)) + x3)) ∧ (mw ((mw ((mw ((mw (x1 * 9)) + x2)) * 4)) + x3)) < 144) ∧
                          (((h (evO sw + 5) (mw ((mw ((mw ((mw (x1 * 9)) + x2)) * 4)) + x3))) ≤ x4 →
                            K 0 h) ∧
                          (x4 < (h (evO sw + 5) (mw ((mw ((mw ((mw (x1 * 9)) + x2)) * 4)) + x3))) →
                            K (-1) h))) ∧
                        (x3 = x1 →
                          ((x2 ≤ x4 →
                            K 0 h) ∧
                          (x4 < x2 →
                            K (-1) h))))) ∧
                      (x2 < (h (evO sw + 5) (mw ((mw ((mw ((mw (x3 * 9)) + x4)) * 4)) + x1))) →
                        K 1 h))) ∧
                    (x1 = x3 →
                      ((x4 ≤ x2 →
                        ((¬ x3 = x1 →
                          (0 ≤ (mw ((mw ((mw ((mw (x1 * 9)) + x2)) * 4)) + x3)) ∧ (mw ((mw ((mw ((mw (x1 * 9)) + x2)) * 4)) + x3)) < 144) ∧
                          (((h (evO sw + 5) (mw ((mw ((mw ((mw (x1 * 9)) + x2)) * 4)) + x3))) ≤ x4 →
                            K 0 h) ∧
                          (x4 < (h (evO sw + 5) (mw ((mw ((mw ((mw (x1 * 9)) + x2)) * 4)) + x3))) →
                            K (-1) h))) ∧
                        (x3 = x1 →
                          ((x2 ≤ x4 →
                            K 0 h) ∧
                          (x4 < x2 →
                            K (-1) h))))) ∧
                      (x2 < x4 →
                        K 1 h))))) ∧
                  (x1 = x3 →
                    ((¬ x2 = x4 →
                      ((¬ x1 = x3 →
                        (0 ≤ (mw ((mw ((mw ((mw (x3 * 9)) + x4)) * 4)) + x1)) ∧ (mw ((mw ((mw ((mw (x3 * 9)) + x4)) * 4)) + x1)) < 144) ∧
                        (((h (evO sw + 5) (mw ((mw ((mw ((mw (x3 * 9)) + x4)) * 4)) + x1))) ≤ x2 →
                          ((¬ x3 = x1 →
                            (0 ≤ (mw ((mw ((mw ((mw (x1 * 9)) + x2)) * 4)) + x3)) ∧ (mw ((mw ((mw ((mw (x1 * 9)) + x2)) * 4)) + x3)) < 144) ∧
                            (((h (evO sw + 5) (mw ((mw ((mw ((mw (x1 * 9)) + x2)) * 4)) + x3))) ≤ x4 →
                              K 0 h) ∧
                            (x4 < (h (evO sw + 5) (mw ((mw ((mw ((mw (x1 * 9)) + x2)) * 4)) + x3))) →
                              K (-1) h))) ∧
                          (x3 = x1 →
                            ((x2 ≤ x4 →
                              K 0 h) ∧
                            (x4 < x2 →
                              K (-1) h))))) ∧
                        (x2 < (h (evO sw + 5) (mw ((mw ((mw ((mw (x3 * 9)) + x4)) * 4)) + x1))) →
                          K 1 h))) ∧
                      (x1 = x3 →
                        ((x4 ≤ x2 →
                          ((¬ x3 = x1 →
                            (0 ≤ (mw ((mw ((mw ((mw (x1 * 9)) + x2)) * 4)) + x3)) ∧ (mw ((mw ((mw ((mw (x1 * 9)) + x2)) * 4)) + x3)) < 144) ∧
                            (((h (evO sw + 5) (mw ((mw ((mw ((mw (x1 * 9)) + x2)) * 4)) + x3))) ≤ x4 →
                              K 0 h) ∧
                            (x4 < (h (evO sw + 5) (mw ((mw ((mw ((mw (x1 * 9)) + x2)) * 4)) + x3))) →
                              K (-1) h))) ∧
                          (x3 = x1 →
                            ((x2 ≤ x4 →
                              K 0 h) ∧
                            (x4 < x2 →
                              K (-1) h))))) ∧
                        (x2 < x4 →
                          K 1 h))))) ∧
                    (x2 = x4 →
                      K 2 h))))))))))))))))))))) : RC_order g h x1 x2 x3 x4 K := by
  refine rc_aload_n mq142 (mvDec_of cd142 rfl) rfl ?_
  refine rc_getR (evO sw) mq142 (mvDec_of cd142 rfl) fl_0_19 mis3 rfl (gr_3_1 hG) (evO_ne sw) ?_
  refine rc_iload_n mq142 (mvDec_of cd142 rfl) rfl ?_
  refine rc_iload_n mq142 (mvDec_of cd142 rfl) rfl ?_
  refine rc_callV [mvR (evO sw), mvI x1, mvI x2] [] [some (mvR (evO sw)), some (mvI x1), some (mvI x2)] mq142 (mvDec_of cd142 rfl) lk_0_135 mq79 (by decide) rfl rfl (Nat.le_of_ble_eq_true rfl) (Nat.le_of_ble_eq_true rfl) (by decide) rfl (miE0 (evO_id sw)) rfl ?_
  refine rc_aload_n mq79 (mvDec_of cd79 rfl) rfl ?_
  refine rc_iload_n mq79 (mvDec_of cd79 rfl) rfl ?_
  refine rc_callV [mvR (evO sw), mvI x1] [] [some (mvR (evO sw)), some (mvI x1)] mq79 (mvDec_of cd79 rfl) lk_2_49 mq8 (by decide) rfl rfl (Nat.le_of_ble_eq_true rfl) (Nat.le_of_ble_eq_true rfl) (by decide) rfl (miE0 (evO_id sw)) rfl ?_
  refine rc_iload_n mq8 (mvDec_of cd8 rfl) rfl ?_
  refine rc_if_lt (t := 16) mq8 (mvDec_of cd8 rfl) rfl (fun hc => ?_) (fun hc => ?_)
  · replace H := H.1 hc
    refine rc_iconst mq8 (mvDec_of cd8 rfl) (by decide) ?_
    refine rc_zret mq8 (mvDec_of cd8 rfl) (Or.inl rfl) ?_
    show Rch 79 5 [some (mvR (evO sw)), some (mvI x1), some (mvI x2)] [mvI 0] (97, g, h) _
    refine rc_ifT (t := 26) mq79 (mvDec_of cd79 rfl) rfl rfl ?_
    refine rc_iconst mq79 (mvDec_of cd79 rfl) (by decide) ?_
    refine rc_zret mq79 (mvDec_of cd79 rfl) (Or.inl rfl) ?_
    show Rch 142 9 [some (mvR 3), some (mvI x1), some (mvI x2), some (mvI x3), some (mvI x4)] [mvI 0] (97, g, h) _
    refine rc_ifT (t := 25) mq142 (mvDec_of cd142 rfl) rfl rfl ?_
    refine rc_bipush mq142 (mvDec_of cd142 rfl) (by decide) ?_
    exact rc_iret mq142 (mvDec_of cd142 rfl) ⟨_, _, rfl, rfl, H⟩
  · replace H := H.2 hc
    refine rc_iload_n mq8 (mvDec_of cd8 rfl) rfl ?_
    refine rc_aload_n mq8 (mvDec_of cd8 rfl) rfl ?_
    refine rc_getI 0 mq8 (mvDec_of cd8 rfl) fl_2_36 (miE0 (evO_id sw)) rfl (by decide) (by decide) ?_
    refine rc_icmp_ge (t := 16) mq8 (mvDec_of cd8 rfl) rfl (fun hc => ?_) (fun hc => ?_)
    · replace H := H.1 hc
      refine rc_iconst mq8 (mvDec_of cd8 rfl) (by decide) ?_
      refine rc_zret mq8 (mvDec_of cd8 rfl) (Or.inl rfl) ?_
      show Rch 79 5 [some (mvR (evO sw)), some (mvI x1), some (mvI x2)] [mvI 0] (97, g, h) _
      refine rc_ifT (t := 26) mq79 (mvDec_of cd79 rfl) rfl rfl ?_
      refine rc_iconst mq79 (mvDec_of cd79 rfl) (by decide) ?_
      refine rc_zret mq79 (mvDec_of cd79 rfl) (Or.inl rfl) ?_
      show Rch 142 9 [some (mvR 3), some (mvI x1), some (mvI x2), some (mvI x3), some (mvI x4)] [mvI 0] (97, g, h) _
      refine rc_ifT (t := 25) mq142 (mvDec_of cd142 rfl) rfl rfl ?_
      refine rc_bipush mq142 (mvDec_of cd142 rfl) (by decide) ?_
      exact rc_iret mq142 (mvDec_of cd142 rfl) ⟨_, _, rfl, rfl, H⟩
    · replace H := H.2 hc
      refine rc_iconst mq8 (mvDec_of cd8 rfl) (by decide) ?_
      refine rc_goto (t := 17) mq8 (mvDec_of cd8 rfl) rfl ?_
      refine rc_zret mq8 (mvDec_of cd8 rfl) (Or.inr rfl) ?_
      show Rch 79 5 [some (mvR (evO sw)), some (mvI x1), some (mvI x2)] [mvI 1] (97, g, h) _
      refine rc_ifF (t := 26) mq79 (mvDec_of cd79 rfl) rfl rfl ?_
      refine rc_iload_n mq79 (mvDec_of cd79 rfl) rfl ?_
      refine rc_if_lt (t := 26) mq79 (mvDec_of cd79 rfl) rfl (fun hc => ?_) (fun hc => ?_)
      · replace H := H.1 hc
        refine rc_iconst mq79 (mvDec_of cd79 rfl) (by decide) ?_
        refine rc_zret mq79 (mvDec_of cd79 rfl) (Or.inl rfl) ?_
        show Rch 142 9 [some (mvR 3), some (mvI x1), some (mvI x2), some (mvI x3), some (mvI x4)] [mvI 0] (97, g, h) _
        refine rc_ifT (t := 25) mq142 (mvDec_of cd142 rfl) rfl rfl ?_
        refine rc_bipush mq142 (mvDec_of cd142 rfl) (by decide) ?_
        exact rc_iret mq142 (mvDec_of cd142 rfl) ⟨_, _, rfl, rfl, H⟩
      · replace H := H.2 hc
        refine rc_iload_n mq79 (mvDec_of cd79 rfl) rfl ?_
        refine rc_aload_n mq79 (mvDec_of cd79 rfl) rfl ?_
        refine rc_getR (evO sw + 1) mq79 (mvDec_of cd79 rfl) fl_2_9 (miE0 (evO_id sw)) rfl (mgE2 (evO_id sw) hG) (Nat.succ_ne_zero _) ?_
        refine rc_iload_n mq79 (mvDec_of cd79 rfl) rfl ?_
        obtain ⟨⟨hb0, hb1⟩, H⟩ := H
        refine rc_iald mq79 (mvDec_of cd79 rfl) (miE1 (evO_id sw)) hb0 hb1 ?_
        refine rc_icmp_ge (t := 26) mq79 (mvDec_of cd79 rfl) rfl (fun hc => ?_) (fun hc => ?_)
        · replace H := H.1 hc
          refine rc_iconst mq79 (mvDec_of cd79 rfl) (by decide) ?_
          refine rc_zret mq79 (mvDec_of cd79 rfl) (Or.inl rfl) ?_
          show Rch 142 9 [some (mvR 3), some (mvI x1), some (mvI x2), some (mvI x3), some (mvI x4)] [mvI 0] (97, g, h) _
          refine rc_ifT (t := 25) mq142 (mvDec_of cd142 rfl) rfl rfl ?_
          refine rc_bipush mq142 (mvDec_of cd142 rfl) (by decide) ?_
          exact rc_iret mq142 (mvDec_of cd142 rfl) ⟨_, _, rfl, rfl, H⟩
        · replace H := H.2 hc
          refine rc_iconst mq79 (mvDec_of cd79 rfl) (by decide) ?_
          refine rc_goto (t := 27) mq79 (mvDec_of cd79 rfl) rfl ?_
          refine rc_zret mq79 (mvDec_of cd79 rfl) (Or.inr rfl) ?_
          show Rch 142 9 [some (mvR 3), some (mvI x1), some (mvI x2), some (mvI x3), some (mvI x4)] [mvI 1] (97, g, h) _
          refine rc_ifF (t := 25) mq142 (mvDec_of cd142 rfl) rfl rfl ?_
          refine rc_aload_n mq142 (mvDec_of cd142 rfl) rfl ?_
          refine rc_getR (evO sw) mq142 (mvDec_of cd142 rfl) fl_0_19 mis3 rfl (gr_3_1 hG) (evO_ne sw) ?_
          refine rc_iload_n mq142 (mvDec_of cd142 rfl) rfl ?_
          refine rc_iload mq142 (mvDec_of cd142 rfl) rfl ?_
          refine rc_callV [mvR (evO sw), mvI x3, mvI x4] [] [some (mvR (evO sw)), some (mvI x3), some (mvI x4)] mq142 (mvDec_of cd142 rfl) lk_0_135 mq79 (by decide) rfl rfl (Nat.le_of_ble_eq_true rfl) (Nat.le_of_ble_eq_true rfl) (by decide) rfl (miE0 (evO_id sw)) rfl ?_
          refine rc_aload_n mq79 (mvDec_of cd79 rfl) rfl ?_
          refine rc_iload_n mq79 (mvDec_of cd79 rfl) rfl ?_
          refine rc_callV [mvR (evO sw), mvI x3] [] [some (mvR (evO sw)), some (mvI x3)] mq79 (mvDec_of cd79 rfl) lk_2_49 mq8 (by decide) rfl rfl (Nat.le_of_ble_eq_true rfl) (Nat.le_of_ble_eq_true rfl) (by decide) rfl (miE0 (evO_id sw)) rfl ?_
          refine rc_iload_n mq8 (mvDec_of cd8 rfl) rfl ?_
          refine rc_if_lt (t := 16) mq8 (mvDec_of cd8 rfl) rfl (fun hc => ?_) (fun hc => ?_)
          · replace H := H.1 hc
            refine rc_iconst mq8 (mvDec_of cd8 rfl) (by decide) ?_
            refine rc_zret mq8 (mvDec_of cd8 rfl) (Or.inl rfl) ?_
            show Rch 79 5 [some (mvR (evO sw)), some (mvI x3), some (mvI x4)] [mvI 0] (97, g, h) _
            refine rc_ifT (t := 26) mq79 (mvDec_of cd79 rfl) rfl rfl ?_
            refine rc_iconst mq79 (mvDec_of cd79 rfl) (by decide) ?_
            refine rc_zret mq79 (mvDec_of cd79 rfl) (Or.inl rfl) ?_
            show Rch 142 22 [some (mvR 3), some (mvI x1), some (mvI x2), some (mvI x3), some (mvI x4)] [mvI 0] (97, g, h) _
            refine rc_ifF (t := 28) mq142 (mvDec_of cd142 rfl) rfl rfl ?_
            refine rc_bipush mq142 (mvDec_of cd142 rfl) (by decide) ?_
            exact rc_iret mq142 (mvDec_of cd142 rfl) ⟨_, _, rfl, rfl, H⟩
          · replace H := H.2 hc
            refine rc_iload_n mq8 (mvDec_of cd8 rfl) rfl ?_
            refine rc_aload_n mq8 (mvDec_of cd8 rfl) rfl ?_
            refine rc_getI 0 mq8 (mvDec_of cd8 rfl) fl_2_36 (miE0 (evO_id sw)) rfl (by decide) (by decide) ?_
            refine rc_icmp_ge (t := 16) mq8 (mvDec_of cd8 rfl) rfl (fun hc => ?_) (fun hc => ?_)
            · replace H := H.1 hc
              refine rc_iconst mq8 (mvDec_of cd8 rfl) (by decide) ?_
              refine rc_zret mq8 (mvDec_of cd8 rfl) (Or.inl rfl) ?_
              show Rch 79 5 [some (mvR (evO sw)), some (mvI x3), some (mvI x4)] [mvI 0] (97, g, h) _
              refine rc_ifT (t := 26) mq79 (mvDec_of cd79 rfl) rfl rfl ?_
              refine rc_iconst mq79 (mvDec_of cd79 rfl) (by decide) ?_
              refine rc_zret mq79 (mvDec_of cd79 rfl) (Or.inl rfl) ?_
              show Rch 142 22 [some (mvR 3), some (mvI x1), some (mvI x2), some (mvI x3), some (mvI x4)] [mvI 0] (97, g, h) _
              refine rc_ifF (t := 28) mq142 (mvDec_of cd142 rfl) rfl rfl ?_
              refine rc_bipush mq142 (mvDec_of cd142 rfl) (by decide) ?_
              exact rc_iret mq142 (mvDec_of cd142 rfl) ⟨_, _, rfl, rfl, H⟩
            · replace H := H.2 hc
              refine rc_iconst mq8 (mvDec_of cd8 rfl) (by decide) ?_
              refine rc_goto (t := 17) mq8 (mvDec_of cd8 rfl) rfl ?_
              refine rc_zret mq8 (mvDec_of cd8 rfl) (Or.inr rfl) ?_
              show Rch 79 5 [some (mvR (evO sw)), some (mvI x3), some (mvI x4)] [mvI 1] (97, g, h) _
              refine rc_ifF (t := 26) mq79 (mvDec_of cd79 rfl) rfl rfl ?_
              refine rc_iload_n mq79 (mvDec_of cd79 rfl) rfl ?_
              refine rc_if_lt (t := 26) mq79 (mvDec_of cd79 rfl) rfl (fun hc => ?_) (fun hc => ?_)
              · replace H := H.1 hc
                refine rc_iconst mq79 (mvDec_of cd79 rfl) (by decide) ?_
                refine rc_zret mq79 (mvDec_of cd79 rfl) (Or.inl rfl) ?_
                show Rch 142 22 [some (mvR 3), some (mvI x1), some (mvI x2), some (mvI x3), some (mvI x4)] [mvI 0] (97, g, h) _
                refine rc_ifF (t := 28) mq142 (mvDec_of cd142 rfl) rfl rfl ?_
                refine rc_bipush mq142 (mvDec_of cd142 rfl) (by decide) ?_
                exact rc_iret mq142 (mvDec_of cd142 rfl) ⟨_, _, rfl, rfl, H⟩
              · replace H := H.2 hc
                refine rc_iload_n mq79 (mvDec_of cd79 rfl) rfl ?_
                refine rc_aload_n mq79 (mvDec_of cd79 rfl) rfl ?_
                refine rc_getR (evO sw + 1) mq79 (mvDec_of cd79 rfl) fl_2_9 (miE0 (evO_id sw)) rfl (mgE2 (evO_id sw) hG) (Nat.succ_ne_zero _) ?_
                refine rc_iload_n mq79 (mvDec_of cd79 rfl) rfl ?_
                obtain ⟨⟨hb0, hb1⟩, H⟩ := H
                refine rc_iald mq79 (mvDec_of cd79 rfl) (miE1 (evO_id sw)) hb0 hb1 ?_
                refine rc_icmp_ge (t := 26) mq79 (mvDec_of cd79 rfl) rfl (fun hc => ?_) (fun hc => ?_)
                · replace H := H.1 hc
                  refine rc_iconst mq79 (mvDec_of cd79 rfl) (by decide) ?_
                  refine rc_zret mq79 (mvDec_of cd79 rfl) (Or.inl rfl) ?_
                  show Rch 142 22 [some (mvR 3), some (mvI x1), some (mvI x2), some (mvI x3), some (mvI x4)] [mvI 0] (97, g, h) _
                  refine rc_ifF (t := 28) mq142 (mvDec_of cd142 rfl) rfl rfl ?_
                  refine rc_bipush mq142 (mvDec_of cd142 rfl) (by decide) ?_
                  exact rc_iret mq142 (mvDec_of cd142 rfl) ⟨_, _, rfl, rfl, H⟩
                · replace H := H.2 hc
                  refine rc_iconst mq79 (mvDec_of cd79 rfl) (by decide) ?_
                  refine rc_goto (t := 27) mq79 (mvDec_of cd79 rfl) rfl ?_
                  refine rc_zret mq79 (mvDec_of cd79 rfl) (Or.inr rfl) ?_
                  show Rch 142 22 [some (mvR 3), some (mvI x1), some (mvI x2), some (mvI x3), some (mvI x4)] [mvI 1] (97, g, h) _
                  refine rc_ifT (t := 28) mq142 (mvDec_of cd142 rfl) rfl rfl ?_
                  refine rc_iload_n mq142 (mvDec_of cd142 rfl) rfl ?_
                  refine rc_iload_n mq142 (mvDec_of cd142 rfl) rfl ?_
                  refine rc_icmp_ne (t := 41) mq142 (mvDec_of cd142 rfl) rfl (fun hc => ?_) (fun hc => ?_)
                  · replace H := H.1 hc
                    refine rc_aload_n mq142 (mvDec_of cd142 rfl) rfl ?_
                    refine rc_getR (evO sw) mq142 (mvDec_of cd142 rfl) fl_0_19 mis3 rfl (gr_3_1 hG) (evO_ne sw) ?_
                    refine rc_iload_n mq142 (mvDec_of cd142 rfl) rfl ?_
                    refine rc_iload_n mq142 (mvDec_of cd142 rfl) rfl ?_
                    refine rc_iload_n mq142 (mvDec_of cd142 rfl) rfl ?_
                    refine rc_iload mq142 (mvDec_of cd142 rfl) rfl ?_
                    refine rc_callV [mvR (evO sw), mvI x1, mvI x2, mvI x3, mvI x4] [] [some (mvR (evO sw)), some (mvI x1), some (mvI x2), some (mvI x3), some (mvI x4)] mq142 (mvDec_of cd142 rfl) lk_0_141 mq19 (by decide) rfl rfl (Nat.le_of_ble_eq_true rfl) (Nat.le_of_ble_eq_true rfl) (by decide) rfl (miE0 (evO_id sw)) rfl ?_
                    refine rc_iload_n mq19 (mvDec_of cd19 rfl) rfl ?_
                    refine rc_iload_n mq19 (mvDec_of cd19 rfl) rfl ?_
                    refine rc_icmp_ne (t := 17) mq19 (mvDec_of cd19 rfl) rfl (fun hc => ?_) (fun hc => ?_)
                    · replace H := H.1 hc
                      refine rc_aload_n mq19 (mvDec_of cd19 rfl) rfl ?_
                      refine rc_getR (evO sw + 5) mq19 (mvDec_of cd19 rfl) fl_2_24 (miE0 (evO_id sw)) rfl (mgE6 (evO_id sw) hG) (Nat.succ_ne_zero _) ?_
                      refine rc_iload_n mq19 (mvDec_of cd19 rfl) rfl ?_
                      refine rc_bipush mq19 (mvDec_of cd19 rfl) (by decide) ?_
                      refine rc_imul mq19 (mvDec_of cd19 rfl) ?_
                      refine rc_iload mq19 (mvDec_of cd19 rfl) rfl ?_
                      refine rc_iadd mq19 (mvDec_of cd19 rfl) ?_
                      refine rc_iconst mq19 (mvDec_of cd19 rfl) (by decide) ?_
                      refine rc_imul mq19 (mvDec_of cd19 rfl) ?_
                      refine rc_iload_n mq19 (mvDec_of cd19 rfl) rfl ?_
                      refine rc_iadd mq19 (mvDec_of cd19 rfl) ?_
                      obtain ⟨⟨hb0, hb1⟩, H⟩ := H
                      refine rc_iald mq19 (mvDec_of cd19 rfl) (miE5 (evO_id sw)) hb0 hb1 ?_
                      refine rc_iload_n mq19 (mvDec_of cd19 rfl) rfl ?_
                      refine rc_icmp_le (t := 41) mq19 (mvDec_of cd19 rfl) rfl (fun hc => ?_) (fun hc => ?_)
                      · replace H := H.1 hc
                        refine rc_iconst mq19 (mvDec_of cd19 rfl) (by decide) ?_
                        refine rc_zret mq19 (mvDec_of cd19 rfl) (Or.inl rfl) ?_
                        show Rch 142 53 [some (mvR 3), some (mvI x1), some (mvI x2), some (mvI x3), some (mvI x4)] [mvI 0] (97, g, h) _
                        refine rc_ifT (t := 58) mq142 (mvDec_of cd142 rfl) rfl rfl ?_
                        refine rc_aload_n mq142 (mvDec_of cd142 rfl) rfl ?_
                        refine rc_getR (evO sw) mq142 (mvDec_of cd142 rfl) fl_0_19 mis3 rfl (gr_3_1 hG) (evO_ne sw) ?_
                        refine rc_iload_n mq142 (mvDec_of cd142 rfl) rfl ?_
                        refine rc_iload mq142 (mvDec_of cd142 rfl) rfl ?_
                        refine rc_iload_n mq142 (mvDec_of cd142 rfl) rfl ?_
                        refine rc_iload_n mq142 (mvDec_of cd142 rfl) rfl ?_
                        refine rc_callV [mvR (evO sw), mvI x3, mvI x4, mvI x1, mvI x2] [] [some (mvR (evO sw)), some (mvI x3), some (mvI x4), some (mvI x1), some (mvI x2)] mq142 (mvDec_of cd142 rfl) lk_0_141 mq19 (by decide) rfl rfl (Nat.le_of_ble_eq_true rfl) (Nat.le_of_ble_eq_true rfl) (by decide) rfl (miE0 (evO_id sw)) rfl ?_
                        refine rc_iload_n mq19 (mvDec_of cd19 rfl) rfl ?_
                        refine rc_iload_n mq19 (mvDec_of cd19 rfl) rfl ?_
                        refine rc_icmp_ne (t := 17) mq19 (mvDec_of cd19 rfl) rfl (fun hc => ?_) (fun hc => ?_)
                        · replace H := H.1 hc
                          refine rc_aload_n mq19 (mvDec_of cd19 rfl) rfl ?_
                          refine rc_getR (evO sw + 5) mq19 (mvDec_of cd19 rfl) fl_2_24 (miE0 (evO_id sw)) rfl (mgE6 (evO_id sw) hG) (Nat.succ_ne_zero _) ?_
                          refine rc_iload_n mq19 (mvDec_of cd19 rfl) rfl ?_
                          refine rc_bipush mq19 (mvDec_of cd19 rfl) (by decide) ?_
                          refine rc_imul mq19 (mvDec_of cd19 rfl) ?_
                          refine rc_iload mq19 (mvDec_of cd19 rfl) rfl ?_
                          refine rc_iadd mq19 (mvDec_of cd19 rfl) ?_
                          refine rc_iconst mq19 (mvDec_of cd19 rfl) (by decide) ?_
                          refine rc_imul mq19 (mvDec_of cd19 rfl) ?_
                          refine rc_iload_n mq19 (mvDec_of cd19 rfl) rfl ?_
                          refine rc_iadd mq19 (mvDec_of cd19 rfl) ?_
                          obtain ⟨⟨hb0, hb1⟩, H⟩ := H
                          refine rc_iald mq19 (mvDec_of cd19 rfl) (miE5 (evO_id sw)) hb0 hb1 ?_
                          refine rc_iload_n mq19 (mvDec_of cd19 rfl) rfl ?_
                          refine rc_icmp_le (t := 41) mq19 (mvDec_of cd19 rfl) rfl (fun hc => ?_) (fun hc => ?_)
                          · replace H := H.1 hc
                            refine rc_iconst mq19 (mvDec_of cd19 rfl) (by decide) ?_
                            refine rc_zret mq19 (mvDec_of cd19 rfl) (Or.inl rfl) ?_
                            show Rch 142 70 [some (mvR 3), some (mvI x1), some (mvI x2), some (mvI x3), some (mvI x4)] [mvI 0] (97, g, h) _
                            refine rc_ifT (t := 77) mq142 (mvDec_of cd142 rfl) rfl rfl ?_
                            refine rc_iconst mq142 (mvDec_of cd142 rfl) (by decide) ?_
                            exact rc_iret mq142 (mvDec_of cd142 rfl) ⟨_, _, rfl, rfl, H⟩
                          · replace H := H.2 hc
                            refine rc_iconst mq19 (mvDec_of cd19 rfl) (by decide) ?_
                            refine rc_goto (t := 42) mq19 (mvDec_of cd19 rfl) rfl ?_
                            refine rc_zret mq19 (mvDec_of cd19 rfl) (Or.inr rfl) ?_
                            show Rch 142 70 [some (mvR 3), some (mvI x1), some (mvI x2), some (mvI x3), some (mvI x4)] [mvI 1] (97, g, h) _
                            refine rc_ifF (t := 77) mq142 (mvDec_of cd142 rfl) rfl rfl ?_
                            refine rc_iconst mq142 (mvDec_of cd142 rfl) (by decide) ?_
                            refine rc_goto (t := 78) mq142 (mvDec_of cd142 rfl) rfl ?_
                            exact rc_iret mq142 (mvDec_of cd142 rfl) ⟨_, _, rfl, rfl, H⟩
                        · replace H := H.2 hc
                          refine rc_iload_n mq19 (mvDec_of cd19 rfl) rfl ?_
                          refine rc_iload mq19 (mvDec_of cd19 rfl) rfl ?_
                          refine rc_icmp_ge (t := 15) mq19 (mvDec_of cd19 rfl) rfl (fun hc => ?_) (fun hc => ?_)
                          · replace H := H.1 hc
                            refine rc_iconst mq19 (mvDec_of cd19 rfl) (by decide) ?_
                            refine rc_zret mq19 (mvDec_of cd19 rfl) (Or.inl rfl) ?_
                            show Rch 142 70 [some (mvR 3), some (mvI x1), some (mvI x2), some (mvI x3), some (mvI x4)] [mvI 0] (97, g, h) _
                            refine rc_ifT (t := 77) mq142 (mvDec_of cd142 rfl) rfl rfl ?_
                            refine rc_iconst mq142 (mvDec_of cd142 rfl) (by decide) ?_
                            exact rc_iret mq142 (mvDec_of cd142 rfl) ⟨_, _, rfl, rfl, H⟩
                          · replace H := H.2 hc
                            refine rc_iconst mq19 (mvDec_of cd19 rfl) (by decide) ?_
                            refine rc_goto (t := 16) mq19 (mvDec_of cd19 rfl) rfl ?_
                            refine rc_zret mq19 (mvDec_of cd19 rfl) (Or.inr rfl) ?_
                            show Rch 142 70 [some (mvR 3), some (mvI x1), some (mvI x2), some (mvI x3), some (mvI x4)] [mvI 1] (97, g, h) _
                            refine rc_ifF (t := 77) mq142 (mvDec_of cd142 rfl) rfl rfl ?_
                            refine rc_iconst mq142 (mvDec_of cd142 rfl) (by decide) ?_
                            refine rc_goto (t := 78) mq142 (mvDec_of cd142 rfl) rfl ?_
                            exact rc_iret mq142 (mvDec_of cd142 rfl) ⟨_, _, rfl, rfl, H⟩
                      · replace H := H.2 hc
                        refine rc_iconst mq19 (mvDec_of cd19 rfl) (by decide) ?_
                        refine rc_goto (t := 42) mq19 (mvDec_of cd19 rfl) rfl ?_
                        refine rc_zret mq19 (mvDec_of cd19 rfl) (Or.inr rfl) ?_
                        show Rch 142 53 [some (mvR 3), some (mvI x1), some (mvI x2), some (mvI x3), some (mvI x4)] [mvI 1] (97, g, h) _
                        refine rc_ifF (t := 58) mq142 (mvDec_of cd142 rfl) rfl rfl ?_
                        refine rc_iconst mq142 (mvDec_of cd142 rfl) (by decide) ?_
                        exact rc_iret mq142 (mvDec_of cd142 rfl) ⟨_, _, rfl, rfl, H⟩
                    · replace H := H.2 hc
                      refine rc_iload_n mq19 (mvDec_of cd19 rfl) rfl ?_
                      refine rc_iload mq19 (mvDec_of cd19 rfl) rfl ?_
                      refine rc_icmp_ge (t := 15) mq19 (mvDec_of cd19 rfl) rfl (fun hc => ?_) (fun hc => ?_)
                      · replace H := H.1 hc
                        refine rc_iconst mq19 (mvDec_of cd19 rfl) (by decide) ?_
                        refine rc_zret mq19 (mvDec_of cd19 rfl) (Or.inl rfl) ?_
                        show Rch 142 53 [some (mvR 3), some (mvI x1), some (mvI x2), some (mvI x3), some (mvI x4)] [mvI 0] (97, g, h) _
                        refine rc_ifT (t := 58) mq142 (mvDec_of cd142 rfl) rfl rfl ?_
                        refine rc_aload_n mq142 (mvDec_of cd142 rfl) rfl ?_
                        refine rc_getR (evO sw) mq142 (mvDec_of cd142 rfl) fl_0_19 mis3 rfl (gr_3_1 hG) (evO_ne sw) ?_
                        refine rc_iload_n mq142 (mvDec_of cd142 rfl) rfl ?_
                        refine rc_iload mq142 (mvDec_of cd142 rfl) rfl ?_
                        refine rc_iload_n mq142 (mvDec_of cd142 rfl) rfl ?_
                        refine rc_iload_n mq142 (mvDec_of cd142 rfl) rfl ?_
                        refine rc_callV [mvR (evO sw), mvI x3, mvI x4, mvI x1, mvI x2] [] [some (mvR (evO sw)), some (mvI x3), some (mvI x4), some (mvI x1), some (mvI x2)] mq142 (mvDec_of cd142 rfl) lk_0_141 mq19 (by decide) rfl rfl (Nat.le_of_ble_eq_true rfl) (Nat.le_of_ble_eq_true rfl) (by decide) rfl (miE0 (evO_id sw)) rfl ?_
                        refine rc_iload_n mq19 (mvDec_of cd19 rfl) rfl ?_
                        refine rc_iload_n mq19 (mvDec_of cd19 rfl) rfl ?_
                        refine rc_icmp_ne (t := 17) mq19 (mvDec_of cd19 rfl) rfl (fun hc => ?_) (fun hc => ?_)
                        · replace H := H.1 hc
                          refine rc_aload_n mq19 (mvDec_of cd19 rfl) rfl ?_
                          refine rc_getR (evO sw + 5) mq19 (mvDec_of cd19 rfl) fl_2_24 (miE0 (evO_id sw)) rfl (mgE6 (evO_id sw) hG) (Nat.succ_ne_zero _) ?_
                          refine rc_iload_n mq19 (mvDec_of cd19 rfl) rfl ?_
                          refine rc_bipush mq19 (mvDec_of cd19 rfl) (by decide) ?_
                          refine rc_imul mq19 (mvDec_of cd19 rfl) ?_
                          refine rc_iload mq19 (mvDec_of cd19 rfl) rfl ?_
                          refine rc_iadd mq19 (mvDec_of cd19 rfl) ?_
                          refine rc_iconst mq19 (mvDec_of cd19 rfl) (by decide) ?_
                          refine rc_imul mq19 (mvDec_of cd19 rfl) ?_
                          refine rc_iload_n mq19 (mvDec_of cd19 rfl) rfl ?_
                          refine rc_iadd mq19 (mvDec_of cd19 rfl) ?_
                          obtain ⟨⟨hb0, hb1⟩, H⟩ := H
                          refine rc_iald mq19 (mvDec_of cd19 rfl) (miE5 (evO_id sw)) hb0 hb1 ?_
                          refine rc_iload_n mq19 (mvDec_of cd19 rfl) rfl ?_
                          refine rc_icmp_le (t := 41) mq19 (mvDec_of cd19 rfl) rfl (fun hc => ?_) (fun hc => ?_)
                          · replace H := H.1 hc
                            refine rc_iconst mq19 (mvDec_of cd19 rfl) (by decide) ?_
                            refine rc_zret mq19 (mvDec_of cd19 rfl) (Or.inl rfl) ?_
                            show Rch 142 70 [some (mvR 3), some (mvI x1), some (mvI x2), some (mvI x3), some (mvI x4)] [mvI 0] (97, g, h) _
                            refine rc_ifT (t := 77) mq142 (mvDec_of cd142 rfl) rfl rfl ?_
                            refine rc_iconst mq142 (mvDec_of cd142 rfl) (by decide) ?_
                            exact rc_iret mq142 (mvDec_of cd142 rfl) ⟨_, _, rfl, rfl, H⟩
                          · replace H := H.2 hc
                            refine rc_iconst mq19 (mvDec_of cd19 rfl) (by decide) ?_
                            refine rc_goto (t := 42) mq19 (mvDec_of cd19 rfl) rfl ?_
                            refine rc_zret mq19 (mvDec_of cd19 rfl) (Or.inr rfl) ?_
                            show Rch 142 70 [some (mvR 3), some (mvI x1), some (mvI x2), some (mvI x3), some (mvI x4)] [mvI 1] (97, g, h) _
                            refine rc_ifF (t := 77) mq142 (mvDec_of cd142 rfl) rfl rfl ?_
                            refine rc_iconst mq142 (mvDec_of cd142 rfl) (by decide) ?_
                            refine rc_goto (t := 78) mq142 (mvDec_of cd142 rfl) rfl ?_
                            exact rc_iret mq142 (mvDec_of cd142 rfl) ⟨_, _, rfl, rfl, H⟩
                        · replace H := H.2 hc
                          refine rc_iload_n mq19 (mvDec_of cd19 rfl) rfl ?_
                          refine rc_iload mq19 (mvDec_of cd19 rfl) rfl ?_
                          refine rc_icmp_ge (t := 15) mq19 (mvDec_of cd19 rfl) rfl (fun hc => ?_) (fun hc => ?_)
                          · replace H := H.1 hc
                            refine rc_iconst mq19 (mvDec_of cd19 rfl) (by decide) ?_
                            refine rc_zret mq19 (mvDec_of cd19 rfl) (Or.inl rfl) ?_
                            show Rch 142 70 [some (mvR 3), some (mvI x1), some (mvI x2), some (mvI x3), some (mvI x4)] [mvI 0] (97, g, h) _
                            refine rc_ifT (t := 77) mq142 (mvDec_of cd142 rfl) rfl rfl ?_
                            refine rc_iconst mq142 (mvDec_of cd142 rfl) (by decide) ?_
                            exact rc_iret mq142 (mvDec_of cd142 rfl) ⟨_, _, rfl, rfl, H⟩
                          · replace H := H.2 hc
                            refine rc_iconst mq19 (mvDec_of cd19 rfl) (by decide) ?_
                            refine rc_goto (t := 16) mq19 (mvDec_of cd19 rfl) rfl ?_
                            refine rc_zret mq19 (mvDec_of cd19 rfl) (Or.inr rfl) ?_
                            show Rch 142 70 [some (mvR 3), some (mvI x1), some (mvI x2), some (mvI x3), some (mvI x4)] [mvI 1] (97, g, h) _
                            refine rc_ifF (t := 77) mq142 (mvDec_of cd142 rfl) rfl rfl ?_
                            refine rc_iconst mq142 (mvDec_of cd142 rfl) (by decide) ?_
                            refine rc_goto (t := 78) mq142 (mvDec_of cd142 rfl) rfl ?_
                            exact rc_iret mq142 (mvDec_of cd142 rfl) ⟨_, _, rfl, rfl, H⟩
                      · replace H := H.2 hc
                        refine rc_iconst mq19 (mvDec_of cd19 rfl) (by decide) ?_
                        refine rc_goto (t := 16) mq19 (mvDec_of cd19 rfl) rfl ?_
                        refine rc_zret mq19 (mvDec_of cd19 rfl) (Or.inr rfl) ?_
                        show Rch 142 53 [some (mvR 3), some (mvI x1), some (mvI x2), some (mvI x3), some (mvI x4)] [mvI 1] (97, g, h) _
                        refine rc_ifF (t := 58) mq142 (mvDec_of cd142 rfl) rfl rfl ?_
                        refine rc_iconst mq142 (mvDec_of cd142 rfl) (by decide) ?_
                        exact rc_iret mq142 (mvDec_of cd142 rfl) ⟨_, _, rfl, rfl, H⟩
                  · replace H := H.2 hc
                    refine rc_iload_n mq142 (mvDec_of cd142 rfl) rfl ?_
                    refine rc_iload mq142 (mvDec_of cd142 rfl) rfl ?_
                    refine rc_icmp_ne (t := 41) mq142 (mvDec_of cd142 rfl) rfl (fun hc => ?_) (fun hc => ?_)
                    · replace H := H.1 hc
                      refine rc_aload_n mq142 (mvDec_of cd142 rfl) rfl ?_
                      refine rc_getR (evO sw) mq142 (mvDec_of cd142 rfl) fl_0_19 mis3 rfl (gr_3_1 hG) (evO_ne sw) ?_
                      refine rc_iload_n mq142 (mvDec_of cd142 rfl) rfl ?_
                      refine rc_iload_n mq142 (mvDec_of cd142 rfl) rfl ?_
                      refine rc_iload_n mq142 (mvDec_of cd142 rfl) rfl ?_
                      refine rc_iload mq142 (mvDec_of cd142 rfl) rfl ?_
                      refine rc_callV [mvR (evO sw), mvI x1, mvI x2, mvI x3, mvI x4] [] [some (mvR (evO sw)), some (mvI x1), some (mvI x2), some (mvI x3), some (mvI x4)] mq142 (mvDec_of cd142 rfl) lk_0_141 mq19 (by decide) rfl rfl (Nat.le_of_ble_eq_true rfl) (Nat.le_of_ble_eq_true rfl) (by decide) rfl (miE0 (evO_id sw)) rfl ?_
                      refine rc_iload_n mq19 (mvDec_of cd19 rfl) rfl ?_
                      refine rc_iload_n mq19 (mvDec_of cd19 rfl) rfl ?_
                      refine rc_icmp_ne (t := 17) mq19 (mvDec_of cd19 rfl) rfl (fun hc => ?_) (fun hc => ?_)
                      · replace H := H.1 hc
                        refine rc_aload_n mq19 (mvDec_of cd19 rfl) rfl ?_
                        refine rc_getR (evO sw + 5) mq19 (mvDec_of cd19 rfl) fl_2_24 (miE0 (evO_id sw)) rfl (mgE6 (evO_id sw) hG) (Nat.succ_ne_zero _) ?_
                        refine rc_iload_n mq19 (mvDec_of cd19 rfl) rfl ?_
                        refine rc_bipush mq19 (mvDec_of cd19 rfl) (by decide) ?_
                        refine rc_imul mq19 (mvDec_of cd19 rfl) ?_
                        refine rc_iload mq19 (mvDec_of cd19 rfl) rfl ?_
                        refine rc_iadd mq19 (mvDec_of cd19 rfl) ?_
                        refine rc_iconst mq19 (mvDec_of cd19 rfl) (by decide) ?_
                        refine rc_imul mq19 (mvDec_of cd19 rfl) ?_
                        refine rc_iload_n mq19 (mvDec_of cd19 rfl) rfl ?_
                        refine rc_iadd mq19 (mvDec_of cd19 rfl) ?_
                        obtain ⟨⟨hb0, hb1⟩, H⟩ := H
                        refine rc_iald mq19 (mvDec_of cd19 rfl) (miE5 (evO_id sw)) hb0 hb1 ?_
                        refine rc_iload_n mq19 (mvDec_of cd19 rfl) rfl ?_
                        refine rc_icmp_le (t := 41) mq19 (mvDec_of cd19 rfl) rfl (fun hc => ?_) (fun hc => ?_)
                        · replace H := H.1 hc
                          refine rc_iconst mq19 (mvDec_of cd19 rfl) (by decide) ?_
                          refine rc_zret mq19 (mvDec_of cd19 rfl) (Or.inl rfl) ?_
                          show Rch 142 53 [some (mvR 3), some (mvI x1), some (mvI x2), some (mvI x3), some (mvI x4)] [mvI 0] (97, g, h) _
                          refine rc_ifT (t := 58) mq142 (mvDec_of cd142 rfl) rfl rfl ?_
                          refine rc_aload_n mq142 (mvDec_of cd142 rfl) rfl ?_
                          refine rc_getR (evO sw) mq142 (mvDec_of cd142 rfl) fl_0_19 mis3 rfl (gr_3_1 hG) (evO_ne sw) ?_
                          refine rc_iload_n mq142 (mvDec_of cd142 rfl) rfl ?_
                          refine rc_iload mq142 (mvDec_of cd142 rfl) rfl ?_
                          refine rc_iload_n mq142 (mvDec_of cd142 rfl) rfl ?_
                          refine rc_iload_n mq142 (mvDec_of cd142 rfl) rfl ?_
                          refine rc_callV [mvR (evO sw), mvI x3, mvI x4, mvI x1, mvI x2] [] [some (mvR (evO sw)), some (mvI x3), some (mvI x4), some (mvI x1), some (mvI x2)] mq142 (mvDec_of cd142 rfl) lk_0_141 mq19 (by decide) rfl rfl (Nat.le_of_ble_eq_true rfl) (Nat.le_of_ble_eq_true rfl) (by decide) rfl (miE0 (evO_id sw)) rfl ?_
                          refine rc_iload_n mq19 (mvDec_of cd19 rfl) rfl ?_
                          refine rc_iload_n mq19 (mvDec_of cd19 rfl) rfl ?_
                          refine rc_icmp_ne (t := 17) mq19 (mvDec_of cd19 rfl) rfl (fun hc => ?_) (fun hc => ?_)
                          · replace H := H.1 hc
                            refine rc_aload_n mq19 (mvDec_of cd19 rfl) rfl ?_
                            refine rc_getR (evO sw + 5) mq19 (mvDec_of cd19 rfl) fl_2_24 (miE0 (evO_id sw)) rfl (mgE6 (evO_id sw) hG) (Nat.succ_ne_zero _) ?_
                            refine rc_iload_n mq19 (mvDec_of cd19 rfl) rfl ?_
                            refine rc_bipush mq19 (mvDec_of cd19 rfl) (by decide) ?_
                            refine rc_imul mq19 (mvDec_of cd19 rfl) ?_
                            refine rc_iload mq19 (mvDec_of cd19 rfl) rfl ?_
                            refine rc_iadd mq19 (mvDec_of cd19 rfl) ?_
                            refine rc_iconst mq19 (mvDec_of cd19 rfl) (by decide) ?_
                            refine rc_imul mq19 (mvDec_of cd19 rfl) ?_
                            refine rc_iload_n mq19 (mvDec_of cd19 rfl) rfl ?_
                            refine rc_iadd mq19 (mvDec_of cd19 rfl) ?_
                            obtain ⟨⟨hb0, hb1⟩, H⟩ := H
                            refine rc_iald mq19 (mvDec_of cd19 rfl) (miE5 (evO_id sw)) hb0 hb1 ?_
                            refine rc_iload_n mq19 (mvDec_of cd19 rfl) rfl ?_
                            refine rc_icmp_le (t := 41) mq19 (mvDec_of cd19 rfl) rfl (fun hc => ?_) (fun hc => ?_)
                            · replace H := H.1 hc
                              refine rc_iconst mq19 (mvDec_of cd19 rfl) (by decide) ?_
                              refine rc_zret mq19 (mvDec_of cd19 rfl) (Or.inl rfl) ?_
                              show Rch 142 70 [some (mvR 3), some (mvI x1), some (mvI x2), some (mvI x3), some (mvI x4)] [mvI 0] (97, g, h) _
                              refine rc_ifT (t := 77) mq142 (mvDec_of cd142 rfl) rfl rfl ?_
                              refine rc_iconst mq142 (mvDec_of cd142 rfl) (by decide) ?_
                              exact rc_iret mq142 (mvDec_of cd142 rfl) ⟨_, _, rfl, rfl, H⟩
                            · replace H := H.2 hc
                              refine rc_iconst mq19 (mvDec_of cd19 rfl) (by decide) ?_
                              refine rc_goto (t := 42) mq19 (mvDec_of cd19 rfl) rfl ?_
                              refine rc_zret mq19 (mvDec_of cd19 rfl) (Or.inr rfl) ?_
                              show Rch 142 70 [some (mvR 3), some (mvI x1), some (mvI x2), some (mvI x3), some (mvI x4)] [mvI 1] (97, g, h) _
                              refine rc_ifF (t := 77) mq142 (mvDec_of cd142 rfl) rfl rfl ?_
                              refine rc_iconst mq142 (mvDec_of cd142 rfl) (by decide) ?_
                              refine rc_goto (t := 78) mq142 (mvDec_of cd142 rfl) rfl ?_
                              exact rc_iret mq142 (mvDec_of cd142 rfl) ⟨_, _, rfl, rfl, H⟩
                          · replace H := H.2 hc
                            refine rc_iload_n mq19 (mvDec_of cd19 rfl) rfl ?_
                            refine rc_iload mq19 (mvDec_of cd19 rfl) rfl ?_
                            refine rc_icmp_ge (t := 15) mq19 (mvDec_of cd19 rfl) rfl (fun hc => ?_) (fun hc => ?_)
                            · replace H := H.1 hc
                              refine rc_iconst mq19 (mvDec_of cd19 rfl) (by decide) ?_
                              refine rc_zret mq19 (mvDec_of cd19 rfl) (Or.inl rfl) ?_
                              show Rch 142 70 [some (mvR 3), some (mvI x1), some (mvI x2), some (mvI x3), some (mvI x4)] [mvI 0] (97, g, h) _
                              refine rc_ifT (t := 77) mq142 (mvDec_of cd142 rfl) rfl rfl ?_
                              refine rc_iconst mq142 (mvDec_of cd142 rfl) (by decide) ?_
                              exact rc_iret mq142 (mvDec_of cd142 rfl) ⟨_, _, rfl, rfl, H⟩
                            · replace H := H.2 hc
                              refine rc_iconst mq19 (mvDec_of cd19 rfl) (by decide) ?_
                              refine rc_goto (t := 16) mq19 (mvDec_of cd19 rfl) rfl ?_
                              refine rc_zret mq19 (mvDec_of cd19 rfl) (Or.inr rfl) ?_
                              show Rch 142 70 [some (mvR 3), some (mvI x1), some (mvI x2), some (mvI x3), some (mvI x4)] [mvI 1] (97, g, h) _
                              refine rc_ifF (t := 77) mq142 (mvDec_of cd142 rfl) rfl rfl ?_
                              refine rc_iconst mq142 (mvDec_of cd142 rfl) (by decide) ?_
                              refine rc_goto (t := 78) mq142 (mvDec_of cd142 rfl) rfl ?_
                              exact rc_iret mq142 (mvDec_of cd142 rfl) ⟨_, _, rfl, rfl, H⟩
                        · replace H := H.2 hc
                          refine rc_iconst mq19 (mvDec_of cd19 rfl) (by decide) ?_
                          refine rc_goto (t := 42) mq19 (mvDec_of cd19 rfl) rfl ?_
                          refine rc_zret mq19 (mvDec_of cd19 rfl) (Or.inr rfl) ?_
                          show Rch 142 53 [some (mvR 3), some (mvI x1), some (mvI x2), some (mvI x3), some (mvI x4)] [mvI 1] (97, g, h) _
                          refine rc_ifF (t := 58) mq142 (mvDec_of cd142 rfl) rfl rfl ?_
                          refine rc_iconst mq142 (mvDec_of cd142 rfl) (by decide) ?_
                          exact rc_iret mq142 (mvDec_of cd142 rfl) ⟨_, _, rfl, rfl, H⟩
                      · replace H := H.2 hc
                        refine rc_iload_n mq19 (mvDec_of cd19 rfl) rfl ?_
                        refine rc_iload mq19 (mvDec_of cd19 rfl) rfl ?_
                        refine rc_icmp_ge (t := 15) mq19 (mvDec_of cd19 rfl) rfl (fun hc => ?_) (fun hc => ?_)
                        · replace H := H.1 hc
                          refine rc_iconst mq19 (mvDec_of cd19 rfl) (by decide) ?_
                          refine rc_zret mq19 (mvDec_of cd19 rfl) (Or.inl rfl) ?_
                          show Rch 142 53 [some (mvR 3), some (mvI x1), some (mvI x2), some (mvI x3), some (mvI x4)] [mvI 0] (97, g, h) _
                          refine rc_ifT (t := 58) mq142 (mvDec_of cd142 rfl) rfl rfl ?_
                          refine rc_aload_n mq142 (mvDec_of cd142 rfl) rfl ?_
                          refine rc_getR (evO sw) mq142 (mvDec_of cd142 rfl) fl_0_19 mis3 rfl (gr_3_1 hG) (evO_ne sw) ?_
                          refine rc_iload_n mq142 (mvDec_of cd142 rfl) rfl ?_
                          refine rc_iload mq142 (mvDec_of cd142 rfl) rfl ?_
                          refine rc_iload_n mq142 (mvDec_of cd142 rfl) rfl ?_
                          refine rc_iload_n mq142 (mvDec_of cd142 rfl) rfl ?_
                          refine rc_callV [mvR (evO sw), mvI x3, mvI x4, mvI x1, mvI x2] [] [some (mvR (evO sw)), some (mvI x3), some (mvI x4), some (mvI x1), some (mvI x2)] mq142 (mvDec_of cd142 rfl) lk_0_141 mq19 (by decide) rfl rfl (Nat.le_of_ble_eq_true rfl) (Nat.le_of_ble_eq_true rfl) (by decide) rfl (miE0 (evO_id sw)) rfl ?_
                          refine rc_iload_n mq19 (mvDec_of cd19 rfl) rfl ?_
                          refine rc_iload_n mq19 (mvDec_of cd19 rfl) rfl ?_
                          refine rc_icmp_ne (t := 17) mq19 (mvDec_of cd19 rfl) rfl (fun hc => ?_) (fun hc => ?_)
                          · replace H := H.1 hc
                            refine rc_aload_n mq19 (mvDec_of cd19 rfl) rfl ?_
                            refine rc_getR (evO sw + 5) mq19 (mvDec_of cd19 rfl) fl_2_24 (miE0 (evO_id sw)) rfl (mgE6 (evO_id sw) hG) (Nat.succ_ne_zero _) ?_
                            refine rc_iload_n mq19 (mvDec_of cd19 rfl) rfl ?_
                            refine rc_bipush mq19 (mvDec_of cd19 rfl) (by decide) ?_
                            refine rc_imul mq19 (mvDec_of cd19 rfl) ?_
                            refine rc_iload mq19 (mvDec_of cd19 rfl) rfl ?_
                            refine rc_iadd mq19 (mvDec_of cd19 rfl) ?_
                            refine rc_iconst mq19 (mvDec_of cd19 rfl) (by decide) ?_
                            refine rc_imul mq19 (mvDec_of cd19 rfl) ?_
                            refine rc_iload_n mq19 (mvDec_of cd19 rfl) rfl ?_
                            refine rc_iadd mq19 (mvDec_of cd19 rfl) ?_
                            obtain ⟨⟨hb0, hb1⟩, H⟩ := H
                            refine rc_iald mq19 (mvDec_of cd19 rfl) (miE5 (evO_id sw)) hb0 hb1 ?_
                            refine rc_iload_n mq19 (mvDec_of cd19 rfl) rfl ?_
                            refine rc_icmp_le (t := 41) mq19 (mvDec_of cd19 rfl) rfl (fun hc => ?_) (fun hc => ?_)
                            · replace H := H.1 hc
                              refine rc_iconst mq19 (mvDec_of cd19 rfl) (by decide) ?_
                              refine rc_zret mq19 (mvDec_of cd19 rfl) (Or.inl rfl) ?_
                              show Rch 142 70 [some (mvR 3), some (mvI x1), some (mvI x2), some (mvI x3), some (mvI x4)] [mvI 0] (97, g, h) _
                              refine rc_ifT (t := 77) mq142 (mvDec_of cd142 rfl) rfl rfl ?_
                              refine rc_iconst mq142 (mvDec_of cd142 rfl) (by decide) ?_
                              exact rc_iret mq142 (mvDec_of cd142 rfl) ⟨_, _, rfl, rfl, H⟩
                            · replace H := H.2 hc
                              refine rc_iconst mq19 (mvDec_of cd19 rfl) (by decide) ?_
                              refine rc_goto (t := 42) mq19 (mvDec_of cd19 rfl) rfl ?_
                              refine rc_zret mq19 (mvDec_of cd19 rfl) (Or.inr rfl) ?_
                              show Rch 142 70 [some (mvR 3), some (mvI x1), some (mvI x2), some (mvI x3), some (mvI x4)] [mvI 1] (97, g, h) _
                              refine rc_ifF (t := 77) mq142 (mvDec_of cd142 rfl) rfl rfl ?_
                              refine rc_iconst mq142 (mvDec_of cd142 rfl) (by decide) ?_
                              refine rc_goto (t := 78) mq142 (mvDec_of cd142 rfl) rfl ?_
                              exact rc_iret mq142 (mvDec_of cd142 rfl) ⟨_, _, rfl, rfl, H⟩
                          · replace H := H.2 hc
                            refine rc_iload_n mq19 (mvDec_of cd19 rfl) rfl ?_
                            refine rc_iload mq19 (mvDec_of cd19 rfl) rfl ?_
                            refine rc_icmp_ge (t := 15) mq19 (mvDec_of cd19 rfl) rfl (fun hc => ?_) (fun hc => ?_)
                            · replace H := H.1 hc
                              refine rc_iconst mq19 (mvDec_of cd19 rfl) (by decide) ?_
                              refine rc_zret mq19 (mvDec_of cd19 rfl) (Or.inl rfl) ?_
                              show Rch 142 70 [some (mvR 3), some (mvI x1), some (mvI x2), some (mvI x3), some (mvI x4)] [mvI 0] (97, g, h) _
                              refine rc_ifT (t := 77) mq142 (mvDec_of cd142 rfl) rfl rfl ?_
                              refine rc_iconst mq142 (mvDec_of cd142 rfl) (by decide) ?_
                              exact rc_iret mq142 (mvDec_of cd142 rfl) ⟨_, _, rfl, rfl, H⟩
                            · replace H := H.2 hc
                              refine rc_iconst mq19 (mvDec_of cd19 rfl) (by decide) ?_
                              refine rc_goto (t := 16) mq19 (mvDec_of cd19 rfl) rfl ?_
                              refine rc_zret mq19 (mvDec_of cd19 rfl) (Or.inr rfl) ?_
                              show Rch 142 70 [some (mvR 3), some (mvI x1), some (mvI x2), some (mvI x3), some (mvI x4)] [mvI 1] (97, g, h) _
                              refine rc_ifF (t := 77) mq142 (mvDec_of cd142 rfl) rfl rfl ?_
                              refine rc_iconst mq142 (mvDec_of cd142 rfl) (by decide) ?_
                              refine rc_goto (t := 78) mq142 (mvDec_of cd142 rfl) rfl ?_
                              exact rc_iret mq142 (mvDec_of cd142 rfl) ⟨_, _, rfl, rfl, H⟩
                        · replace H := H.2 hc
                          refine rc_iconst mq19 (mvDec_of cd19 rfl) (by decide) ?_
                          refine rc_goto (t := 16) mq19 (mvDec_of cd19 rfl) rfl ?_
                          refine rc_zret mq19 (mvDec_of cd19 rfl) (Or.inr rfl) ?_
                          show Rch 142 53 [some (mvR 3), some (mvI x1), some (mvI x2), some (mvI x3), some (mvI x4)] [mvI 1] (97, g, h) _
                          refine rc_ifF (t := 58) mq142 (mvDec_of cd142 rfl) rfl rfl ?_
                          refine rc_iconst mq142 (mvDec_of cd142 rfl) (by decide) ?_
                          exact rc_iret mq142 (mvDec_of cd142 rfl) ⟨_, _, rfl, rfl, H⟩
                    · replace H := H.2 hc
                      refine rc_iconst mq142 (mvDec_of cd142 rfl) (by decide) ?_
                      exact rc_iret mq142 (mvDec_of cd142 rfl) ⟨_, _, rfl, rfl, H⟩
abbrev RC_wish (g : Nat → Nat → Nat) (h : Nat → Int → Int) (x1 : Int) (x2 : Int) (K : Int → (Nat → Int → Int) → Prop) : Prop := RI 143 0 [some (mvR 3), some (mvI x1), some (mvI x2), none] [] g h K
theorem RC_wish_wp {sw : Bool} {g : Nat → Nat → Nat} {h : Nat → Int → Int} {x1 : Int} {x2 : Int} {K : Int → (Nat → Int → Int) → Prop} (hG : Gok sw g)  (H :
  ((x1 < 0 →
    K (-102) h) ∧
  (0 ≤ x1 →
    ((3 < x1 →
      K (-102) h) ∧
    (x1 ≤ 3 →
      ((x2 < 0 →
        K (-102) h) ∧
      (0 ≤ x2 →
        ((x2 ≤ 36 →
          (∀ v1, v1 = (h 31 0) →
          (∀ h2, h2 = mvUpd h 31 0 x1 →
          (∀ h3, h3 = mvUpd h2 31 1 x2 →
          (∀ h4, h4 = mvUpd h3 33 0 0 →
          (∀ h5, h5 = mvUpd h4 51 0 0 →
          (∀ h6, h6 = mvUpd h5 58 0 0 →
          K v1 h6))))))) ∧
        (36 < x2 →
          K (-102) h))))))))) : RC_wish g h x1 x2 K := by
  refine rc_iload_n mq143 (mvDec_of cd143 rfl) rfl ?_
  refine rc_if_lt (t := 19) mq143 (mvDec_of cd143 rfl) rfl (fun hc => ?_) (fun hc => ?_)
  · replace H := H.1 hc
    refine rc_bipush mq143 (mvDec_of cd143 rfl) (by decide) ?_
    exact rc_iret mq143 (mvDec_of cd143 rfl) ⟨_, _, rfl, rfl, H⟩
  · replace H := H.2 hc
    refine rc_iload_n mq143 (mvDec_of cd143 rfl) rfl ?_
    refine rc_iconst mq143 (mvDec_of cd143 rfl) (by decide) ?_
    refine rc_icmp_gt (t := 19) mq143 (mvDec_of cd143 rfl) rfl (fun hc => ?_) (fun hc => ?_)
    · replace H := H.1 hc
      refine rc_bipush mq143 (mvDec_of cd143 rfl) (by decide) ?_
      exact rc_iret mq143 (mvDec_of cd143 rfl) ⟨_, _, rfl, rfl, H⟩
    · replace H := H.2 hc
      refine rc_iload_n mq143 (mvDec_of cd143 rfl) rfl ?_
      refine rc_if_lt (t := 19) mq143 (mvDec_of cd143 rfl) rfl (fun hc => ?_) (fun hc => ?_)
      · replace H := H.1 hc
        refine rc_bipush mq143 (mvDec_of cd143 rfl) (by decide) ?_
        exact rc_iret mq143 (mvDec_of cd143 rfl) ⟨_, _, rfl, rfl, H⟩
      · replace H := H.2 hc
        refine rc_iload_n mq143 (mvDec_of cd143 rfl) rfl ?_
        refine rc_bipush mq143 (mvDec_of cd143 rfl) (by decide) ?_
        refine rc_icmp_le (t := 22) mq143 (mvDec_of cd143 rfl) rfl (fun hc => ?_) (fun hc => ?_)
        · replace H := H.1 hc
          refine rc_aload_n mq143 (mvDec_of cd143 rfl) rfl ?_
          refine rc_getR 31 mq143 (mvDec_of cd143 rfl) fl_0_36 mis3 rfl (gr_3_4 hG) (by decide) ?_
          refine rc_getI 0 mq143 (mvDec_of cd143 rfl) fl_0_193 mis31 rfl (by decide) (by decide) ?_
          refine rc_top (fun v1 hv => ?_)
          replace H := H v1 hv
          refine rc_istore_n [some (mvR 3), some (mvI x1), some (mvI x2), some (mvI v1)] mq143 (mvDec_of cd143 rfl) rfl ?_
          refine rc_aload_n mq143 (mvDec_of cd143 rfl) rfl ?_
          refine rc_getR 31 mq143 (mvDec_of cd143 rfl) fl_0_36 mis3 rfl (gr_3_4 hG) (by decide) ?_
          refine rc_iload_n mq143 (mvDec_of cd143 rfl) rfl ?_
          refine rc_putI 0 mq143 (mvDec_of cd143 rfl) fl_0_193 mis31 rfl (fun z => absurd z (by decide)) (Or.inl rfl) ?_
          refine rc_heap (fun h2 hh => ?_)
          replace H := H h2 hh
          refine rc_aload_n mq143 (mvDec_of cd143 rfl) rfl ?_
          refine rc_getR 31 mq143 (mvDec_of cd143 rfl) fl_0_36 mis3 rfl (gr_3_4 hG) (by decide) ?_
          refine rc_iload_n mq143 (mvDec_of cd143 rfl) rfl ?_
          refine rc_putI 1 mq143 (mvDec_of cd143 rfl) fl_0_196 mis31 rfl (fun z => absurd z (by decide)) (Or.inl rfl) ?_
          refine rc_heap (fun h3 hh => ?_)
          replace H := H h3 hh
          refine rc_aload_n mq143 (mvDec_of cd143 rfl) rfl ?_
          refine rc_callV [mvR 3] [] [some (mvR 3)] mq143 (mvDec_of cd143 rfl) lk_0_199 mq73 (by decide) rfl rfl (Nat.le_of_ble_eq_true rfl) (Nat.le_of_ble_eq_true rfl) (by decide) rfl mis3 rfl ?_
          refine rc_aload_n mq73 (mvDec_of cd73 rfl) rfl ?_
          refine rc_getR 33 mq73 (mvDec_of cd73 rfl) fl_0_43 mis3 rfl (gr_3_5 hG) (by decide) ?_
          refine rc_iconst mq73 (mvDec_of cd73 rfl) (by decide) ?_
          refine rc_putI 0 mq73 (mvDec_of cd73 rfl) fl_0_301 mis33 rfl (fun z => absurd z (by decide)) (Or.inr ⟨rfl, Or.inl rfl⟩) ?_
          refine rc_heap (fun h4 hh => ?_)
          replace H := H h4 hh
          refine rc_aload_n mq73 (mvDec_of cd73 rfl) rfl ?_
          refine rc_getR 41 mq73 (mvDec_of cd73 rfl) fl_0_57 mis3 rfl (gr_3_7 hG) (by decide) ?_
          refine rc_callV [mvR 41] [] [some (mvR 41)] mq73 (mvDec_of cd73 rfl) lk_0_302 mq35 (by decide) rfl rfl (Nat.le_of_ble_eq_true rfl) (Nat.le_of_ble_eq_true rfl) (by decide) rfl mis41 rfl ?_
          refine rc_aload_n mq35 (mvDec_of cd35 rfl) rfl ?_
          refine rc_getR 51 mq35 (mvDec_of cd35 rfl) fl_7_21 mis41 rfl (gr_41_1 hG) (by decide) ?_
          refine rc_iconst mq35 (mvDec_of cd35 rfl) (by decide) ?_
          refine rc_putI 0 mq35 (mvDec_of cd35 rfl) fl_7_32 mis51 rfl (fun z => absurd z (by decide)) (Or.inr ⟨rfl, Or.inl rfl⟩) ?_
          refine rc_heap (fun h5 hh => ?_)
          replace H := H h5 hh
          refine rc_aload_n mq35 (mvDec_of cd35 rfl) rfl ?_
          refine rc_getR 58 mq35 (mvDec_of cd35 rfl) fl_7_28 mis41 rfl (gr_41_2 hG) (by decide) ?_
          refine rc_iconst mq35 (mvDec_of cd35 rfl) (by decide) ?_
          refine rc_putI 0 mq35 (mvDec_of cd35 rfl) fl_7_36 mis58 rfl (fun z => absurd z (by decide)) (Or.inr ⟨rfl, Or.inl rfl⟩) ?_
          refine rc_heap (fun h6 hh => ?_)
          replace H := H h6 hh
          refine rc_vret mq35 (mvDec_of cd35 rfl) ?_
          show Rch 73 15 [some (mvR 3)] [] (97, g, h6) _
          refine rc_vret mq73 (mvDec_of cd73 rfl) ?_
          show Rch 143 50 [some (mvR 3), some (mvI x1), some (mvI x2), some (mvI v1)] [] (97, g, h6) _
          refine rc_iload_n mq143 (mvDec_of cd143 rfl) rfl ?_
          exact rc_iret mq143 (mvDec_of cd143 rfl) ⟨_, _, rfl, rfl, H⟩
        · replace H := H.2 hc
          refine rc_bipush mq143 (mvDec_of cd143 rfl) (by decide) ?_
          exact rc_iret mq143 (mvDec_of cd143 rfl) ⟨_, _, rfl, rfl, H⟩
abbrev RC_allow (g : Nat → Nat → Nat) (h : Nat → Int → Int) (x1 : Int) (x2 : Int) (K : Int → (Nat → Int → Int) → Prop) : Prop := RI 144 0 [some (mvR 3), some (mvI x1), some (mvI x2), none] [] g h K
theorem RC_allow_wp {sw : Bool} {g : Nat → Nat → Nat} {h : Nat → Int → Int} {x1 : Int} {x2 : Int} {K : Int → (Nat → Int → Int) → Prop} (hG : Gok sw g)  (H :
  ((x1 < 0 →
    K (-101) h) ∧
  (0 ≤ x1 →
    (((h (evO sw) 0) ≤ x1 →
      K (-101) h) ∧
    (x1 < (h (evO sw) 0) →
      ((x2 < 0 →
        K (-102) h) ∧
      (0 ≤ x2 →
        ((x2 ≤ 1023 →
          (0 ≤ x1 ∧ x1 < 4) ∧
          (∀ v1, v1 = (h 32 x1) →
          (0 ≤ x1 ∧ x1 < 4) ∧
          (∀ h2, h2 = mvUpd h 32 x1 x2 →
          (∀ h3, h3 = mvUpd h2 33 0 0 →
          (∀ h4, h4 = mvUpd h3 51 0 0 →
          (∀ h5, h5 = mvUpd h4 58 0 0 →
          K v1 h5)))))) ∧
        (1023 < x2 →
          K (-102) h))))))))) : RC_allow g h x1 x2 K := by
  refine rc_aload_n mq144 (mvDec_of cd144 rfl) rfl ?_
  refine rc_getR (evO sw) mq144 (mvDec_of cd144 rfl) fl_0_19 mis3 rfl (gr_3_1 hG) (evO_ne sw) ?_
  refine rc_iload_n mq144 (mvDec_of cd144 rfl) rfl ?_
  refine rc_callV [mvR (evO sw), mvI x1] [] [some (mvR (evO sw)), some (mvI x1)] mq144 (mvDec_of cd144 rfl) lk_0_107 mq8 (by decide) rfl rfl (Nat.le_of_ble_eq_true rfl) (Nat.le_of_ble_eq_true rfl) (by decide) rfl (miE0 (evO_id sw)) rfl ?_
  refine rc_iload_n mq8 (mvDec_of cd8 rfl) rfl ?_
  refine rc_if_lt (t := 16) mq8 (mvDec_of cd8 rfl) rfl (fun hc => ?_) (fun hc => ?_)
  · replace H := H.1 hc
    refine rc_iconst mq8 (mvDec_of cd8 rfl) (by decide) ?_
    refine rc_zret mq8 (mvDec_of cd8 rfl) (Or.inl rfl) ?_
    show Rch 144 8 [some (mvR 3), some (mvI x1), some (mvI x2), none] [mvI 0] (97, g, h) _
    refine rc_ifF (t := 14) mq144 (mvDec_of cd144 rfl) rfl rfl ?_
    refine rc_bipush mq144 (mvDec_of cd144 rfl) (by decide) ?_
    exact rc_iret mq144 (mvDec_of cd144 rfl) ⟨_, _, rfl, rfl, H⟩
  · replace H := H.2 hc
    refine rc_iload_n mq8 (mvDec_of cd8 rfl) rfl ?_
    refine rc_aload_n mq8 (mvDec_of cd8 rfl) rfl ?_
    refine rc_getI 0 mq8 (mvDec_of cd8 rfl) fl_2_36 (miE0 (evO_id sw)) rfl (by decide) (by decide) ?_
    refine rc_icmp_ge (t := 16) mq8 (mvDec_of cd8 rfl) rfl (fun hc => ?_) (fun hc => ?_)
    · replace H := H.1 hc
      refine rc_iconst mq8 (mvDec_of cd8 rfl) (by decide) ?_
      refine rc_zret mq8 (mvDec_of cd8 rfl) (Or.inl rfl) ?_
      show Rch 144 8 [some (mvR 3), some (mvI x1), some (mvI x2), none] [mvI 0] (97, g, h) _
      refine rc_ifF (t := 14) mq144 (mvDec_of cd144 rfl) rfl rfl ?_
      refine rc_bipush mq144 (mvDec_of cd144 rfl) (by decide) ?_
      exact rc_iret mq144 (mvDec_of cd144 rfl) ⟨_, _, rfl, rfl, H⟩
    · replace H := H.2 hc
      refine rc_iconst mq8 (mvDec_of cd8 rfl) (by decide) ?_
      refine rc_goto (t := 17) mq8 (mvDec_of cd8 rfl) rfl ?_
      refine rc_zret mq8 (mvDec_of cd8 rfl) (Or.inr rfl) ?_
      show Rch 144 8 [some (mvR 3), some (mvI x1), some (mvI x2), none] [mvI 1] (97, g, h) _
      refine rc_ifT (t := 14) mq144 (mvDec_of cd144 rfl) rfl rfl ?_
      refine rc_iload_n mq144 (mvDec_of cd144 rfl) rfl ?_
      refine rc_if_lt (t := 25) mq144 (mvDec_of cd144 rfl) rfl (fun hc => ?_) (fun hc => ?_)
      · replace H := H.1 hc
        refine rc_bipush mq144 (mvDec_of cd144 rfl) (by decide) ?_
        exact rc_iret mq144 (mvDec_of cd144 rfl) ⟨_, _, rfl, rfl, H⟩
      · replace H := H.2 hc
        refine rc_iload_n mq144 (mvDec_of cd144 rfl) rfl ?_
        refine rc_sipush mq144 (mvDec_of cd144 rfl) (by decide) ?_
        refine rc_icmp_le (t := 28) mq144 (mvDec_of cd144 rfl) rfl (fun hc => ?_) (fun hc => ?_)
        · replace H := H.1 hc
          refine rc_aload_n mq144 (mvDec_of cd144 rfl) rfl ?_
          refine rc_getR 31 mq144 (mvDec_of cd144 rfl) fl_0_36 mis3 rfl (gr_3_4 hG) (by decide) ?_
          refine rc_getR 32 mq144 (mvDec_of cd144 rfl) fl_0_202 mis31 rfl (gr_31_2 hG) (by decide) ?_
          refine rc_iload_n mq144 (mvDec_of cd144 rfl) rfl ?_
          obtain ⟨⟨hb0, hb1⟩, H⟩ := H
          refine rc_iald mq144 (mvDec_of cd144 rfl) mis32 hb0 hb1 ?_
          refine rc_top (fun v1 hv => ?_)
          replace H := H v1 hv
          refine rc_istore_n [some (mvR 3), some (mvI x1), some (mvI x2), some (mvI v1)] mq144 (mvDec_of cd144 rfl) rfl ?_
          refine rc_aload_n mq144 (mvDec_of cd144 rfl) rfl ?_
          refine rc_getR 31 mq144 (mvDec_of cd144 rfl) fl_0_36 mis3 rfl (gr_3_4 hG) (by decide) ?_
          refine rc_getR 32 mq144 (mvDec_of cd144 rfl) fl_0_202 mis31 rfl (gr_31_2 hG) (by decide) ?_
          refine rc_iload_n mq144 (mvDec_of cd144 rfl) rfl ?_
          refine rc_iload_n mq144 (mvDec_of cd144 rfl) rfl ?_
          obtain ⟨⟨hb0, hb1⟩, H⟩ := H
          refine rc_iast mq144 (mvDec_of cd144 rfl) mis32 hb0 hb1 ?_
          refine rc_heap (fun h2 hh => ?_)
          replace H := H h2 hh
          refine rc_aload_n mq144 (mvDec_of cd144 rfl) rfl ?_
          refine rc_callV [mvR 3] [] [some (mvR 3)] mq144 (mvDec_of cd144 rfl) lk_0_199 mq73 (by decide) rfl rfl (Nat.le_of_ble_eq_true rfl) (Nat.le_of_ble_eq_true rfl) (by decide) rfl mis3 rfl ?_
          refine rc_aload_n mq73 (mvDec_of cd73 rfl) rfl ?_
          refine rc_getR 33 mq73 (mvDec_of cd73 rfl) fl_0_43 mis3 rfl (gr_3_5 hG) (by decide) ?_
          refine rc_iconst mq73 (mvDec_of cd73 rfl) (by decide) ?_
          refine rc_putI 0 mq73 (mvDec_of cd73 rfl) fl_0_301 mis33 rfl (fun z => absurd z (by decide)) (Or.inr ⟨rfl, Or.inl rfl⟩) ?_
          refine rc_heap (fun h3 hh => ?_)
          replace H := H h3 hh
          refine rc_aload_n mq73 (mvDec_of cd73 rfl) rfl ?_
          refine rc_getR 41 mq73 (mvDec_of cd73 rfl) fl_0_57 mis3 rfl (gr_3_7 hG) (by decide) ?_
          refine rc_callV [mvR 41] [] [some (mvR 41)] mq73 (mvDec_of cd73 rfl) lk_0_302 mq35 (by decide) rfl rfl (Nat.le_of_ble_eq_true rfl) (Nat.le_of_ble_eq_true rfl) (by decide) rfl mis41 rfl ?_
          refine rc_aload_n mq35 (mvDec_of cd35 rfl) rfl ?_
          refine rc_getR 51 mq35 (mvDec_of cd35 rfl) fl_7_21 mis41 rfl (gr_41_1 hG) (by decide) ?_
          refine rc_iconst mq35 (mvDec_of cd35 rfl) (by decide) ?_
          refine rc_putI 0 mq35 (mvDec_of cd35 rfl) fl_7_32 mis51 rfl (fun z => absurd z (by decide)) (Or.inr ⟨rfl, Or.inl rfl⟩) ?_
          refine rc_heap (fun h4 hh => ?_)
          replace H := H h4 hh
          refine rc_aload_n mq35 (mvDec_of cd35 rfl) rfl ?_
          refine rc_getR 58 mq35 (mvDec_of cd35 rfl) fl_7_28 mis41 rfl (gr_41_2 hG) (by decide) ?_
          refine rc_iconst mq35 (mvDec_of cd35 rfl) (by decide) ?_
          refine rc_putI 0 mq35 (mvDec_of cd35 rfl) fl_7_36 mis58 rfl (fun z => absurd z (by decide)) (Or.inr ⟨rfl, Or.inl rfl⟩) ?_
          refine rc_heap (fun h5 hh => ?_)
          replace H := H h5 hh
          refine rc_vret mq35 (mvDec_of cd35 rfl) ?_
          show Rch 73 15 [some (mvR 3)] [] (97, g, h5) _
          refine rc_vret mq73 (mvDec_of cd73 rfl) ?_
          show Rch 144 52 [some (mvR 3), some (mvI x1), some (mvI x2), some (mvI v1)] [] (97, g, h5) _
          refine rc_iload_n mq144 (mvDec_of cd144 rfl) rfl ?_
          exact rc_iret mq144 (mvDec_of cd144 rfl) ⟨_, _, rfl, rfl, H⟩
        · replace H := H.2 hc
          refine rc_bipush mq144 (mvDec_of cd144 rfl) (by decide) ?_
          exact rc_iret mq144 (mvDec_of cd144 rfl) ⟨_, _, rfl, rfl, H⟩
abbrev RC_interval (g : Nat → Nat → Nat) (h : Nat → Int → Int) (x1 : Int) (x2 : Int) (x3 : Int) (K : Int → (Nat → Int → Int) → Prop) : Prop := RI 145 0 [some (mvR 3), some (mvI x1), some (mvI x2), some (mvI x3)] [] g h K
theorem RC_interval_wp {sw : Bool} {g : Nat → Nat → Nat} {h : Nat → Int → Int} {x1 : Int} {x2 : Int} {x3 : Int} {K : Int → (Nat → Int → Int) → Prop} (hG : Gok sw g)  (H :
  (((h (evO sw) 0) ≤ 0 →
    K (-103) h) ∧
  (0 < (h (evO sw) 0) →
    ((¬ (h 31 0) = 0 →
      K (-103) h) ∧
    ((h 31 0) = 0 →
      ((x1 < 0 →
        K (-101) h) ∧
      (0 ≤ x1 →
        (((h (evO sw) 0) ≤ x1 →
          K (-101) h) ∧
        (x1 < (h (evO sw) 0) →
          IV_find g h (evO sw) (fun h1 =>
            ((x2 < 0 →
              K (-101) h1) ∧
            (0 ≤ x2 →
              (0 ≤ x1 ∧ x1 < 4) ∧
              ((x2 < (h1 37 x1) →
                ((x3 < 0 →
                  K (-102) h1) ∧
                (0 ≤ x3 →
                  ((x3 ≤ 1 →
                    ((¬ x3 = 0 →
                      (0 ≤ (mw ((mw (x1 * 5)) + x2)) ∧ (mw ((mw (x1 * 5)) + x2)) < 20) ∧
                      K (h1 39 (mw ((mw (x1 * 5)) + x2))) h1) ∧
                    (x3 = 0 →
                      (0 ≤ (mw ((mw (x1 * 5)) + x2)) ∧ (mw ((mw (x1 * 5)) + x2)) < 20) ∧
                      K (h1 38 (mw ((mw (x1 * 5)) + x2))) h1))) ∧
                  (1 < x3 →
                    K (-102) h1))))) ∧
              ((h1 37 x1) ≤ x2 →
                K (-101) h1)))))))))))))) : RC_interval g h x1 x2 x3 K := by
  refine rc_aload_n mq145 (mvDec_of cd145 rfl) rfl ?_
  refine rc_callV [mvR 3] [] [some (mvR 3)] mq145 (mvDec_of cd145 rfl) lk_0_215 mq72 (by decide) rfl rfl (Nat.le_of_ble_eq_true rfl) (Nat.le_of_ble_eq_true rfl) (by decide) rfl mis3 rfl ?_
  refine rc_aload_n mq72 (mvDec_of cd72 rfl) rfl ?_
  refine rc_callV [mvR 3] [] [some (mvR 3)] mq72 (mvDec_of cd72 rfl) lk_0_145 mq3 (by decide) rfl rfl (Nat.le_of_ble_eq_true rfl) (Nat.le_of_ble_eq_true rfl) (by decide) rfl mis3 rfl ?_
  refine rc_aload_n mq3 (mvDec_of cd3 rfl) rfl ?_
  refine rc_getR (evO sw) mq3 (mvDec_of cd3 rfl) fl_0_19 mis3 rfl (gr_3_1 hG) (evO_ne sw) ?_
  refine rc_getI 0 mq3 (mvDec_of cd3 rfl) fl_0_104 (miE0 (evO_id sw)) rfl (by decide) (by decide) ?_
  refine rc_if_le (t := 14) mq3 (mvDec_of cd3 rfl) rfl (fun hc => ?_) (fun hc => ?_)
  · replace H := H.1 hc
    refine rc_iconst mq3 (mvDec_of cd3 rfl) (by decide) ?_
    refine rc_zret mq3 (mvDec_of cd3 rfl) (Or.inl rfl) ?_
    show Rch 72 4 [some (mvR 3)] [mvI 0] (97, g, h) _
    refine rc_ifT (t := 21) mq72 (mvDec_of cd72 rfl) rfl rfl ?_
    refine rc_iconst mq72 (mvDec_of cd72 rfl) (by decide) ?_
    refine rc_zret mq72 (mvDec_of cd72 rfl) (Or.inl rfl) ?_
    show Rch 145 4 [some (mvR 3), some (mvI x1), some (mvI x2), some (mvI x3)] [mvI 0] (97, g, h) _
    refine rc_ifF (t := 10) mq145 (mvDec_of cd145 rfl) rfl rfl ?_
    refine rc_bipush mq145 (mvDec_of cd145 rfl) (by decide) ?_
    exact rc_iret mq145 (mvDec_of cd145 rfl) ⟨_, _, rfl, rfl, H⟩
  · replace H := H.2 hc
    refine rc_iconst mq3 (mvDec_of cd3 rfl) (by decide) ?_
    refine rc_goto (t := 15) mq3 (mvDec_of cd3 rfl) rfl ?_
    refine rc_zret mq3 (mvDec_of cd3 rfl) (Or.inr rfl) ?_
    show Rch 72 4 [some (mvR 3)] [mvI 1] (97, g, h) _
    refine rc_ifF (t := 21) mq72 (mvDec_of cd72 rfl) rfl rfl ?_
    refine rc_aload_n mq72 (mvDec_of cd72 rfl) rfl ?_
    refine rc_getR 31 mq72 (mvDec_of cd72 rfl) fl_0_36 mis3 rfl (gr_3_4 hG) (by decide) ?_
    refine rc_getI 0 mq72 (mvDec_of cd72 rfl) fl_0_193 mis31 rfl (by decide) (by decide) ?_
    refine rc_if_ne (t := 21) mq72 (mvDec_of cd72 rfl) rfl (fun hc => ?_) (fun hc => ?_)
    · replace H := H.1 hc
      refine rc_iconst mq72 (mvDec_of cd72 rfl) (by decide) ?_
      refine rc_zret mq72 (mvDec_of cd72 rfl) (Or.inl rfl) ?_
      show Rch 145 4 [some (mvR 3), some (mvI x1), some (mvI x2), some (mvI x3)] [mvI 0] (97, g, h) _
      refine rc_ifF (t := 10) mq145 (mvDec_of cd145 rfl) rfl rfl ?_
      refine rc_bipush mq145 (mvDec_of cd145 rfl) (by decide) ?_
      exact rc_iret mq145 (mvDec_of cd145 rfl) ⟨_, _, rfl, rfl, H⟩
    · replace H := H.2 hc
      refine rc_iconst mq72 (mvDec_of cd72 rfl) (by decide) ?_
      refine rc_goto (t := 22) mq72 (mvDec_of cd72 rfl) rfl ?_
      refine rc_zret mq72 (mvDec_of cd72 rfl) (Or.inr rfl) ?_
      show Rch 145 4 [some (mvR 3), some (mvI x1), some (mvI x2), some (mvI x3)] [mvI 1] (97, g, h) _
      refine rc_ifT (t := 10) mq145 (mvDec_of cd145 rfl) rfl rfl ?_
      refine rc_aload_n mq145 (mvDec_of cd145 rfl) rfl ?_
      refine rc_getR (evO sw) mq145 (mvDec_of cd145 rfl) fl_0_19 mis3 rfl (gr_3_1 hG) (evO_ne sw) ?_
      refine rc_iload_n mq145 (mvDec_of cd145 rfl) rfl ?_
      refine rc_callV [mvR (evO sw), mvI x1] [] [some (mvR (evO sw)), some (mvI x1)] mq145 (mvDec_of cd145 rfl) lk_0_107 mq8 (by decide) rfl rfl (Nat.le_of_ble_eq_true rfl) (Nat.le_of_ble_eq_true rfl) (by decide) rfl (miE0 (evO_id sw)) rfl ?_
      refine rc_iload_n mq8 (mvDec_of cd8 rfl) rfl ?_
      refine rc_if_lt (t := 16) mq8 (mvDec_of cd8 rfl) rfl (fun hc => ?_) (fun hc => ?_)
      · replace H := H.1 hc
        refine rc_iconst mq8 (mvDec_of cd8 rfl) (by decide) ?_
        refine rc_zret mq8 (mvDec_of cd8 rfl) (Or.inl rfl) ?_
        show Rch 145 18 [some (mvR 3), some (mvI x1), some (mvI x2), some (mvI x3)] [mvI 0] (97, g, h) _
        refine rc_ifF (t := 24) mq145 (mvDec_of cd145 rfl) rfl rfl ?_
        refine rc_bipush mq145 (mvDec_of cd145 rfl) (by decide) ?_
        exact rc_iret mq145 (mvDec_of cd145 rfl) ⟨_, _, rfl, rfl, H⟩
      · replace H := H.2 hc
        refine rc_iload_n mq8 (mvDec_of cd8 rfl) rfl ?_
        refine rc_aload_n mq8 (mvDec_of cd8 rfl) rfl ?_
        refine rc_getI 0 mq8 (mvDec_of cd8 rfl) fl_2_36 (miE0 (evO_id sw)) rfl (by decide) (by decide) ?_
        refine rc_icmp_ge (t := 16) mq8 (mvDec_of cd8 rfl) rfl (fun hc => ?_) (fun hc => ?_)
        · replace H := H.1 hc
          refine rc_iconst mq8 (mvDec_of cd8 rfl) (by decide) ?_
          refine rc_zret mq8 (mvDec_of cd8 rfl) (Or.inl rfl) ?_
          show Rch 145 18 [some (mvR 3), some (mvI x1), some (mvI x2), some (mvI x3)] [mvI 0] (97, g, h) _
          refine rc_ifF (t := 24) mq145 (mvDec_of cd145 rfl) rfl rfl ?_
          refine rc_bipush mq145 (mvDec_of cd145 rfl) (by decide) ?_
          exact rc_iret mq145 (mvDec_of cd145 rfl) ⟨_, _, rfl, rfl, H⟩
        · replace H := H.2 hc
          refine rc_iconst mq8 (mvDec_of cd8 rfl) (by decide) ?_
          refine rc_goto (t := 17) mq8 (mvDec_of cd8 rfl) rfl ?_
          refine rc_zret mq8 (mvDec_of cd8 rfl) (Or.inr rfl) ?_
          show Rch 145 18 [some (mvR 3), some (mvI x1), some (mvI x2), some (mvI x3)] [mvI 1] (97, g, h) _
          refine rc_ifT (t := 24) mq145 (mvDec_of cd145 rfl) rfl rfl ?_
          refine rc_aload_n mq145 (mvDec_of cd145 rfl) rfl ?_
          refine rc_getR 36 mq145 (mvDec_of cd145 rfl) fl_0_50 mis3 rfl (gr_3_6 hG) (by decide) ?_
          refine rc_aload_n mq145 (mvDec_of cd145 rfl) rfl ?_
          refine rc_getR (evO sw) mq145 (mvDec_of cd145 rfl) fl_0_19 mis3 rfl (gr_3_1 hG) (evO_ne sw) ?_
          refine rc_aload_n mq145 (mvDec_of cd145 rfl) rfl ?_
          refine rc_getR 31 mq145 (mvDec_of cd145 rfl) fl_0_36 mis3 rfl (gr_3_4 hG) (by decide) ?_
          refine rc_callV [mvR 36, mvR (evO sw), mvR 31] [] [some (mvR 36), some (mvR (evO sw)), some (mvR 31), none, none, none, none] mq145 (mvDec_of cd145 rfl) lk_0_221 mq100 (by decide) rfl rfl (Nat.le_of_ble_eq_true rfl) (Nat.le_of_ble_eq_true rfl) (by decide) rfl mis36 rfl (rv_bind H (fun h1 H => ?_))
          refine rc_iload_n mq145 (mvDec_of cd145 rfl) rfl ?_
          refine rc_if_lt (t := 56) mq145 (mvDec_of cd145 rfl) rfl (fun hc => ?_) (fun hc => ?_)
          · replace H := H.1 hc
            refine rc_bipush mq145 (mvDec_of cd145 rfl) (by decide) ?_
            exact rc_iret mq145 (mvDec_of cd145 rfl) ⟨_, _, rfl, rfl, H⟩
          · replace H := H.2 hc
            refine rc_iload_n mq145 (mvDec_of cd145 rfl) rfl ?_
            refine rc_aload_n mq145 (mvDec_of cd145 rfl) rfl ?_
            refine rc_getR 36 mq145 (mvDec_of cd145 rfl) fl_0_50 mis3 rfl (gr_3_6 hG) (by decide) ?_
            refine rc_getR 37 mq145 (mvDec_of cd145 rfl) fl_0_228 mis36 rfl (gr_36_0 hG) (by decide) ?_
            refine rc_iload_n mq145 (mvDec_of cd145 rfl) rfl ?_
            obtain ⟨⟨hb0, hb1⟩, H⟩ := H
            refine rc_iald mq145 (mvDec_of cd145 rfl) mis37 hb0 hb1 ?_
            refine rc_icmp_lt (t := 59) mq145 (mvDec_of cd145 rfl) rfl (fun hc => ?_) (fun hc => ?_)
            · replace H := H.1 hc
              refine rc_iload_n mq145 (mvDec_of cd145 rfl) rfl ?_
              refine rc_if_lt (t := 68) mq145 (mvDec_of cd145 rfl) rfl (fun hc => ?_) (fun hc => ?_)
              · replace H := H.1 hc
                refine rc_bipush mq145 (mvDec_of cd145 rfl) (by decide) ?_
                exact rc_iret mq145 (mvDec_of cd145 rfl) ⟨_, _, rfl, rfl, H⟩
              · replace H := H.2 hc
                refine rc_iload_n mq145 (mvDec_of cd145 rfl) rfl ?_
                refine rc_iconst mq145 (mvDec_of cd145 rfl) (by decide) ?_
                refine rc_icmp_le (t := 71) mq145 (mvDec_of cd145 rfl) rfl (fun hc => ?_) (fun hc => ?_)
                · replace H := H.1 hc
                  refine rc_iload_n mq145 (mvDec_of cd145 rfl) rfl ?_
                  refine rc_if_ne (t := 87) mq145 (mvDec_of cd145 rfl) rfl (fun hc => ?_) (fun hc => ?_)
                  · replace H := H.1 hc
                    refine rc_aload_n mq145 (mvDec_of cd145 rfl) rfl ?_
                    refine rc_getR 36 mq145 (mvDec_of cd145 rfl) fl_0_50 mis3 rfl (gr_3_6 hG) (by decide) ?_
                    refine rc_iload_n mq145 (mvDec_of cd145 rfl) rfl ?_
                    refine rc_iload_n mq145 (mvDec_of cd145 rfl) rfl ?_
                    refine rc_callV [mvR 36, mvI x1, mvI x2] [] [some (mvR 36), some (mvI x1), some (mvI x2)] mq145 (mvDec_of cd145 rfl) lk_0_234 mq33 (by decide) rfl rfl (Nat.le_of_ble_eq_true rfl) (Nat.le_of_ble_eq_true rfl) (by decide) rfl mis36 rfl ?_
                    refine rc_aload_n mq33 (mvDec_of cd33 rfl) rfl ?_
                    refine rc_getR 39 mq33 (mvDec_of cd33 rfl) fl_6_18 mis36 rfl (gr_36_2 hG) (by decide) ?_
                    refine rc_iload_n mq33 (mvDec_of cd33 rfl) rfl ?_
                    refine rc_iconst mq33 (mvDec_of cd33 rfl) (by decide) ?_
                    refine rc_imul mq33 (mvDec_of cd33 rfl) ?_
                    refine rc_iload_n mq33 (mvDec_of cd33 rfl) rfl ?_
                    refine rc_iadd mq33 (mvDec_of cd33 rfl) ?_
                    obtain ⟨⟨hb0, hb1⟩, H⟩ := H
                    refine rc_iald mq33 (mvDec_of cd33 rfl) mis39 hb0 hb1 ?_
                    refine rc_iret mq33 (mvDec_of cd33 rfl) ?_
                    show Rch 145 96 [some (mvR 3), some (mvI x1), some (mvI x2), some (mvI x3)] [mvI (h1 39 (mw ((mw (x1 * 5)) + x2)))] (97, g, h1) _
                    exact rc_iret mq145 (mvDec_of cd145 rfl) ⟨_, _, rfl, rfl, H⟩
                  · replace H := H.2 hc
                    refine rc_aload_n mq145 (mvDec_of cd145 rfl) rfl ?_
                    refine rc_getR 36 mq145 (mvDec_of cd145 rfl) fl_0_50 mis3 rfl (gr_3_6 hG) (by decide) ?_
                    refine rc_iload_n mq145 (mvDec_of cd145 rfl) rfl ?_
                    refine rc_iload_n mq145 (mvDec_of cd145 rfl) rfl ?_
                    refine rc_callV [mvR 36, mvI x1, mvI x2] [] [some (mvR 36), some (mvI x1), some (mvI x2)] mq145 (mvDec_of cd145 rfl) lk_0_231 mq32 (by decide) rfl rfl (Nat.le_of_ble_eq_true rfl) (Nat.le_of_ble_eq_true rfl) (by decide) rfl mis36 rfl ?_
                    refine rc_aload_n mq32 (mvDec_of cd32 rfl) rfl ?_
                    refine rc_getR 38 mq32 (mvDec_of cd32 rfl) fl_6_15 mis36 rfl (gr_36_1 hG) (by decide) ?_
                    refine rc_iload_n mq32 (mvDec_of cd32 rfl) rfl ?_
                    refine rc_iconst mq32 (mvDec_of cd32 rfl) (by decide) ?_
                    refine rc_imul mq32 (mvDec_of cd32 rfl) ?_
                    refine rc_iload_n mq32 (mvDec_of cd32 rfl) rfl ?_
                    refine rc_iadd mq32 (mvDec_of cd32 rfl) ?_
                    obtain ⟨⟨hb0, hb1⟩, H⟩ := H
                    refine rc_iald mq32 (mvDec_of cd32 rfl) mis38 hb0 hb1 ?_
                    refine rc_iret mq32 (mvDec_of cd32 rfl) ?_
                    show Rch 145 84 [some (mvR 3), some (mvI x1), some (mvI x2), some (mvI x3)] [mvI (h1 38 (mw ((mw (x1 * 5)) + x2)))] (97, g, h1) _
                    refine rc_goto (t := 96) mq145 (mvDec_of cd145 rfl) rfl ?_
                    exact rc_iret mq145 (mvDec_of cd145 rfl) ⟨_, _, rfl, rfl, H⟩
                · replace H := H.2 hc
                  refine rc_bipush mq145 (mvDec_of cd145 rfl) (by decide) ?_
                  exact rc_iret mq145 (mvDec_of cd145 rfl) ⟨_, _, rfl, rfl, H⟩
            · replace H := H.2 hc
              refine rc_bipush mq145 (mvDec_of cd145 rfl) (by decide) ?_
              exact rc_iret mq145 (mvDec_of cd145 rfl) ⟨_, _, rfl, rfl, H⟩
abbrev RC_mixEvents (g : Nat → Nat → Nat) (h : Nat → Int → Int) (x1 : Int) (K : Int → (Nat → Int → Int) → Prop) : Prop := RJ 146 0 [some (mvR 3), some (mvJ x1), none, none, none, none] [] g h K
abbrev RC_mixEvents_2 (g : Nat → Nat → Nat) (h : Nat → Int → Int) (l1 : Int) (l3 : Int) (u4 : Option Int) (u5 : Option Int) (K : Int → (Nat → Int → Int) → Prop) : Prop := RJ 146 2 [some (mvR 3), some (mvJ l1), none, some (mvI l3), u4.map mvI, u5.map mvI] [] g h K
abbrev RC_mixEvents_16 (g : Nat → Nat → Nat) (h : Nat → Int → Int) (l1 : Int) (l3 : Int) (l4 : Int) (u5 : Option Int) (K : Int → (Nat → Int → Int) → Prop) : Prop := RJ 146 16 [some (mvR 3), some (mvJ l1), none, some (mvI l3), some (mvI l4), u5.map mvI] [] g h K
abbrev RC_mixEvents_33 (g : Nat → Nat → Nat) (h : Nat → Int → Int) (l1 : Int) (l3 : Int) (l4 : Int) (l5 : Int) (K : Int → (Nat → Int → Int) → Prop) : Prop := RJ 146 33 [some (mvR 3), some (mvJ l1), none, some (mvI l3), some (mvI l4), some (mvI l5)] [] g h K
theorem RC_mixEvents_wp {sw : Bool} {g : Nat → Nat → Nat} {h : Nat → Int → Int} {x1 : Int} {K : Int → (Nat → Int → Int) → Prop} (hG : Gok sw g)  (H :
  RC_mixEvents_2 g h x1 0 none none K) : RC_mixEvents g h x1 K := by
  refine rc_iconst mq146 (mvDec_of cd146 rfl) (by decide) ?_
  refine rc_istore_n [some (mvR 3), some (mvJ x1), none, some (mvI 0), none, none] mq146 (mvDec_of cd146 rfl) rfl ?_
  exact H
theorem RC_mixEvents_2_wp {sw : Bool} {g : Nat → Nat → Nat} {h : Nat → Int → Int} {l1 : Int} {l3 : Int} {u4 : Option Int} {u5 : Option Int} {K : Int → (Nat → Int → Int) → Prop} (hG : Gok sw g)  (H :
  (((h (evO sw) 0) ≤ l3 →
    K l1 h) ∧
  (l3 < (h (evO sw) 0) →
    RC_mixEvents_16 g h l1 l3 0 u5 K))) : RC_mixEvents_2 g h l1 l3 u4 u5 K := by
  refine rc_iload_n mq146 (mvDec_of cd146 rfl) rfl ?_
  refine rc_aload_n mq146 (mvDec_of cd146 rfl) rfl ?_
  refine rc_getR (evO sw) mq146 (mvDec_of cd146 rfl) fl_0_19 mis3 rfl (gr_3_1 hG) (evO_ne sw) ?_
  refine rc_getI 0 mq146 (mvDec_of cd146 rfl) fl_0_104 (miE0 (evO_id sw)) rfl (by decide) (by decide) ?_
  refine rc_icmp_ge (t := 75) mq146 (mvDec_of cd146 rfl) rfl (fun hc => ?_) (fun hc => ?_)
  · replace H := H.1 hc
    refine rc_lload_n mq146 (mvDec_of cd146 rfl) rfl ?_
    exact rc_lret mq146 (mvDec_of cd146 rfl) ⟨_, _, rfl, rfl, H⟩
  · replace H := H.2 hc
    refine rc_iconst mq146 (mvDec_of cd146 rfl) (by decide) ?_
    refine rc_istore [some (mvR 3), some (mvJ l1), none, some (mvI l3), some (mvI 0), u5.map mvI] mq146 (mvDec_of cd146 rfl) rfl ?_
    exact H
theorem RC_mixEvents_16_wp {sw : Bool} {g : Nat → Nat → Nat} {h : Nat → Int → Int} {l1 : Int} {l3 : Int} {l4 : Int} {u5 : Option Int} {K : Int → (Nat → Int → Int) → Prop} (hG : Gok sw g)  (H :
  (0 ≤ l3 ∧ l3 < 4) ∧
  (((h (evO sw + 1) l3) ≤ l4 →
    RC_mixEvents_2 g h l1 (mw (l3 + 1)) (some l4) u5 K) ∧
  (l4 < (h (evO sw + 1) l3) →
    RC_mixEvents_33 g h l1 l3 l4 0 K))) : RC_mixEvents_16 g h l1 l3 l4 u5 K := by
  refine rc_iload mq146 (mvDec_of cd146 rfl) rfl ?_
  refine rc_aload_n mq146 (mvDec_of cd146 rfl) rfl ?_
  refine rc_getR (evO sw) mq146 (mvDec_of cd146 rfl) fl_0_19 mis3 rfl (gr_3_1 hG) (evO_ne sw) ?_
  refine rc_getR (evO sw + 1) mq146 (mvDec_of cd146 rfl) fl_0_131 (miE0 (evO_id sw)) rfl (mgE2 (evO_id sw) hG) (Nat.succ_ne_zero _) ?_
  refine rc_iload_n mq146 (mvDec_of cd146 rfl) rfl ?_
  obtain ⟨⟨hb0, hb1⟩, H⟩ := H
  refine rc_iald mq146 (mvDec_of cd146 rfl) (miE1 (evO_id sw)) hb0 hb1 ?_
  refine rc_icmp_ge (t := 69) mq146 (mvDec_of cd146 rfl) rfl (fun hc => ?_) (fun hc => ?_)
  · replace H := H.1 hc
    refine rc_iinc [some (mvR 3), some (mvJ l1), none, some (mvI (mw (l3 + 1))), some (mvI l4), u5.map mvI] mq146 (mvDec_of cd146 rfl) rfl rfl ?_
    refine rc_goto (t := 2) mq146 (mvDec_of cd146 rfl) rfl ?_
    exact H
  · replace H := H.2 hc
    refine rc_iconst mq146 (mvDec_of cd146 rfl) (by decide) ?_
    refine rc_istore [some (mvR 3), some (mvJ l1), none, some (mvI l3), some (mvI l4), some (mvI 0)] mq146 (mvDec_of cd146 rfl) rfl ?_
    exact H
theorem RC_mixEvents_33_wp {sw : Bool} {g : Nat → Nat → Nat} {h : Nat → Int → Int} {l1 : Int} {l3 : Int} {l4 : Int} {l5 : Int} {K : Int → (Nat → Int → Int) → Prop} (hG : Gok sw g)  (H :
  ((6 < l5 →
    RC_mixEvents_16 g h l1 l3 (mw (l4 + 1)) (some l5) K) ∧
  (l5 ≤ 6 →
    EV_property g h (evO sw) l3 l4 l5 (fun r2 h1 =>
      (∀ v3, v3 = (mwl ((mwl (31 * l1)) + r2)) →
      RC_mixEvents_33 g h1 v3 l3 l4 (mw (l5 + 1)) K))))) : RC_mixEvents_33 g h l1 l3 l4 l5 K := by
  refine rc_iload mq146 (mvDec_of cd146 rfl) rfl ?_
  refine rc_bipush mq146 (mvDec_of cd146 rfl) (by decide) ?_
  refine rc_icmp_gt (t := 63) mq146 (mvDec_of cd146 rfl) rfl (fun hc => ?_) (fun hc => ?_)
  · replace H := H.1 hc
    refine rc_iinc [some (mvR 3), some (mvJ l1), none, some (mvI l3), some (mvI (mw (l4 + 1))), some (mvI l5)] mq146 (mvDec_of cd146 rfl) rfl rfl ?_
    refine rc_goto (t := 16) mq146 (mvDec_of cd146 rfl) rfl ?_
    exact H
  · replace H := H.2 hc
    refine rc_lload_n mq146 (mvDec_of cd146 rfl) rfl ?_
    refine rc_aload_n mq146 (mvDec_of cd146 rfl) rfl ?_
    refine rc_getR (evO sw) mq146 (mvDec_of cd146 rfl) fl_0_19 mis3 rfl (gr_3_1 hG) (evO_ne sw) ?_
    refine rc_iload_n mq146 (mvDec_of cd146 rfl) rfl ?_
    refine rc_iload mq146 (mvDec_of cd146 rfl) rfl ?_
    refine rc_iload mq146 (mvDec_of cd146 rfl) rfl ?_
    refine rc_callV [mvR (evO sw), mvI l3, mvI l4, mvI l5] [mvJ l1] [some (mvR (evO sw)), some (mvI l3), some (mvI l4), some (mvI l5), none, none] mq146 (mvDec_of cd146 rfl) lk_0_138 mq82 (by decide) rfl rfl (Nat.le_of_ble_eq_true rfl) (Nat.le_of_ble_eq_true rfl) (by decide) rfl (miE0 (evO_id sw)) rfl (ri_bind H (fun r2 h1 H => ?_))
    refine rc_callS [mvJ l1, mvI r2] [] [some (mvJ l1), none, some (mvI r2)] mq146 (mvDec_of cd146 rfl) lk_0_282 mq2 (by decide) rfl rfl (Nat.le_of_ble_eq_true rfl) (Nat.le_of_ble_eq_true rfl) (by decide) rfl ?_
    refine rc_ldc2 mq2 (mvDec_of cd2 rfl) rfl ?_
    refine rc_lload_n mq2 (mvDec_of cd2 rfl) rfl ?_
    refine rc_lmul mq2 (mvDec_of cd2 rfl) ?_
    refine rc_iload_n mq2 (mvDec_of cd2 rfl) rfl ?_
    refine rc_i2l mq2 (mvDec_of cd2 rfl) ?_
    refine rc_ladd mq2 (mvDec_of cd2 rfl) ?_
    refine rc_lret mq2 (mvDec_of cd2 rfl) ?_
    show Rch 146 56 [some (mvR 3), some (mvJ l1), none, some (mvI l3), some (mvI l4), some (mvI l5)] [mvJ (mwl ((mwl (31 * l1)) + r2))] (97, g, h1) _
    refine rc_topJ (fun v3 hv => ?_)
    replace H := H v3 hv
    refine rc_lstore_n [some (mvR 3), some (mvJ v3), none, some (mvI l3), some (mvI l4), some (mvI l5)] mq146 (mvDec_of cd146 rfl) rfl ?_
    refine rc_iinc [some (mvR 3), some (mvJ v3), none, some (mvI l3), some (mvI l4), some (mvI (mw (l5 + 1)))] mq146 (mvDec_of cd146 rfl) rfl rfl ?_
    refine rc_goto (t := 33) mq146 (mvDec_of cd146 rfl) rfl ?_
    exact H
abbrev RC_under (g : Nat → Nat → Nat) (h : Nat → Int → Int) (x1 : Int) (x2 : Int) (x3 : Int) (K : Int → (Nat → Int → Int) → Prop) : Prop := RI 179 0 [some (mvR 3), some (mvI x1), some (mvI x2), some (mvI x3)] [] g h K
theorem RC_under_wp {sw : Bool} {g : Nat → Nat → Nat} {h : Nat → Int → Int} {x1 : Int} {x2 : Int} {x3 : Int} {K : Int → (Nat → Int → Int) → Prop} (hG : Gok sw g)  (H :
  (((h (evO sw) 0) ≤ 0 →
    K (-103) h) ∧
  (0 < (h (evO sw) 0) →
    EV_isCut g h (evO sw) x1 (fun r2 h1 =>
      ((r2 = 0 →
        K (-101) h1) ∧
      (¬ r2 = 0 →
        ((x2 < 0 →
          K (-101) h1) ∧
        (0 ≤ x2 →
          (((h1 (evO sw) 0) ≤ x2 →
            K (-101) h1) ∧
          (x2 < (h1 (evO sw) 0) →
            ((x3 < 0 →
              K (-101) h1) ∧
            (0 ≤ x3 →
              (((h1 (evO sw) 0) ≤ x3 →
                K (-101) h1) ∧
              (x3 < (h1 (evO sw) 0) →
                ((x2 = x3 →
                  K (-101) h1) ∧
                (¬ x2 = x3 →
                  EV_isConsistent g h1 (evO sw) x1 (fun r4 h3 =>
                    ((¬ r4 = 0 →
                      EV_underWayBetween g h3 (evO sw) x1 x2 x3 (fun r6 h5 =>
                        K r6 h5)) ∧
                    (r4 = 0 →
                      K (-103) h3))))))))))))))))))) : RC_under g h x1 x2 x3 K := by
  refine rc_aload_n mq179 (mvDec_of cd179 rfl) rfl ?_
  refine rc_callV [mvR 3] [] [some (mvR 3)] mq179 (mvDec_of cd179 rfl) lk_0_145 mq3 (by decide) rfl rfl (Nat.le_of_ble_eq_true rfl) (Nat.le_of_ble_eq_true rfl) (by decide) rfl mis3 rfl ?_
  refine rc_aload_n mq3 (mvDec_of cd3 rfl) rfl ?_
  refine rc_getR (evO sw) mq3 (mvDec_of cd3 rfl) fl_0_19 mis3 rfl (gr_3_1 hG) (evO_ne sw) ?_
  refine rc_getI 0 mq3 (mvDec_of cd3 rfl) fl_0_104 (miE0 (evO_id sw)) rfl (by decide) (by decide) ?_
  refine rc_if_le (t := 14) mq3 (mvDec_of cd3 rfl) rfl (fun hc => ?_) (fun hc => ?_)
  · replace H := H.1 hc
    refine rc_iconst mq3 (mvDec_of cd3 rfl) (by decide) ?_
    refine rc_zret mq3 (mvDec_of cd3 rfl) (Or.inl rfl) ?_
    show Rch 179 4 [some (mvR 3), some (mvI x1), some (mvI x2), some (mvI x3)] [mvI 0] (97, g, h) _
    refine rc_ifF (t := 10) mq179 (mvDec_of cd179 rfl) rfl rfl ?_
    refine rc_bipush mq179 (mvDec_of cd179 rfl) (by decide) ?_
    exact rc_iret mq179 (mvDec_of cd179 rfl) ⟨_, _, rfl, rfl, H⟩
  · replace H := H.2 hc
    refine rc_iconst mq3 (mvDec_of cd3 rfl) (by decide) ?_
    refine rc_goto (t := 15) mq3 (mvDec_of cd3 rfl) rfl ?_
    refine rc_zret mq3 (mvDec_of cd3 rfl) (Or.inr rfl) ?_
    show Rch 179 4 [some (mvR 3), some (mvI x1), some (mvI x2), some (mvI x3)] [mvI 1] (97, g, h) _
    refine rc_ifT (t := 10) mq179 (mvDec_of cd179 rfl) rfl rfl ?_
    refine rc_aload_n mq179 (mvDec_of cd179 rfl) rfl ?_
    refine rc_getR (evO sw) mq179 (mvDec_of cd179 rfl) fl_0_19 mis3 rfl (gr_3_1 hG) (evO_ne sw) ?_
    refine rc_iload_n mq179 (mvDec_of cd179 rfl) rfl ?_
    refine rc_callV [mvR (evO sw), mvI x1] [] [some (mvR (evO sw)), some (mvI x1), none, none] mq179 (mvDec_of cd179 rfl) lk_0_148 mq22 (by decide) rfl rfl (Nat.le_of_ble_eq_true rfl) (Nat.le_of_ble_eq_true rfl) (by decide) rfl (miE0 (evO_id sw)) rfl (ri_bind H (fun r2 h1 H => ?_))
    refine rc_if_eq (t := 33) mq179 (mvDec_of cd179 rfl) rfl (fun hc => ?_) (fun hc => ?_)
    · replace H := H.1 hc
      refine rc_bipush mq179 (mvDec_of cd179 rfl) (by decide) ?_
      exact rc_iret mq179 (mvDec_of cd179 rfl) ⟨_, _, rfl, rfl, H⟩
    · replace H := H.2 hc
      refine rc_aload_n mq179 (mvDec_of cd179 rfl) rfl ?_
      refine rc_getR (evO sw) mq179 (mvDec_of cd179 rfl) fl_0_19 mis3 rfl (gr_3_1 hG) (evO_ne sw) ?_
      refine rc_iload_n mq179 (mvDec_of cd179 rfl) rfl ?_
      refine rc_iload_n mq179 (mvDec_of cd179 rfl) rfl ?_
      refine rc_callV [mvR (evO sw), mvI x2, mvI x3] [] [some (mvR (evO sw)), some (mvI x2), some (mvI x3)] mq179 (mvDec_of cd179 rfl) lk_0_118 mq78 (by decide) rfl rfl (Nat.le_of_ble_eq_true rfl) (Nat.le_of_ble_eq_true rfl) (by decide) rfl (miE0 (evO_id sw)) rfl ?_
      refine rc_aload_n mq78 (mvDec_of cd78 rfl) rfl ?_
      refine rc_iload_n mq78 (mvDec_of cd78 rfl) rfl ?_
      refine rc_callV [mvR (evO sw), mvI x2] [] [some (mvR (evO sw)), some (mvI x2)] mq78 (mvDec_of cd78 rfl) lk_2_49 mq8 (by decide) rfl rfl (Nat.le_of_ble_eq_true rfl) (Nat.le_of_ble_eq_true rfl) (by decide) rfl (miE0 (evO_id sw)) rfl ?_
      refine rc_iload_n mq8 (mvDec_of cd8 rfl) rfl ?_
      refine rc_if_lt (t := 16) mq8 (mvDec_of cd8 rfl) rfl (fun hc => ?_) (fun hc => ?_)
      · replace H := H.1 hc
        refine rc_iconst mq8 (mvDec_of cd8 rfl) (by decide) ?_
        refine rc_zret mq8 (mvDec_of cd8 rfl) (Or.inl rfl) ?_
        show Rch 78 5 [some (mvR (evO sw)), some (mvI x2), some (mvI x3)] [mvI 0] (97, g, h1) _
        refine rc_ifT (t := 25) mq78 (mvDec_of cd78 rfl) rfl rfl ?_
        refine rc_iconst mq78 (mvDec_of cd78 rfl) (by decide) ?_
        refine rc_zret mq78 (mvDec_of cd78 rfl) (Or.inl rfl) ?_
        show Rch 179 30 [some (mvR 3), some (mvI x1), some (mvI x2), some (mvI x3)] [mvI 0] (97, g, h1) _
        refine rc_ifF (t := 36) mq179 (mvDec_of cd179 rfl) rfl rfl ?_
        refine rc_bipush mq179 (mvDec_of cd179 rfl) (by decide) ?_
        exact rc_iret mq179 (mvDec_of cd179 rfl) ⟨_, _, rfl, rfl, H⟩
      · replace H := H.2 hc
        refine rc_iload_n mq8 (mvDec_of cd8 rfl) rfl ?_
        refine rc_aload_n mq8 (mvDec_of cd8 rfl) rfl ?_
        refine rc_getI 0 mq8 (mvDec_of cd8 rfl) fl_2_36 (miE0 (evO_id sw)) rfl (by decide) (by decide) ?_
        refine rc_icmp_ge (t := 16) mq8 (mvDec_of cd8 rfl) rfl (fun hc => ?_) (fun hc => ?_)
        · replace H := H.1 hc
          refine rc_iconst mq8 (mvDec_of cd8 rfl) (by decide) ?_
          refine rc_zret mq8 (mvDec_of cd8 rfl) (Or.inl rfl) ?_
          show Rch 78 5 [some (mvR (evO sw)), some (mvI x2), some (mvI x3)] [mvI 0] (97, g, h1) _
          refine rc_ifT (t := 25) mq78 (mvDec_of cd78 rfl) rfl rfl ?_
          refine rc_iconst mq78 (mvDec_of cd78 rfl) (by decide) ?_
          refine rc_zret mq78 (mvDec_of cd78 rfl) (Or.inl rfl) ?_
          show Rch 179 30 [some (mvR 3), some (mvI x1), some (mvI x2), some (mvI x3)] [mvI 0] (97, g, h1) _
          refine rc_ifF (t := 36) mq179 (mvDec_of cd179 rfl) rfl rfl ?_
          refine rc_bipush mq179 (mvDec_of cd179 rfl) (by decide) ?_
          exact rc_iret mq179 (mvDec_of cd179 rfl) ⟨_, _, rfl, rfl, H⟩
        · replace H := H.2 hc
          refine rc_iconst mq8 (mvDec_of cd8 rfl) (by decide) ?_
          refine rc_goto (t := 17) mq8 (mvDec_of cd8 rfl) rfl ?_
          refine rc_zret mq8 (mvDec_of cd8 rfl) (Or.inr rfl) ?_
          show Rch 78 5 [some (mvR (evO sw)), some (mvI x2), some (mvI x3)] [mvI 1] (97, g, h1) _
          refine rc_ifF (t := 25) mq78 (mvDec_of cd78 rfl) rfl rfl ?_
          refine rc_aload_n mq78 (mvDec_of cd78 rfl) rfl ?_
          refine rc_iload_n mq78 (mvDec_of cd78 rfl) rfl ?_
          refine rc_callV [mvR (evO sw), mvI x3] [] [some (mvR (evO sw)), some (mvI x3)] mq78 (mvDec_of cd78 rfl) lk_2_49 mq8 (by decide) rfl rfl (Nat.le_of_ble_eq_true rfl) (Nat.le_of_ble_eq_true rfl) (by decide) rfl (miE0 (evO_id sw)) rfl ?_
          refine rc_iload_n mq8 (mvDec_of cd8 rfl) rfl ?_
          refine rc_if_lt (t := 16) mq8 (mvDec_of cd8 rfl) rfl (fun hc => ?_) (fun hc => ?_)
          · replace H := H.1 hc
            refine rc_iconst mq8 (mvDec_of cd8 rfl) (by decide) ?_
            refine rc_zret mq8 (mvDec_of cd8 rfl) (Or.inl rfl) ?_
            show Rch 78 13 [some (mvR (evO sw)), some (mvI x2), some (mvI x3)] [mvI 0] (97, g, h1) _
            refine rc_ifT (t := 25) mq78 (mvDec_of cd78 rfl) rfl rfl ?_
            refine rc_iconst mq78 (mvDec_of cd78 rfl) (by decide) ?_
            refine rc_zret mq78 (mvDec_of cd78 rfl) (Or.inl rfl) ?_
            show Rch 179 30 [some (mvR 3), some (mvI x1), some (mvI x2), some (mvI x3)] [mvI 0] (97, g, h1) _
            refine rc_ifF (t := 36) mq179 (mvDec_of cd179 rfl) rfl rfl ?_
            refine rc_bipush mq179 (mvDec_of cd179 rfl) (by decide) ?_
            exact rc_iret mq179 (mvDec_of cd179 rfl) ⟨_, _, rfl, rfl, H⟩
          · replace H := H.2 hc
            refine rc_iload_n mq8 (mvDec_of cd8 rfl) rfl ?_
            refine rc_aload_n mq8 (mvDec_of cd8 rfl) rfl ?_
            refine rc_getI 0 mq8 (mvDec_of cd8 rfl) fl_2_36 (miE0 (evO_id sw)) rfl (by decide) (by decide) ?_
            refine rc_icmp_ge (t := 16) mq8 (mvDec_of cd8 rfl) rfl (fun hc => ?_) (fun hc => ?_)
            · replace H := H.1 hc
              refine rc_iconst mq8 (mvDec_of cd8 rfl) (by decide) ?_
              refine rc_zret mq8 (mvDec_of cd8 rfl) (Or.inl rfl) ?_
              show Rch 78 13 [some (mvR (evO sw)), some (mvI x2), some (mvI x3)] [mvI 0] (97, g, h1) _
              refine rc_ifT (t := 25) mq78 (mvDec_of cd78 rfl) rfl rfl ?_
              refine rc_iconst mq78 (mvDec_of cd78 rfl) (by decide) ?_
              refine rc_zret mq78 (mvDec_of cd78 rfl) (Or.inl rfl) ?_
              show Rch 179 30 [some (mvR 3), some (mvI x1), some (mvI x2), some (mvI x3)] [mvI 0] (97, g, h1) _
              refine rc_ifF (t := 36) mq179 (mvDec_of cd179 rfl) rfl rfl ?_
              refine rc_bipush mq179 (mvDec_of cd179 rfl) (by decide) ?_
              exact rc_iret mq179 (mvDec_of cd179 rfl) ⟨_, _, rfl, rfl, H⟩
            · replace H := H.2 hc
              refine rc_iconst mq8 (mvDec_of cd8 rfl) (by decide) ?_
              refine rc_goto (t := 17) mq8 (mvDec_of cd8 rfl) rfl ?_
              refine rc_zret mq8 (mvDec_of cd8 rfl) (Or.inr rfl) ?_
              show Rch 78 13 [some (mvR (evO sw)), some (mvI x2), some (mvI x3)] [mvI 1] (97, g, h1) _
              refine rc_ifF (t := 25) mq78 (mvDec_of cd78 rfl) rfl rfl ?_
              refine rc_iload_n mq78 (mvDec_of cd78 rfl) rfl ?_
              refine rc_iload_n mq78 (mvDec_of cd78 rfl) rfl ?_
              refine rc_icmp_eq (t := 25) mq78 (mvDec_of cd78 rfl) rfl (fun hc => ?_) (fun hc => ?_)
              · replace H := H.1 hc
                refine rc_iconst mq78 (mvDec_of cd78 rfl) (by decide) ?_
                refine rc_zret mq78 (mvDec_of cd78 rfl) (Or.inl rfl) ?_
                show Rch 179 30 [some (mvR 3), some (mvI x1), some (mvI x2), some (mvI x3)] [mvI 0] (97, g, h1) _
                refine rc_ifF (t := 36) mq179 (mvDec_of cd179 rfl) rfl rfl ?_
                refine rc_bipush mq179 (mvDec_of cd179 rfl) (by decide) ?_
                exact rc_iret mq179 (mvDec_of cd179 rfl) ⟨_, _, rfl, rfl, H⟩
              · replace H := H.2 hc
                refine rc_iconst mq78 (mvDec_of cd78 rfl) (by decide) ?_
                refine rc_goto (t := 26) mq78 (mvDec_of cd78 rfl) rfl ?_
                refine rc_zret mq78 (mvDec_of cd78 rfl) (Or.inr rfl) ?_
                show Rch 179 30 [some (mvR 3), some (mvI x1), some (mvI x2), some (mvI x3)] [mvI 1] (97, g, h1) _
                refine rc_ifT (t := 36) mq179 (mvDec_of cd179 rfl) rfl rfl ?_
                refine rc_aload_n mq179 (mvDec_of cd179 rfl) rfl ?_
                refine rc_getR (evO sw) mq179 (mvDec_of cd179 rfl) fl_0_19 mis3 rfl (gr_3_1 hG) (evO_ne sw) ?_
                refine rc_iload_n mq179 (mvDec_of cd179 rfl) rfl ?_
                refine rc_callV [mvR (evO sw), mvI x1] [] [some (mvR (evO sw)), some (mvI x1), none, none] mq179 (mvDec_of cd179 rfl) lk_0_151 mq149 (by decide) rfl rfl (Nat.le_of_ble_eq_true rfl) (Nat.le_of_ble_eq_true rfl) (by decide) rfl (miE0 (evO_id sw)) rfl (ri_bind H (fun r4 h3 H => ?_))
                refine rc_if_ne (t := 50) mq179 (mvDec_of cd179 rfl) rfl (fun hc => ?_) (fun hc => ?_)
                · replace H := H.1 hc
                  refine rc_aload_n mq179 (mvDec_of cd179 rfl) rfl ?_
                  refine rc_getR (evO sw) mq179 (mvDec_of cd179 rfl) fl_0_19 mis3 rfl (gr_3_1 hG) (evO_ne sw) ?_
                  refine rc_iload_n mq179 (mvDec_of cd179 rfl) rfl ?_
                  refine rc_iload_n mq179 (mvDec_of cd179 rfl) rfl ?_
                  refine rc_iload_n mq179 (mvDec_of cd179 rfl) rfl ?_
                  refine rc_callV [mvR (evO sw), mvI x1, mvI x2, mvI x3] [] [some (mvR (evO sw)), some (mvI x1), some (mvI x2), some (mvI x3), none, none, none, none] mq179 (mvDec_of cd179 rfl) lk_0_169 mq86 (by decide) rfl rfl (Nat.le_of_ble_eq_true rfl) (Nat.le_of_ble_eq_true rfl) (by decide) rfl (miE0 (evO_id sw)) rfl (ri_bind H (fun r6 h5 H => ?_))
                  exact rc_iret mq179 (mvDec_of cd179 rfl) ⟨_, _, rfl, rfl, H⟩
                · replace H := H.2 hc
                  refine rc_bipush mq179 (mvDec_of cd179 rfl) (by decide) ?_
                  exact rc_iret mq179 (mvDec_of cd179 rfl) ⟨_, _, rfl, rfl, H⟩
abbrev RC_cutProperty (g : Nat → Nat → Nat) (h : Nat → Int → Int) (x1 : Int) (x2 : Int) (K : Int → (Nat → Int → Int) → Prop) : Prop := RI 180 0 [some (mvR 3), some (mvI x1), some (mvI x2)] [] g h K
theorem RC_cutProperty_wp {sw : Bool} {g : Nat → Nat → Nat} {h : Nat → Int → Int} {x1 : Int} {x2 : Int} {K : Int → (Nat → Int → Int) → Prop} (hG : Gok sw g)  (H :
  (((x2 < 2 ∨ 4 < x2) →
    LT_pathsThrough g h 24 (evO sw) x1 (fun r2 h1 =>
      K r2 h1)) ∧
  (x2 = 2 →
    PR_holdsIn g h (evO sw) x1 (fun r4 h3 =>
      ((r4 = 0 →
        K 0 h3) ∧
      (¬ r4 = 0 →
        K 1 h3)))) ∧
  (x2 = 3 →
    EV_followers g h (evO sw) x1 (fun r6 h5 =>
      K r6 h5)) ∧
  (x2 = 4 →
    EV_underWay g h (evO sw) x1 (fun r8 h7 =>
      K r8 h7)))) : RC_cutProperty g h x1 x2 K := by
  refine rc_iload_n mq180 (mvDec_of cd180 rfl) rfl ?_
  have hsw : (x2 < 2 ∨ 4 < x2) ∨ x2 = 2 ∨ x2 = 3 ∨ x2 = 4 := by omega
  rcases hsw with hsw | hsw | hsw | hsw
  · replace H := H.1 hsw
    refine rc_swD (t := 67) mq180 (mvDec_of cd180 rfl) hsw rfl ?_
    refine rc_aload_n mq180 (mvDec_of cd180 rfl) rfl ?_
    refine rc_getR 24 mq180 (mvDec_of cd180 rfl) fl_0_29 mis3 rfl (gr_3_3 hG) (by decide) ?_
    refine rc_aload_n mq180 (mvDec_of cd180 rfl) rfl ?_
    refine rc_getR (evO sw) mq180 (mvDec_of cd180 rfl) fl_0_19 mis3 rfl (gr_3_1 hG) (evO_ne sw) ?_
    refine rc_iload_n mq180 (mvDec_of cd180 rfl) rfl ?_
    refine rc_callV [mvR 24, mvR (evO sw), mvI x1] [] [some (mvR 24), some (mvR (evO sw)), some (mvI x1), none, none] mq180 (mvDec_of cd180 rfl) lk_0_318 mq92 (by decide) rfl rfl (Nat.le_of_ble_eq_true rfl) (Nat.le_of_ble_eq_true rfl) (by decide) rfl mis24 rfl (ri_bind H (fun r2 h1 H => ?_))
    exact rc_iret mq180 (mvDec_of cd180 rfl) ⟨_, _, rfl, rfl, H⟩
  · replace H := H.2.1 hsw
    refine rc_swI (t := 28) mq180 (mvDec_of cd180 rfl) (by omega) (by rw [hsw]; rfl) rfl ?_
    refine rc_aload_n mq180 (mvDec_of cd180 rfl) rfl ?_
    refine rc_getR 31 mq180 (mvDec_of cd180 rfl) fl_0_36 mis3 rfl (gr_3_4 hG) (by decide) ?_
    refine rc_aload_n mq180 (mvDec_of cd180 rfl) rfl ?_
    refine rc_getR (evO sw) mq180 (mvDec_of cd180 rfl) fl_0_19 mis3 rfl (gr_3_1 hG) (evO_ne sw) ?_
    refine rc_iload_n mq180 (mvDec_of cd180 rfl) rfl ?_
    refine rc_callV [mvR 31, mvR (evO sw), mvI x1] [] [some (mvR 31), some (mvR (evO sw)), some (mvI x1)] mq180 (mvDec_of cd180 rfl) lk_0_308 mq154 (by decide) rfl rfl (Nat.le_of_ble_eq_true rfl) (Nat.le_of_ble_eq_true rfl) (by decide) rfl mis31 rfl (ri_bind H (fun r4 h3 H => ?_))
    refine rc_if_eq (t := 47) mq180 (mvDec_of cd180 rfl) rfl (fun hc => ?_) (fun hc => ?_)
    · replace H := H.1 hc
      refine rc_iconst mq180 (mvDec_of cd180 rfl) (by decide) ?_
      exact rc_iret mq180 (mvDec_of cd180 rfl) ⟨_, _, rfl, rfl, H⟩
    · replace H := H.2 hc
      refine rc_iconst mq180 (mvDec_of cd180 rfl) (by decide) ?_
      refine rc_goto (t := 48) mq180 (mvDec_of cd180 rfl) rfl ?_
      exact rc_iret mq180 (mvDec_of cd180 rfl) ⟨_, _, rfl, rfl, H⟩
  · replace H := H.2.2.1 hsw
    refine rc_swI (t := 49) mq180 (mvDec_of cd180 rfl) (by omega) (by rw [hsw]; rfl) rfl ?_
    refine rc_aload_n mq180 (mvDec_of cd180 rfl) rfl ?_
    refine rc_getR (evO sw) mq180 (mvDec_of cd180 rfl) fl_0_19 mis3 rfl (gr_3_1 hG) (evO_ne sw) ?_
    refine rc_iload_n mq180 (mvDec_of cd180 rfl) rfl ?_
    refine rc_callV [mvR (evO sw), mvI x1] [] [some (mvR (evO sw)), some (mvI x1), none, none] mq180 (mvDec_of cd180 rfl) lk_0_312 mq150 (by decide) rfl rfl (Nat.le_of_ble_eq_true rfl) (Nat.le_of_ble_eq_true rfl) (by decide) rfl (miE0 (evO_id sw)) rfl (ri_bind H (fun r6 h5 H => ?_))
    exact rc_iret mq180 (mvDec_of cd180 rfl) ⟨_, _, rfl, rfl, H⟩
  · replace H := H.2.2.2 hsw
    refine rc_swI (t := 58) mq180 (mvDec_of cd180 rfl) (by omega) (by rw [hsw]; rfl) rfl ?_
    refine rc_aload_n mq180 (mvDec_of cd180 rfl) rfl ?_
    refine rc_getR (evO sw) mq180 (mvDec_of cd180 rfl) fl_0_19 mis3 rfl (gr_3_1 hG) (evO_ne sw) ?_
    refine rc_iload_n mq180 (mvDec_of cd180 rfl) rfl ?_
    refine rc_callV [mvR (evO sw), mvI x1] [] [some (mvR (evO sw)), some (mvI x1), none, none] mq180 (mvDec_of cd180 rfl) lk_0_315 mq85 (by decide) rfl rfl (Nat.le_of_ble_eq_true rfl) (Nat.le_of_ble_eq_true rfl) (by decide) rfl (miE0 (evO_id sw)) rfl (ri_bind H (fun r8 h7 H => ?_))
    exact rc_iret mq180 (mvDec_of cd180 rfl) ⟨_, _, rfl, rfl, H⟩
abbrev RC_cut (g : Nat → Nat → Nat) (h : Nat → Int → Int) (x1 : Int) (x2 : Int) (K : Int → (Nat → Int → Int) → Prop) : Prop := RI 199 0 [some (mvR 3), some (mvI x1), some (mvI x2)] [] g h K
theorem RC_cut_wp {sw : Bool} {g : Nat → Nat → Nat} {h : Nat → Int → Int} {x1 : Int} {x2 : Int} {K : Int → (Nat → Int → Int) → Prop} (hG : Gok sw g)  (H :
  (((h (evO sw) 0) ≤ 0 →
    K (-103) h) ∧
  (0 < (h (evO sw) 0) →
    EV_isCut g h (evO sw) x1 (fun r2 h1 =>
      ((¬ r2 = 0 →
        ((x2 < 0 →
          K (-102) h1) ∧
        (0 ≤ x2 →
          ((x2 ≤ 5 →
            ((¬ x2 = 0 →
              ((¬ x2 = 1 →
                EV_isConsistent g h1 (evO sw) x1 (fun r4 h3 =>
                  ((¬ r4 = 0 →
                    ((¬ x2 = 5 →
                      RC_cutProperty g h3 x1 x2 (fun r6 h5 =>
                        K r6 h5)) ∧
                    (x2 = 5 →
                      LT_build g h3 24 (evO sw) (fun h7 =>
                        RC_cutProperty g h7 x1 x2 (fun r9 h8 =>
                          K r9 h8))))) ∧
                  (r4 = 0 →
                    K (-103) h3)))) ∧
              (x2 = 1 →
                RC_levelOf g h1 x1 (fun r11 h10 =>
                  K r11 h10)))) ∧
            (x2 = 0 →
              EV_isConsistent g h1 (evO sw) x1 (fun r13 h12 =>
                ((r13 = 0 →
                  K 0 h12) ∧
                (¬ r13 = 0 →
                  K 1 h12)))))) ∧
          (5 < x2 →
            K (-102) h1))))) ∧
      (r2 = 0 →
        K (-101) h1)))))) : RC_cut g h x1 x2 K := by
  refine rc_aload_n mq199 (mvDec_of cd199 rfl) rfl ?_
  refine rc_callV [mvR 3] [] [some (mvR 3)] mq199 (mvDec_of cd199 rfl) lk_0_145 mq3 (by decide) rfl rfl (Nat.le_of_ble_eq_true rfl) (Nat.le_of_ble_eq_true rfl) (by decide) rfl mis3 rfl ?_
  refine rc_aload_n mq3 (mvDec_of cd3 rfl) rfl ?_
  refine rc_getR (evO sw) mq3 (mvDec_of cd3 rfl) fl_0_19 mis3 rfl (gr_3_1 hG) (evO_ne sw) ?_
  refine rc_getI 0 mq3 (mvDec_of cd3 rfl) fl_0_104 (miE0 (evO_id sw)) rfl (by decide) (by decide) ?_
  refine rc_if_le (t := 14) mq3 (mvDec_of cd3 rfl) rfl (fun hc => ?_) (fun hc => ?_)
  · replace H := H.1 hc
    refine rc_iconst mq3 (mvDec_of cd3 rfl) (by decide) ?_
    refine rc_zret mq3 (mvDec_of cd3 rfl) (Or.inl rfl) ?_
    show Rch 199 4 [some (mvR 3), some (mvI x1), some (mvI x2)] [mvI 0] (97, g, h) _
    refine rc_ifF (t := 10) mq199 (mvDec_of cd199 rfl) rfl rfl ?_
    refine rc_bipush mq199 (mvDec_of cd199 rfl) (by decide) ?_
    exact rc_iret mq199 (mvDec_of cd199 rfl) ⟨_, _, rfl, rfl, H⟩
  · replace H := H.2 hc
    refine rc_iconst mq3 (mvDec_of cd3 rfl) (by decide) ?_
    refine rc_goto (t := 15) mq3 (mvDec_of cd3 rfl) rfl ?_
    refine rc_zret mq3 (mvDec_of cd3 rfl) (Or.inr rfl) ?_
    show Rch 199 4 [some (mvR 3), some (mvI x1), some (mvI x2)] [mvI 1] (97, g, h) _
    refine rc_ifT (t := 10) mq199 (mvDec_of cd199 rfl) rfl rfl ?_
    refine rc_aload_n mq199 (mvDec_of cd199 rfl) rfl ?_
    refine rc_getR (evO sw) mq199 (mvDec_of cd199 rfl) fl_0_19 mis3 rfl (gr_3_1 hG) (evO_ne sw) ?_
    refine rc_iload_n mq199 (mvDec_of cd199 rfl) rfl ?_
    refine rc_callV [mvR (evO sw), mvI x1] [] [some (mvR (evO sw)), some (mvI x1), none, none] mq199 (mvDec_of cd199 rfl) lk_0_148 mq22 (by decide) rfl rfl (Nat.le_of_ble_eq_true rfl) (Nat.le_of_ble_eq_true rfl) (by decide) rfl (miE0 (evO_id sw)) rfl (ri_bind H (fun r2 h1 H => ?_))
    refine rc_if_ne (t := 24) mq199 (mvDec_of cd199 rfl) rfl (fun hc => ?_) (fun hc => ?_)
    · replace H := H.1 hc
      refine rc_iload_n mq199 (mvDec_of cd199 rfl) rfl ?_
      refine rc_if_lt (t := 33) mq199 (mvDec_of cd199 rfl) rfl (fun hc => ?_) (fun hc => ?_)
      · replace H := H.1 hc
        refine rc_bipush mq199 (mvDec_of cd199 rfl) (by decide) ?_
        exact rc_iret mq199 (mvDec_of cd199 rfl) ⟨_, _, rfl, rfl, H⟩
      · replace H := H.2 hc
        refine rc_iload_n mq199 (mvDec_of cd199 rfl) rfl ?_
        refine rc_iconst mq199 (mvDec_of cd199 rfl) (by decide) ?_
        refine rc_icmp_le (t := 36) mq199 (mvDec_of cd199 rfl) rfl (fun hc => ?_) (fun hc => ?_)
        · replace H := H.1 hc
          refine rc_iload_n mq199 (mvDec_of cd199 rfl) rfl ?_
          refine rc_if_ne (t := 57) mq199 (mvDec_of cd199 rfl) rfl (fun hc => ?_) (fun hc => ?_)
          · replace H := H.1 hc
            refine rc_iload_n mq199 (mvDec_of cd199 rfl) rfl ?_
            refine rc_iconst mq199 (mvDec_of cd199 rfl) (by decide) ?_
            refine rc_icmp_ne (t := 67) mq199 (mvDec_of cd199 rfl) rfl (fun hc => ?_) (fun hc => ?_)
            · replace H := H.1 hc
              refine rc_aload_n mq199 (mvDec_of cd199 rfl) rfl ?_
              refine rc_getR (evO sw) mq199 (mvDec_of cd199 rfl) fl_0_19 mis3 rfl (gr_3_1 hG) (evO_ne sw) ?_
              refine rc_iload_n mq199 (mvDec_of cd199 rfl) rfl ?_
              refine rc_callV [mvR (evO sw), mvI x1] [] [some (mvR (evO sw)), some (mvI x1), none, none] mq199 (mvDec_of cd199 rfl) lk_0_151 mq149 (by decide) rfl rfl (Nat.le_of_ble_eq_true rfl) (Nat.le_of_ble_eq_true rfl) (by decide) rfl (miE0 (evO_id sw)) rfl (ri_bind H (fun r4 h3 H => ?_))
              refine rc_if_ne (t := 81) mq199 (mvDec_of cd199 rfl) rfl (fun hc => ?_) (fun hc => ?_)
              · replace H := H.1 hc
                refine rc_iload_n mq199 (mvDec_of cd199 rfl) rfl ?_
                refine rc_iconst mq199 (mvDec_of cd199 rfl) (by decide) ?_
                refine rc_icmp_ne (t := 97) mq199 (mvDec_of cd199 rfl) rfl (fun hc => ?_) (fun hc => ?_)
                · replace H := H.1 hc
                  refine rc_aload_n mq199 (mvDec_of cd199 rfl) rfl ?_
                  refine rc_iload_n mq199 (mvDec_of cd199 rfl) rfl ?_
                  refine rc_iload_n mq199 (mvDec_of cd199 rfl) rfl ?_
                  refine rc_callV [mvR 3, mvI x1, mvI x2] [] [some (mvR 3), some (mvI x1), some (mvI x2)] mq199 (mvDec_of cd199 rfl) lk_0_162 mq180 (by decide) rfl rfl (Nat.le_of_ble_eq_true rfl) (Nat.le_of_ble_eq_true rfl) (by decide) rfl mis3 rfl (ri_bind H (fun r6 h5 H => ?_))
                  exact rc_iret mq199 (mvDec_of cd199 rfl) ⟨_, _, rfl, rfl, H⟩
                · replace H := H.2 hc
                  refine rc_aload_n mq199 (mvDec_of cd199 rfl) rfl ?_
                  refine rc_getR 24 mq199 (mvDec_of cd199 rfl) fl_0_29 mis3 rfl (gr_3_3 hG) (by decide) ?_
                  refine rc_aload_n mq199 (mvDec_of cd199 rfl) rfl ?_
                  refine rc_getR (evO sw) mq199 (mvDec_of cd199 rfl) fl_0_19 mis3 rfl (gr_3_1 hG) (evO_ne sw) ?_
                  refine rc_callV [mvR 24, mvR (evO sw)] [] [some (mvR 24), some (mvR (evO sw))] mq199 (mvDec_of cd199 rfl) lk_0_158 mq183 (by decide) rfl rfl (Nat.le_of_ble_eq_true rfl) (Nat.le_of_ble_eq_true rfl) (by decide) rfl mis24 rfl (rv_bind H (fun h7 H => ?_))
                  refine rc_aload_n mq199 (mvDec_of cd199 rfl) rfl ?_
                  refine rc_iload_n mq199 (mvDec_of cd199 rfl) rfl ?_
                  refine rc_iload_n mq199 (mvDec_of cd199 rfl) rfl ?_
                  refine rc_callV [mvR 3, mvI x1, mvI x2] [] [some (mvR 3), some (mvI x1), some (mvI x2)] mq199 (mvDec_of cd199 rfl) lk_0_162 mq180 (by decide) rfl rfl (Nat.le_of_ble_eq_true rfl) (Nat.le_of_ble_eq_true rfl) (by decide) rfl mis3 rfl (ri_bind H (fun r9 h8 H => ?_))
                  exact rc_iret mq199 (mvDec_of cd199 rfl) ⟨_, _, rfl, rfl, H⟩
              · replace H := H.2 hc
                refine rc_bipush mq199 (mvDec_of cd199 rfl) (by decide) ?_
                exact rc_iret mq199 (mvDec_of cd199 rfl) ⟨_, _, rfl, rfl, H⟩
            · replace H := H.2 hc
              refine rc_iload_n mq199 (mvDec_of cd199 rfl) rfl ?_
              refine rc_callS [mvI x1] [] [some (mvI x1)] mq199 (mvDec_of cd199 rfl) lk_0_154 mq4 (by decide) rfl rfl (Nat.le_of_ble_eq_true rfl) (Nat.le_of_ble_eq_true rfl) (by decide) rfl (ri_bind H (fun r11 h10 H => ?_))
              exact rc_iret mq199 (mvDec_of cd199 rfl) ⟨_, _, rfl, rfl, H⟩
          · replace H := H.2 hc
            refine rc_aload_n mq199 (mvDec_of cd199 rfl) rfl ?_
            refine rc_getR (evO sw) mq199 (mvDec_of cd199 rfl) fl_0_19 mis3 rfl (gr_3_1 hG) (evO_ne sw) ?_
            refine rc_iload_n mq199 (mvDec_of cd199 rfl) rfl ?_
            refine rc_callV [mvR (evO sw), mvI x1] [] [some (mvR (evO sw)), some (mvI x1), none, none] mq199 (mvDec_of cd199 rfl) lk_0_151 mq149 (by decide) rfl rfl (Nat.le_of_ble_eq_true rfl) (Nat.le_of_ble_eq_true rfl) (by decide) rfl (miE0 (evO_id sw)) rfl (ri_bind H (fun r13 h12 H => ?_))
            refine rc_if_eq (t := 55) mq199 (mvDec_of cd199 rfl) rfl (fun hc => ?_) (fun hc => ?_)
            · replace H := H.1 hc
              refine rc_iconst mq199 (mvDec_of cd199 rfl) (by decide) ?_
              exact rc_iret mq199 (mvDec_of cd199 rfl) ⟨_, _, rfl, rfl, H⟩
            · replace H := H.2 hc
              refine rc_iconst mq199 (mvDec_of cd199 rfl) (by decide) ?_
              refine rc_goto (t := 56) mq199 (mvDec_of cd199 rfl) rfl ?_
              exact rc_iret mq199 (mvDec_of cd199 rfl) ⟨_, _, rfl, rfl, H⟩
        · replace H := H.2 hc
          refine rc_bipush mq199 (mvDec_of cd199 rfl) (by decide) ?_
          exact rc_iret mq199 (mvDec_of cd199 rfl) ⟨_, _, rfl, rfl, H⟩
    · replace H := H.2 hc
      refine rc_bipush mq199 (mvDec_of cd199 rfl) (by decide) ?_
      exact rc_iret mq199 (mvDec_of cd199 rfl) ⟨_, _, rfl, rfl, H⟩
abbrev RC_meet (g : Nat → Nat → Nat) (h : Nat → Int → Int) (x1 : Int) (x2 : Int) (K : Int → (Nat → Int → Int) → Prop) : Prop := RI 200 0 [some (mvR 3), some (mvI x1), some (mvI x2), none] [] g h K
theorem RC_meet_wp {sw : Bool} {g : Nat → Nat → Nat} {h : Nat → Int → Int} {x1 : Int} {x2 : Int} {K : Int → (Nat → Int → Int) → Prop} (hG : Gok sw g)  (H :
  (((h (evO sw) 0) ≤ 0 →
    K (-103) h) ∧
  (0 < (h (evO sw) 0) →
    EV_isCut g h (evO sw) x1 (fun r2 h1 =>
      ((r2 = 0 →
        K (-101) h1) ∧
      (¬ r2 = 0 →
        EV_isCut g h1 (evO sw) x2 (fun r4 h3 =>
          ((¬ r4 = 0 →
            EV_isConsistent g h3 (evO sw) x1 (fun r6 h5 =>
              ((r6 = 0 →
                K (-103) h5) ∧
              (¬ r6 = 0 →
                EV_isConsistent g h5 (evO sw) x2 (fun r8 h7 =>
                  ((r8 = 0 →
                    K (-103) h7) ∧
                  (¬ r8 = 0 →
                    EV_combine g h7 (evO sw) x1 x2 0 (fun r10 h9 =>
                      K r10 h9)))))))) ∧
          (r4 = 0 →
            K (-101) h3))))))))) : RC_meet g h x1 x2 K := by
  refine rc_aload_n mq200 (mvDec_of cd200 rfl) rfl ?_
  refine rc_iload_n mq200 (mvDec_of cd200 rfl) rfl ?_
  refine rc_iload_n mq200 (mvDec_of cd200 rfl) rfl ?_
  refine rc_callV [mvR 3, mvI x1, mvI x2] [] [some (mvR 3), some (mvI x1), some (mvI x2)] mq200 (mvDec_of cd200 rfl) lk_0_172 mq181 (by decide) rfl rfl (Nat.le_of_ble_eq_true rfl) (Nat.le_of_ble_eq_true rfl) (by decide) rfl mis3 rfl ?_
  refine rc_aload_n mq181 (mvDec_of cd181 rfl) rfl ?_
  refine rc_callV [mvR 3] [] [some (mvR 3)] mq181 (mvDec_of cd181 rfl) lk_0_145 mq3 (by decide) rfl rfl (Nat.le_of_ble_eq_true rfl) (Nat.le_of_ble_eq_true rfl) (by decide) rfl mis3 rfl ?_
  refine rc_aload_n mq3 (mvDec_of cd3 rfl) rfl ?_
  refine rc_getR (evO sw) mq3 (mvDec_of cd3 rfl) fl_0_19 mis3 rfl (gr_3_1 hG) (evO_ne sw) ?_
  refine rc_getI 0 mq3 (mvDec_of cd3 rfl) fl_0_104 (miE0 (evO_id sw)) rfl (by decide) (by decide) ?_
  refine rc_if_le (t := 14) mq3 (mvDec_of cd3 rfl) rfl (fun hc => ?_) (fun hc => ?_)
  · replace H := H.1 hc
    refine rc_iconst mq3 (mvDec_of cd3 rfl) (by decide) ?_
    refine rc_zret mq3 (mvDec_of cd3 rfl) (Or.inl rfl) ?_
    show Rch 181 4 [some (mvR 3), some (mvI x1), some (mvI x2)] [mvI 0] (97, g, h) _
    refine rc_ifF (t := 10) mq181 (mvDec_of cd181 rfl) rfl rfl ?_
    refine rc_bipush mq181 (mvDec_of cd181 rfl) (by decide) ?_
    refine rc_iret mq181 (mvDec_of cd181 rfl) ?_
    show Rch 200 6 [some (mvR 3), some (mvI x1), some (mvI x2), none] [mvI (-103)] (97, g, h) _
    refine rc_istore_n [some (mvR 3), some (mvI x1), some (mvI x2), some (mvI (-103))] mq200 (mvDec_of cd200 rfl) rfl ?_
    refine rc_iload_n mq200 (mvDec_of cd200 rfl) rfl ?_
    refine rc_ifF (t := 15) mq200 (mvDec_of cd200 rfl) rfl rfl ?_
    refine rc_iload_n mq200 (mvDec_of cd200 rfl) rfl ?_
    refine rc_goto (t := 25) mq200 (mvDec_of cd200 rfl) rfl ?_
    exact rc_iret mq200 (mvDec_of cd200 rfl) ⟨_, _, rfl, rfl, H⟩
  · replace H := H.2 hc
    refine rc_iconst mq3 (mvDec_of cd3 rfl) (by decide) ?_
    refine rc_goto (t := 15) mq3 (mvDec_of cd3 rfl) rfl ?_
    refine rc_zret mq3 (mvDec_of cd3 rfl) (Or.inr rfl) ?_
    show Rch 181 4 [some (mvR 3), some (mvI x1), some (mvI x2)] [mvI 1] (97, g, h) _
    refine rc_ifT (t := 10) mq181 (mvDec_of cd181 rfl) rfl rfl ?_
    refine rc_aload_n mq181 (mvDec_of cd181 rfl) rfl ?_
    refine rc_getR (evO sw) mq181 (mvDec_of cd181 rfl) fl_0_19 mis3 rfl (gr_3_1 hG) (evO_ne sw) ?_
    refine rc_iload_n mq181 (mvDec_of cd181 rfl) rfl ?_
    refine rc_callV [mvR (evO sw), mvI x1] [] [some (mvR (evO sw)), some (mvI x1), none, none] mq181 (mvDec_of cd181 rfl) lk_0_148 mq22 (by decide) rfl rfl (Nat.le_of_ble_eq_true rfl) (Nat.le_of_ble_eq_true rfl) (by decide) rfl (miE0 (evO_id sw)) rfl (ri_bind H (fun r2 h1 H => ?_))
    refine rc_if_eq (t := 32) mq181 (mvDec_of cd181 rfl) rfl (fun hc => ?_) (fun hc => ?_)
    · replace H := H.1 hc
      refine rc_bipush mq181 (mvDec_of cd181 rfl) (by decide) ?_
      refine rc_iret mq181 (mvDec_of cd181 rfl) ?_
      show Rch 200 6 [some (mvR 3), some (mvI x1), some (mvI x2), none] [mvI (-101)] (97, g, h1) _
      refine rc_istore_n [some (mvR 3), some (mvI x1), some (mvI x2), some (mvI (-101))] mq200 (mvDec_of cd200 rfl) rfl ?_
      refine rc_iload_n mq200 (mvDec_of cd200 rfl) rfl ?_
      refine rc_ifF (t := 15) mq200 (mvDec_of cd200 rfl) rfl rfl ?_
      refine rc_iload_n mq200 (mvDec_of cd200 rfl) rfl ?_
      refine rc_goto (t := 25) mq200 (mvDec_of cd200 rfl) rfl ?_
      exact rc_iret mq200 (mvDec_of cd200 rfl) ⟨_, _, rfl, rfl, H⟩
    · replace H := H.2 hc
      refine rc_aload_n mq181 (mvDec_of cd181 rfl) rfl ?_
      refine rc_getR (evO sw) mq181 (mvDec_of cd181 rfl) fl_0_19 mis3 rfl (gr_3_1 hG) (evO_ne sw) ?_
      refine rc_iload_n mq181 (mvDec_of cd181 rfl) rfl ?_
      refine rc_callV [mvR (evO sw), mvI x2] [] [some (mvR (evO sw)), some (mvI x2), none, none] mq181 (mvDec_of cd181 rfl) lk_0_148 mq22 (by decide) rfl rfl (Nat.le_of_ble_eq_true rfl) (Nat.le_of_ble_eq_true rfl) (by decide) rfl (miE0 (evO_id sw)) rfl (ri_bind H (fun r4 h3 H => ?_))
      refine rc_if_ne (t := 35) mq181 (mvDec_of cd181 rfl) rfl (fun hc => ?_) (fun hc => ?_)
      · replace H := H.1 hc
        refine rc_aload_n mq181 (mvDec_of cd181 rfl) rfl ?_
        refine rc_getR (evO sw) mq181 (mvDec_of cd181 rfl) fl_0_19 mis3 rfl (gr_3_1 hG) (evO_ne sw) ?_
        refine rc_iload_n mq181 (mvDec_of cd181 rfl) rfl ?_
        refine rc_callV [mvR (evO sw), mvI x1] [] [some (mvR (evO sw)), some (mvI x1), none, none] mq181 (mvDec_of cd181 rfl) lk_0_151 mq149 (by decide) rfl rfl (Nat.le_of_ble_eq_true rfl) (Nat.le_of_ble_eq_true rfl) (by decide) rfl (miE0 (evO_id sw)) rfl (ri_bind H (fun r6 h5 H => ?_))
        refine rc_if_eq (t := 61) mq181 (mvDec_of cd181 rfl) rfl (fun hc => ?_) (fun hc => ?_)
        · replace H := H.1 hc
          refine rc_bipush mq181 (mvDec_of cd181 rfl) (by decide) ?_
          refine rc_iret mq181 (mvDec_of cd181 rfl) ?_
          show Rch 200 6 [some (mvR 3), some (mvI x1), some (mvI x2), none] [mvI (-103)] (97, g, h5) _
          refine rc_istore_n [some (mvR 3), some (mvI x1), some (mvI x2), some (mvI (-103))] mq200 (mvDec_of cd200 rfl) rfl ?_
          refine rc_iload_n mq200 (mvDec_of cd200 rfl) rfl ?_
          refine rc_ifF (t := 15) mq200 (mvDec_of cd200 rfl) rfl rfl ?_
          refine rc_iload_n mq200 (mvDec_of cd200 rfl) rfl ?_
          refine rc_goto (t := 25) mq200 (mvDec_of cd200 rfl) rfl ?_
          exact rc_iret mq200 (mvDec_of cd200 rfl) ⟨_, _, rfl, rfl, H⟩
        · replace H := H.2 hc
          refine rc_aload_n mq181 (mvDec_of cd181 rfl) rfl ?_
          refine rc_getR (evO sw) mq181 (mvDec_of cd181 rfl) fl_0_19 mis3 rfl (gr_3_1 hG) (evO_ne sw) ?_
          refine rc_iload_n mq181 (mvDec_of cd181 rfl) rfl ?_
          refine rc_callV [mvR (evO sw), mvI x2] [] [some (mvR (evO sw)), some (mvI x2), none, none] mq181 (mvDec_of cd181 rfl) lk_0_151 mq149 (by decide) rfl rfl (Nat.le_of_ble_eq_true rfl) (Nat.le_of_ble_eq_true rfl) (by decide) rfl (miE0 (evO_id sw)) rfl (ri_bind H (fun r8 h7 H => ?_))
          refine rc_if_eq (t := 61) mq181 (mvDec_of cd181 rfl) rfl (fun hc => ?_) (fun hc => ?_)
          · replace H := H.1 hc
            refine rc_bipush mq181 (mvDec_of cd181 rfl) (by decide) ?_
            refine rc_iret mq181 (mvDec_of cd181 rfl) ?_
            show Rch 200 6 [some (mvR 3), some (mvI x1), some (mvI x2), none] [mvI (-103)] (97, g, h7) _
            refine rc_istore_n [some (mvR 3), some (mvI x1), some (mvI x2), some (mvI (-103))] mq200 (mvDec_of cd200 rfl) rfl ?_
            refine rc_iload_n mq200 (mvDec_of cd200 rfl) rfl ?_
            refine rc_ifF (t := 15) mq200 (mvDec_of cd200 rfl) rfl rfl ?_
            refine rc_iload_n mq200 (mvDec_of cd200 rfl) rfl ?_
            refine rc_goto (t := 25) mq200 (mvDec_of cd200 rfl) rfl ?_
            exact rc_iret mq200 (mvDec_of cd200 rfl) ⟨_, _, rfl, rfl, H⟩
          · replace H := H.2 hc
            refine rc_iconst mq181 (mvDec_of cd181 rfl) (by decide) ?_
            refine rc_goto (t := 63) mq181 (mvDec_of cd181 rfl) rfl ?_
            refine rc_iret mq181 (mvDec_of cd181 rfl) ?_
            show Rch 200 6 [some (mvR 3), some (mvI x1), some (mvI x2), none] [mvI 0] (97, g, h7) _
            refine rc_istore_n [some (mvR 3), some (mvI x1), some (mvI x2), some (mvI 0)] mq200 (mvDec_of cd200 rfl) rfl ?_
            refine rc_iload_n mq200 (mvDec_of cd200 rfl) rfl ?_
            refine rc_ifT (t := 15) mq200 (mvDec_of cd200 rfl) rfl rfl ?_
            refine rc_aload_n mq200 (mvDec_of cd200 rfl) rfl ?_
            refine rc_getR (evO sw) mq200 (mvDec_of cd200 rfl) fl_0_19 mis3 rfl (gr_3_1 hG) (evO_ne sw) ?_
            refine rc_iload_n mq200 (mvDec_of cd200 rfl) rfl ?_
            refine rc_iload_n mq200 (mvDec_of cd200 rfl) rfl ?_
            refine rc_iconst mq200 (mvDec_of cd200 rfl) (by decide) ?_
            refine rc_callV [mvR (evO sw), mvI x1, mvI x2, mvI 0] [] [some (mvR (evO sw)), some (mvI x1), some (mvI x2), some (mvI 0), none, none, none, none] mq200 (mvDec_of cd200 rfl) lk_0_175 mq87 (by decide) rfl rfl (Nat.le_of_ble_eq_true rfl) (Nat.le_of_ble_eq_true rfl) (by decide) rfl (miE0 (evO_id sw)) rfl (ri_bind H (fun r10 h9 H => ?_))
            exact rc_iret mq200 (mvDec_of cd200 rfl) ⟨_, _, rfl, rfl, H⟩
      · replace H := H.2 hc
        refine rc_bipush mq181 (mvDec_of cd181 rfl) (by decide) ?_
        refine rc_iret mq181 (mvDec_of cd181 rfl) ?_
        show Rch 200 6 [some (mvR 3), some (mvI x1), some (mvI x2), none] [mvI (-101)] (97, g, h3) _
        refine rc_istore_n [some (mvR 3), some (mvI x1), some (mvI x2), some (mvI (-101))] mq200 (mvDec_of cd200 rfl) rfl ?_
        refine rc_iload_n mq200 (mvDec_of cd200 rfl) rfl ?_
        refine rc_ifF (t := 15) mq200 (mvDec_of cd200 rfl) rfl rfl ?_
        refine rc_iload_n mq200 (mvDec_of cd200 rfl) rfl ?_
        refine rc_goto (t := 25) mq200 (mvDec_of cd200 rfl) rfl ?_
        exact rc_iret mq200 (mvDec_of cd200 rfl) ⟨_, _, rfl, rfl, H⟩
abbrev RC_join (g : Nat → Nat → Nat) (h : Nat → Int → Int) (x1 : Int) (x2 : Int) (K : Int → (Nat → Int → Int) → Prop) : Prop := RI 201 0 [some (mvR 3), some (mvI x1), some (mvI x2), none] [] g h K
theorem RC_join_wp {sw : Bool} {g : Nat → Nat → Nat} {h : Nat → Int → Int} {x1 : Int} {x2 : Int} {K : Int → (Nat → Int → Int) → Prop} (hG : Gok sw g)  (H :
  (((h (evO sw) 0) ≤ 0 →
    K (-103) h) ∧
  (0 < (h (evO sw) 0) →
    EV_isCut g h (evO sw) x1 (fun r2 h1 =>
      ((r2 = 0 →
        K (-101) h1) ∧
      (¬ r2 = 0 →
        EV_isCut g h1 (evO sw) x2 (fun r4 h3 =>
          ((¬ r4 = 0 →
            EV_isConsistent g h3 (evO sw) x1 (fun r6 h5 =>
              ((r6 = 0 →
                K (-103) h5) ∧
              (¬ r6 = 0 →
                EV_isConsistent g h5 (evO sw) x2 (fun r8 h7 =>
                  ((r8 = 0 →
                    K (-103) h7) ∧
                  (¬ r8 = 0 →
                    EV_combine g h7 (evO sw) x1 x2 1 (fun r10 h9 =>
                      K r10 h9)))))))) ∧
          (r4 = 0 →
            K (-101) h3))))))))) : RC_join g h x1 x2 K := by
  refine rc_aload_n mq201 (mvDec_of cd201 rfl) rfl ?_
  refine rc_iload_n mq201 (mvDec_of cd201 rfl) rfl ?_
  refine rc_iload_n mq201 (mvDec_of cd201 rfl) rfl ?_
  refine rc_callV [mvR 3, mvI x1, mvI x2] [] [some (mvR 3), some (mvI x1), some (mvI x2)] mq201 (mvDec_of cd201 rfl) lk_0_172 mq181 (by decide) rfl rfl (Nat.le_of_ble_eq_true rfl) (Nat.le_of_ble_eq_true rfl) (by decide) rfl mis3 rfl ?_
  refine rc_aload_n mq181 (mvDec_of cd181 rfl) rfl ?_
  refine rc_callV [mvR 3] [] [some (mvR 3)] mq181 (mvDec_of cd181 rfl) lk_0_145 mq3 (by decide) rfl rfl (Nat.le_of_ble_eq_true rfl) (Nat.le_of_ble_eq_true rfl) (by decide) rfl mis3 rfl ?_
  refine rc_aload_n mq3 (mvDec_of cd3 rfl) rfl ?_
  refine rc_getR (evO sw) mq3 (mvDec_of cd3 rfl) fl_0_19 mis3 rfl (gr_3_1 hG) (evO_ne sw) ?_
  refine rc_getI 0 mq3 (mvDec_of cd3 rfl) fl_0_104 (miE0 (evO_id sw)) rfl (by decide) (by decide) ?_
  refine rc_if_le (t := 14) mq3 (mvDec_of cd3 rfl) rfl (fun hc => ?_) (fun hc => ?_)
  · replace H := H.1 hc
    refine rc_iconst mq3 (mvDec_of cd3 rfl) (by decide) ?_
    refine rc_zret mq3 (mvDec_of cd3 rfl) (Or.inl rfl) ?_
    show Rch 181 4 [some (mvR 3), some (mvI x1), some (mvI x2)] [mvI 0] (97, g, h) _
    refine rc_ifF (t := 10) mq181 (mvDec_of cd181 rfl) rfl rfl ?_
    refine rc_bipush mq181 (mvDec_of cd181 rfl) (by decide) ?_
    refine rc_iret mq181 (mvDec_of cd181 rfl) ?_
    show Rch 201 6 [some (mvR 3), some (mvI x1), some (mvI x2), none] [mvI (-103)] (97, g, h) _
    refine rc_istore_n [some (mvR 3), some (mvI x1), some (mvI x2), some (mvI (-103))] mq201 (mvDec_of cd201 rfl) rfl ?_
    refine rc_iload_n mq201 (mvDec_of cd201 rfl) rfl ?_
    refine rc_ifF (t := 15) mq201 (mvDec_of cd201 rfl) rfl rfl ?_
    refine rc_iload_n mq201 (mvDec_of cd201 rfl) rfl ?_
    refine rc_goto (t := 25) mq201 (mvDec_of cd201 rfl) rfl ?_
    exact rc_iret mq201 (mvDec_of cd201 rfl) ⟨_, _, rfl, rfl, H⟩
  · replace H := H.2 hc
    refine rc_iconst mq3 (mvDec_of cd3 rfl) (by decide) ?_
    refine rc_goto (t := 15) mq3 (mvDec_of cd3 rfl) rfl ?_
    refine rc_zret mq3 (mvDec_of cd3 rfl) (Or.inr rfl) ?_
    show Rch 181 4 [some (mvR 3), some (mvI x1), some (mvI x2)] [mvI 1] (97, g, h) _
    refine rc_ifT (t := 10) mq181 (mvDec_of cd181 rfl) rfl rfl ?_
    refine rc_aload_n mq181 (mvDec_of cd181 rfl) rfl ?_
    refine rc_getR (evO sw) mq181 (mvDec_of cd181 rfl) fl_0_19 mis3 rfl (gr_3_1 hG) (evO_ne sw) ?_
    refine rc_iload_n mq181 (mvDec_of cd181 rfl) rfl ?_
    refine rc_callV [mvR (evO sw), mvI x1] [] [some (mvR (evO sw)), some (mvI x1), none, none] mq181 (mvDec_of cd181 rfl) lk_0_148 mq22 (by decide) rfl rfl (Nat.le_of_ble_eq_true rfl) (Nat.le_of_ble_eq_true rfl) (by decide) rfl (miE0 (evO_id sw)) rfl (ri_bind H (fun r2 h1 H => ?_))
    refine rc_if_eq (t := 32) mq181 (mvDec_of cd181 rfl) rfl (fun hc => ?_) (fun hc => ?_)
    · replace H := H.1 hc
      refine rc_bipush mq181 (mvDec_of cd181 rfl) (by decide) ?_
      refine rc_iret mq181 (mvDec_of cd181 rfl) ?_
      show Rch 201 6 [some (mvR 3), some (mvI x1), some (mvI x2), none] [mvI (-101)] (97, g, h1) _
      refine rc_istore_n [some (mvR 3), some (mvI x1), some (mvI x2), some (mvI (-101))] mq201 (mvDec_of cd201 rfl) rfl ?_
      refine rc_iload_n mq201 (mvDec_of cd201 rfl) rfl ?_
      refine rc_ifF (t := 15) mq201 (mvDec_of cd201 rfl) rfl rfl ?_
      refine rc_iload_n mq201 (mvDec_of cd201 rfl) rfl ?_
      refine rc_goto (t := 25) mq201 (mvDec_of cd201 rfl) rfl ?_
      exact rc_iret mq201 (mvDec_of cd201 rfl) ⟨_, _, rfl, rfl, H⟩
    · replace H := H.2 hc
      refine rc_aload_n mq181 (mvDec_of cd181 rfl) rfl ?_
      refine rc_getR (evO sw) mq181 (mvDec_of cd181 rfl) fl_0_19 mis3 rfl (gr_3_1 hG) (evO_ne sw) ?_
      refine rc_iload_n mq181 (mvDec_of cd181 rfl) rfl ?_
      refine rc_callV [mvR (evO sw), mvI x2] [] [some (mvR (evO sw)), some (mvI x2), none, none] mq181 (mvDec_of cd181 rfl) lk_0_148 mq22 (by decide) rfl rfl (Nat.le_of_ble_eq_true rfl) (Nat.le_of_ble_eq_true rfl) (by decide) rfl (miE0 (evO_id sw)) rfl (ri_bind H (fun r4 h3 H => ?_))
      refine rc_if_ne (t := 35) mq181 (mvDec_of cd181 rfl) rfl (fun hc => ?_) (fun hc => ?_)
      · replace H := H.1 hc
        refine rc_aload_n mq181 (mvDec_of cd181 rfl) rfl ?_
        refine rc_getR (evO sw) mq181 (mvDec_of cd181 rfl) fl_0_19 mis3 rfl (gr_3_1 hG) (evO_ne sw) ?_
        refine rc_iload_n mq181 (mvDec_of cd181 rfl) rfl ?_
        refine rc_callV [mvR (evO sw), mvI x1] [] [some (mvR (evO sw)), some (mvI x1), none, none] mq181 (mvDec_of cd181 rfl) lk_0_151 mq149 (by decide) rfl rfl (Nat.le_of_ble_eq_true rfl) (Nat.le_of_ble_eq_true rfl) (by decide) rfl (miE0 (evO_id sw)) rfl (ri_bind H (fun r6 h5 H => ?_))
        refine rc_if_eq (t := 61) mq181 (mvDec_of cd181 rfl) rfl (fun hc => ?_) (fun hc => ?_)
        · replace H := H.1 hc
          refine rc_bipush mq181 (mvDec_of cd181 rfl) (by decide) ?_
          refine rc_iret mq181 (mvDec_of cd181 rfl) ?_
          show Rch 201 6 [some (mvR 3), some (mvI x1), some (mvI x2), none] [mvI (-103)] (97, g, h5) _
          refine rc_istore_n [some (mvR 3), some (mvI x1), some (mvI x2), some (mvI (-103))] mq201 (mvDec_of cd201 rfl) rfl ?_
          refine rc_iload_n mq201 (mvDec_of cd201 rfl) rfl ?_
          refine rc_ifF (t := 15) mq201 (mvDec_of cd201 rfl) rfl rfl ?_
          refine rc_iload_n mq201 (mvDec_of cd201 rfl) rfl ?_
          refine rc_goto (t := 25) mq201 (mvDec_of cd201 rfl) rfl ?_
          exact rc_iret mq201 (mvDec_of cd201 rfl) ⟨_, _, rfl, rfl, H⟩
        · replace H := H.2 hc
          refine rc_aload_n mq181 (mvDec_of cd181 rfl) rfl ?_
          refine rc_getR (evO sw) mq181 (mvDec_of cd181 rfl) fl_0_19 mis3 rfl (gr_3_1 hG) (evO_ne sw) ?_
          refine rc_iload_n mq181 (mvDec_of cd181 rfl) rfl ?_
          refine rc_callV [mvR (evO sw), mvI x2] [] [some (mvR (evO sw)), some (mvI x2), none, none] mq181 (mvDec_of cd181 rfl) lk_0_151 mq149 (by decide) rfl rfl (Nat.le_of_ble_eq_true rfl) (Nat.le_of_ble_eq_true rfl) (by decide) rfl (miE0 (evO_id sw)) rfl (ri_bind H (fun r8 h7 H => ?_))
          refine rc_if_eq (t := 61) mq181 (mvDec_of cd181 rfl) rfl (fun hc => ?_) (fun hc => ?_)
          · replace H := H.1 hc
            refine rc_bipush mq181 (mvDec_of cd181 rfl) (by decide) ?_
            refine rc_iret mq181 (mvDec_of cd181 rfl) ?_
            show Rch 201 6 [some (mvR 3), some (mvI x1), some (mvI x2), none] [mvI (-103)] (97, g, h7) _
            refine rc_istore_n [some (mvR 3), some (mvI x1), some (mvI x2), some (mvI (-103))] mq201 (mvDec_of cd201 rfl) rfl ?_
            refine rc_iload_n mq201 (mvDec_of cd201 rfl) rfl ?_
            refine rc_ifF (t := 15) mq201 (mvDec_of cd201 rfl) rfl rfl ?_
            refine rc_iload_n mq201 (mvDec_of cd201 rfl) rfl ?_
            refine rc_goto (t := 25) mq201 (mvDec_of cd201 rfl) rfl ?_
            exact rc_iret mq201 (mvDec_of cd201 rfl) ⟨_, _, rfl, rfl, H⟩
          · replace H := H.2 hc
            refine rc_iconst mq181 (mvDec_of cd181 rfl) (by decide) ?_
            refine rc_goto (t := 63) mq181 (mvDec_of cd181 rfl) rfl ?_
            refine rc_iret mq181 (mvDec_of cd181 rfl) ?_
            show Rch 201 6 [some (mvR 3), some (mvI x1), some (mvI x2), none] [mvI 0] (97, g, h7) _
            refine rc_istore_n [some (mvR 3), some (mvI x1), some (mvI x2), some (mvI 0)] mq201 (mvDec_of cd201 rfl) rfl ?_
            refine rc_iload_n mq201 (mvDec_of cd201 rfl) rfl ?_
            refine rc_ifT (t := 15) mq201 (mvDec_of cd201 rfl) rfl rfl ?_
            refine rc_aload_n mq201 (mvDec_of cd201 rfl) rfl ?_
            refine rc_getR (evO sw) mq201 (mvDec_of cd201 rfl) fl_0_19 mis3 rfl (gr_3_1 hG) (evO_ne sw) ?_
            refine rc_iload_n mq201 (mvDec_of cd201 rfl) rfl ?_
            refine rc_iload_n mq201 (mvDec_of cd201 rfl) rfl ?_
            refine rc_iconst mq201 (mvDec_of cd201 rfl) (by decide) ?_
            refine rc_callV [mvR (evO sw), mvI x1, mvI x2, mvI 1] [] [some (mvR (evO sw)), some (mvI x1), some (mvI x2), some (mvI 1), none, none, none, none] mq201 (mvDec_of cd201 rfl) lk_0_175 mq87 (by decide) rfl rfl (Nat.le_of_ble_eq_true rfl) (Nat.le_of_ble_eq_true rfl) (by decide) rfl (miE0 (evO_id sw)) rfl (ri_bind H (fun r10 h9 H => ?_))
            exact rc_iret mq201 (mvDec_of cd201 rfl) ⟨_, _, rfl, rfl, H⟩
      · replace H := H.2 hc
        refine rc_bipush mq181 (mvDec_of cd181 rfl) (by decide) ?_
        refine rc_iret mq181 (mvDec_of cd181 rfl) ?_
        show Rch 201 6 [some (mvR 3), some (mvI x1), some (mvI x2), none] [mvI (-101)] (97, g, h3) _
        refine rc_istore_n [some (mvR 3), some (mvI x1), some (mvI x2), some (mvI (-101))] mq201 (mvDec_of cd201 rfl) rfl ?_
        refine rc_iload_n mq201 (mvDec_of cd201 rfl) rfl ?_
        refine rc_ifF (t := 15) mq201 (mvDec_of cd201 rfl) rfl rfl ?_
        refine rc_iload_n mq201 (mvDec_of cd201 rfl) rfl ?_
        refine rc_goto (t := 25) mq201 (mvDec_of cd201 rfl) rfl ?_
        exact rc_iret mq201 (mvDec_of cd201 rfl) ⟨_, _, rfl, rfl, H⟩
abbrev RC_lattice (g : Nat → Nat → Nat) (h : Nat → Int → Int) (x1 : Int) (K : Int → (Nat → Int → Int) → Prop) : Prop := RI 202 0 [some (mvR 3), some (mvI x1)] [] g h K
theorem RC_lattice_wp {sw : Bool} {g : Nat → Nat → Nat} {h : Nat → Int → Int} {x1 : Int} {K : Int → (Nat → Int → Int) → Prop} (hG : Gok sw g)  (H :
  ((x1 < 0 →
    K (-102) h) ∧
  (0 ≤ x1 →
    ((x1 ≤ 4 →
      (((h (evO sw) 0) ≤ 0 →
        K (-103) h) ∧
      (0 < (h (evO sw) 0) →
        LT_build g h 24 (evO sw) (fun h1 =>
          LT_property g h1 24 x1 (fun r3 h2 =>
            K r3 h2))))) ∧
    (4 < x1 →
      K (-102) h))))) : RC_lattice g h x1 K := by
  refine rc_iload_n mq202 (mvDec_of cd202 rfl) rfl ?_
  refine rc_if_lt (t := 9) mq202 (mvDec_of cd202 rfl) rfl (fun hc => ?_) (fun hc => ?_)
  · replace H := H.1 hc
    refine rc_bipush mq202 (mvDec_of cd202 rfl) (by decide) ?_
    exact rc_iret mq202 (mvDec_of cd202 rfl) ⟨_, _, rfl, rfl, H⟩
  · replace H := H.2 hc
    refine rc_iload_n mq202 (mvDec_of cd202 rfl) rfl ?_
    refine rc_iconst mq202 (mvDec_of cd202 rfl) (by decide) ?_
    refine rc_icmp_le (t := 12) mq202 (mvDec_of cd202 rfl) rfl (fun hc => ?_) (fun hc => ?_)
    · replace H := H.1 hc
      refine rc_aload_n mq202 (mvDec_of cd202 rfl) rfl ?_
      refine rc_callV [mvR 3] [] [some (mvR 3)] mq202 (mvDec_of cd202 rfl) lk_0_145 mq3 (by decide) rfl rfl (Nat.le_of_ble_eq_true rfl) (Nat.le_of_ble_eq_true rfl) (by decide) rfl mis3 rfl ?_
      refine rc_aload_n mq3 (mvDec_of cd3 rfl) rfl ?_
      refine rc_getR (evO sw) mq3 (mvDec_of cd3 rfl) fl_0_19 mis3 rfl (gr_3_1 hG) (evO_ne sw) ?_
      refine rc_getI 0 mq3 (mvDec_of cd3 rfl) fl_0_104 (miE0 (evO_id sw)) rfl (by decide) (by decide) ?_
      refine rc_if_le (t := 14) mq3 (mvDec_of cd3 rfl) rfl (fun hc => ?_) (fun hc => ?_)
      · replace H := H.1 hc
        refine rc_iconst mq3 (mvDec_of cd3 rfl) (by decide) ?_
        refine rc_zret mq3 (mvDec_of cd3 rfl) (Or.inl rfl) ?_
        show Rch 202 16 [some (mvR 3), some (mvI x1)] [mvI 0] (97, g, h) _
        refine rc_ifF (t := 22) mq202 (mvDec_of cd202 rfl) rfl rfl ?_
        refine rc_bipush mq202 (mvDec_of cd202 rfl) (by decide) ?_
        exact rc_iret mq202 (mvDec_of cd202 rfl) ⟨_, _, rfl, rfl, H⟩
      · replace H := H.2 hc
        refine rc_iconst mq3 (mvDec_of cd3 rfl) (by decide) ?_
        refine rc_goto (t := 15) mq3 (mvDec_of cd3 rfl) rfl ?_
        refine rc_zret mq3 (mvDec_of cd3 rfl) (Or.inr rfl) ?_
        show Rch 202 16 [some (mvR 3), some (mvI x1)] [mvI 1] (97, g, h) _
        refine rc_ifT (t := 22) mq202 (mvDec_of cd202 rfl) rfl rfl ?_
        refine rc_aload_n mq202 (mvDec_of cd202 rfl) rfl ?_
        refine rc_getR 24 mq202 (mvDec_of cd202 rfl) fl_0_29 mis3 rfl (gr_3_3 hG) (by decide) ?_
        refine rc_aload_n mq202 (mvDec_of cd202 rfl) rfl ?_
        refine rc_getR (evO sw) mq202 (mvDec_of cd202 rfl) fl_0_19 mis3 rfl (gr_3_1 hG) (evO_ne sw) ?_
        refine rc_callV [mvR 24, mvR (evO sw)] [] [some (mvR 24), some (mvR (evO sw))] mq202 (mvDec_of cd202 rfl) lk_0_158 mq183 (by decide) rfl rfl (Nat.le_of_ble_eq_true rfl) (Nat.le_of_ble_eq_true rfl) (by decide) rfl mis24 rfl (rv_bind H (fun h1 H => ?_))
        refine rc_aload_n mq202 (mvDec_of cd202 rfl) rfl ?_
        refine rc_getR 24 mq202 (mvDec_of cd202 rfl) fl_0_29 mis3 rfl (gr_3_3 hG) (by decide) ?_
        refine rc_iload_n mq202 (mvDec_of cd202 rfl) rfl ?_
        refine rc_callV [mvR 24, mvI x1] [] [some (mvR 24), some (mvI x1)] mq202 (mvDec_of cd202 rfl) lk_0_179 mq153 (by decide) rfl rfl (Nat.le_of_ble_eq_true rfl) (Nat.le_of_ble_eq_true rfl) (by decide) rfl mis24 rfl (ri_bind H (fun r3 h2 H => ?_))
        exact rc_iret mq202 (mvDec_of cd202 rfl) ⟨_, _, rfl, rfl, H⟩
    · replace H := H.2 hc
      refine rc_bipush mq202 (mvDec_of cd202 rfl) (by decide) ?_
      exact rc_iret mq202 (mvDec_of cd202 rfl) ⟨_, _, rfl, rfl, H⟩
abbrev RC_level (g : Nat → Nat → Nat) (h : Nat → Int → Int) (x1 : Int) (x2 : Int) (K : Int → (Nat → Int → Int) → Prop) : Prop := RI 203 0 [some (mvR 3), some (mvI x1), some (mvI x2)] [] g h K
theorem RC_level_wp {sw : Bool} {g : Nat → Nat → Nat} {h : Nat → Int → Int} {x1 : Int} {x2 : Int} {K : Int → (Nat → Int → Int) → Prop} (hG : Gok sw g)  (H :
  (((h (evO sw) 0) ≤ 0 →
    K (-103) h) ∧
  (0 < (h (evO sw) 0) →
    LT_build g h 24 (evO sw) (fun h1 =>
      ((x1 < 0 →
        K (-101) h1) ∧
      (0 ≤ x1 →
        ((x1 ≤ (h1 (evO sw) 1) →
          ((x2 < 0 →
            K (-101) h1) ∧
          (0 ≤ x2 →
            (0 ≤ (mw (x1 + 1)) ∧ (mw (x1 + 1)) < 18) ∧
            (0 ≤ x1 ∧ x1 < 18) ∧
            ((x2 < (mw ((h1 25 (mw (x1 + 1))) - (h1 25 x1))) →
              (0 ≤ x1 ∧ x1 < 18) ∧
              (0 ≤ (mw ((h1 25 x1) + x2)) ∧ (mw ((h1 25 x1) + x2)) < 625) ∧
              (0 ≤ (h1 28 (mw ((h1 25 x1) + x2))) ∧ (h1 28 (mw ((h1 25 x1) + x2))) < 625) ∧
              K (h1 27 (h1 28 (mw ((h1 25 x1) + x2)))) h1) ∧
            ((mw ((h1 25 (mw (x1 + 1))) - (h1 25 x1))) ≤ x2 →
              K (-101) h1))))) ∧
        ((h1 (evO sw) 1) < x1 →
          K (-101) h1)))))))) : RC_level g h x1 x2 K := by
  refine rc_aload_n mq203 (mvDec_of cd203 rfl) rfl ?_
  refine rc_callV [mvR 3] [] [some (mvR 3)] mq203 (mvDec_of cd203 rfl) lk_0_145 mq3 (by decide) rfl rfl (Nat.le_of_ble_eq_true rfl) (Nat.le_of_ble_eq_true rfl) (by decide) rfl mis3 rfl ?_
  refine rc_aload_n mq3 (mvDec_of cd3 rfl) rfl ?_
  refine rc_getR (evO sw) mq3 (mvDec_of cd3 rfl) fl_0_19 mis3 rfl (gr_3_1 hG) (evO_ne sw) ?_
  refine rc_getI 0 mq3 (mvDec_of cd3 rfl) fl_0_104 (miE0 (evO_id sw)) rfl (by decide) (by decide) ?_
  refine rc_if_le (t := 14) mq3 (mvDec_of cd3 rfl) rfl (fun hc => ?_) (fun hc => ?_)
  · replace H := H.1 hc
    refine rc_iconst mq3 (mvDec_of cd3 rfl) (by decide) ?_
    refine rc_zret mq3 (mvDec_of cd3 rfl) (Or.inl rfl) ?_
    show Rch 203 4 [some (mvR 3), some (mvI x1), some (mvI x2)] [mvI 0] (97, g, h) _
    refine rc_ifF (t := 10) mq203 (mvDec_of cd203 rfl) rfl rfl ?_
    refine rc_bipush mq203 (mvDec_of cd203 rfl) (by decide) ?_
    exact rc_iret mq203 (mvDec_of cd203 rfl) ⟨_, _, rfl, rfl, H⟩
  · replace H := H.2 hc
    refine rc_iconst mq3 (mvDec_of cd3 rfl) (by decide) ?_
    refine rc_goto (t := 15) mq3 (mvDec_of cd3 rfl) rfl ?_
    refine rc_zret mq3 (mvDec_of cd3 rfl) (Or.inr rfl) ?_
    show Rch 203 4 [some (mvR 3), some (mvI x1), some (mvI x2)] [mvI 1] (97, g, h) _
    refine rc_ifT (t := 10) mq203 (mvDec_of cd203 rfl) rfl rfl ?_
    refine rc_aload_n mq203 (mvDec_of cd203 rfl) rfl ?_
    refine rc_getR 24 mq203 (mvDec_of cd203 rfl) fl_0_29 mis3 rfl (gr_3_3 hG) (by decide) ?_
    refine rc_aload_n mq203 (mvDec_of cd203 rfl) rfl ?_
    refine rc_getR (evO sw) mq203 (mvDec_of cd203 rfl) fl_0_19 mis3 rfl (gr_3_1 hG) (evO_ne sw) ?_
    refine rc_callV [mvR 24, mvR (evO sw)] [] [some (mvR 24), some (mvR (evO sw))] mq203 (mvDec_of cd203 rfl) lk_0_158 mq183 (by decide) rfl rfl (Nat.le_of_ble_eq_true rfl) (Nat.le_of_ble_eq_true rfl) (by decide) rfl mis24 rfl (rv_bind H (fun h1 H => ?_))
    refine rc_iload_n mq203 (mvDec_of cd203 rfl) rfl ?_
    refine rc_if_lt (t := 36) mq203 (mvDec_of cd203 rfl) rfl (fun hc => ?_) (fun hc => ?_)
    · replace H := H.1 hc
      refine rc_bipush mq203 (mvDec_of cd203 rfl) (by decide) ?_
      exact rc_iret mq203 (mvDec_of cd203 rfl) ⟨_, _, rfl, rfl, H⟩
    · replace H := H.2 hc
      refine rc_iload_n mq203 (mvDec_of cd203 rfl) rfl ?_
      refine rc_aload_n mq203 (mvDec_of cd203 rfl) rfl ?_
      refine rc_getR (evO sw) mq203 (mvDec_of cd203 rfl) fl_0_19 mis3 rfl (gr_3_1 hG) (evO_ne sw) ?_
      refine rc_getI 1 mq203 (mvDec_of cd203 rfl) fl_0_181 (miE0 (evO_id sw)) rfl (by decide) (by decide) ?_
      refine rc_icmp_le (t := 39) mq203 (mvDec_of cd203 rfl) rfl (fun hc => ?_) (fun hc => ?_)
      · replace H := H.1 hc
        refine rc_iload_n mq203 (mvDec_of cd203 rfl) rfl ?_
        refine rc_if_lt (t := 55) mq203 (mvDec_of cd203 rfl) rfl (fun hc => ?_) (fun hc => ?_)
        · replace H := H.1 hc
          refine rc_bipush mq203 (mvDec_of cd203 rfl) (by decide) ?_
          exact rc_iret mq203 (mvDec_of cd203 rfl) ⟨_, _, rfl, rfl, H⟩
        · replace H := H.2 hc
          refine rc_iload_n mq203 (mvDec_of cd203 rfl) rfl ?_
          refine rc_aload_n mq203 (mvDec_of cd203 rfl) rfl ?_
          refine rc_getR 24 mq203 (mvDec_of cd203 rfl) fl_0_29 mis3 rfl (gr_3_3 hG) (by decide) ?_
          refine rc_iload_n mq203 (mvDec_of cd203 rfl) rfl ?_
          refine rc_callV [mvR 24, mvI x1] [mvI x2] [some (mvR 24), some (mvI x1)] mq203 (mvDec_of cd203 rfl) lk_0_184 mq26 (by decide) rfl rfl (Nat.le_of_ble_eq_true rfl) (Nat.le_of_ble_eq_true rfl) (by decide) rfl mis24 rfl ?_
          refine rc_aload_n mq26 (mvDec_of cd26 rfl) rfl ?_
          refine rc_getR 25 mq26 (mvDec_of cd26 rfl) fl_3_9 mis24 rfl (gr_24_4 hG) (by decide) ?_
          refine rc_iload_n mq26 (mvDec_of cd26 rfl) rfl ?_
          refine rc_iconst mq26 (mvDec_of cd26 rfl) (by decide) ?_
          refine rc_iadd mq26 (mvDec_of cd26 rfl) ?_
          obtain ⟨⟨hb0, hb1⟩, H⟩ := H
          refine rc_iald mq26 (mvDec_of cd26 rfl) mis25 hb0 hb1 ?_
          refine rc_aload_n mq26 (mvDec_of cd26 rfl) rfl ?_
          refine rc_getR 25 mq26 (mvDec_of cd26 rfl) fl_3_9 mis24 rfl (gr_24_4 hG) (by decide) ?_
          refine rc_iload_n mq26 (mvDec_of cd26 rfl) rfl ?_
          obtain ⟨⟨hb0, hb1⟩, H⟩ := H
          refine rc_iald mq26 (mvDec_of cd26 rfl) mis25 hb0 hb1 ?_
          refine rc_isub mq26 (mvDec_of cd26 rfl) ?_
          refine rc_iret mq26 (mvDec_of cd26 rfl) ?_
          show Rch 203 52 [some (mvR 3), some (mvI x1), some (mvI x2)] [mvI (mw ((h1 25 (mw (x1 + 1))) - (h1 25 x1))), mvI x2] (97, g, h1) _
          refine rc_icmp_lt (t := 58) mq203 (mvDec_of cd203 rfl) rfl (fun hc => ?_) (fun hc => ?_)
          · replace H := H.1 hc
            refine rc_aload_n mq203 (mvDec_of cd203 rfl) rfl ?_
            refine rc_getR 24 mq203 (mvDec_of cd203 rfl) fl_0_29 mis3 rfl (gr_3_3 hG) (by decide) ?_
            refine rc_aload_n mq203 (mvDec_of cd203 rfl) rfl ?_
            refine rc_getR 24 mq203 (mvDec_of cd203 rfl) fl_0_29 mis3 rfl (gr_3_3 hG) (by decide) ?_
            refine rc_getR 25 mq203 (mvDec_of cd203 rfl) fl_0_187 mis24 rfl (gr_24_4 hG) (by decide) ?_
            refine rc_iload_n mq203 (mvDec_of cd203 rfl) rfl ?_
            obtain ⟨⟨hb0, hb1⟩, H⟩ := H
            refine rc_iald mq203 (mvDec_of cd203 rfl) mis25 hb0 hb1 ?_
            refine rc_iload_n mq203 (mvDec_of cd203 rfl) rfl ?_
            refine rc_iadd mq203 (mvDec_of cd203 rfl) ?_
            refine rc_callV [mvR 24, mvI (mw ((h1 25 x1) + x2))] [] [some (mvR 24), some (mvI (mw ((h1 25 x1) + x2)))] mq203 (mvDec_of cd203 rfl) lk_0_190 mq27 (by decide) rfl rfl (Nat.le_of_ble_eq_true rfl) (Nat.le_of_ble_eq_true rfl) (by decide) rfl mis24 rfl ?_
            refine rc_aload_n mq27 (mvDec_of cd27 rfl) rfl ?_
            refine rc_getR 27 mq27 (mvDec_of cd27 rfl) fl_3_18 mis24 rfl (gr_24_6 hG) (by decide) ?_
            refine rc_aload_n mq27 (mvDec_of cd27 rfl) rfl ?_
            refine rc_getR 28 mq27 (mvDec_of cd27 rfl) fl_3_21 mis24 rfl (gr_24_7 hG) (by decide) ?_
            refine rc_iload_n mq27 (mvDec_of cd27 rfl) rfl ?_
            obtain ⟨⟨hb0, hb1⟩, H⟩ := H
            refine rc_iald mq27 (mvDec_of cd27 rfl) mis28 hb0 hb1 ?_
            obtain ⟨⟨hb0, hb1⟩, H⟩ := H
            refine rc_iald mq27 (mvDec_of cd27 rfl) mis27 hb0 hb1 ?_
            refine rc_iret mq27 (mvDec_of cd27 rfl) ?_
            show Rch 203 76 [some (mvR 3), some (mvI x1), some (mvI x2)] [mvI (h1 27 (h1 28 (mw ((h1 25 x1) + x2))))] (97, g, h1) _
            exact rc_iret mq203 (mvDec_of cd203 rfl) ⟨_, _, rfl, rfl, H⟩
          · replace H := H.2 hc
            refine rc_bipush mq203 (mvDec_of cd203 rfl) (by decide) ?_
            exact rc_iret mq203 (mvDec_of cd203 rfl) ⟨_, _, rfl, rfl, H⟩
      · replace H := H.2 hc
        refine rc_bipush mq203 (mvDec_of cd203 rfl) (by decide) ?_
        exact rc_iret mq203 (mvDec_of cd203 rfl) ⟨_, _, rfl, rfl, H⟩
abbrev RC_strong (g : Nat → Nat → Nat) (h : Nat → Int → Int)  (K : Int → (Nat → Int → Int) → Prop) : Prop := RI 204 0 [some (mvR 3)] [] g h K
theorem RC_strong_wp {sw : Bool} {g : Nat → Nat → Nat} {h : Nat → Int → Int}  {K : Int → (Nat → Int → Int) → Prop} (hG : Gok sw g)  (H :
  (((h (evO sw) 0) ≤ 0 →
    K (-103) h) ∧
  (0 < (h (evO sw) 0) →
    ((¬ (h 31 0) = 0 →
      K (-103) h) ∧
    ((h 31 0) = 0 →
      IV_find g h (evO sw) (fun h1 =>
        IV_areStrong g h1 (evO sw) (fun r3 h2 =>
          ((r3 = 0 →
            K 0 h2) ∧
          (¬ r3 = 0 →
            K 1 h2))))))))) : RC_strong g h  K := by
  refine rc_aload_n mq204 (mvDec_of cd204 rfl) rfl ?_
  refine rc_callV [mvR 3] [] [some (mvR 3)] mq204 (mvDec_of cd204 rfl) lk_0_215 mq72 (by decide) rfl rfl (Nat.le_of_ble_eq_true rfl) (Nat.le_of_ble_eq_true rfl) (by decide) rfl mis3 rfl ?_
  refine rc_aload_n mq72 (mvDec_of cd72 rfl) rfl ?_
  refine rc_callV [mvR 3] [] [some (mvR 3)] mq72 (mvDec_of cd72 rfl) lk_0_145 mq3 (by decide) rfl rfl (Nat.le_of_ble_eq_true rfl) (Nat.le_of_ble_eq_true rfl) (by decide) rfl mis3 rfl ?_
  refine rc_aload_n mq3 (mvDec_of cd3 rfl) rfl ?_
  refine rc_getR (evO sw) mq3 (mvDec_of cd3 rfl) fl_0_19 mis3 rfl (gr_3_1 hG) (evO_ne sw) ?_
  refine rc_getI 0 mq3 (mvDec_of cd3 rfl) fl_0_104 (miE0 (evO_id sw)) rfl (by decide) (by decide) ?_
  refine rc_if_le (t := 14) mq3 (mvDec_of cd3 rfl) rfl (fun hc => ?_) (fun hc => ?_)
  · replace H := H.1 hc
    refine rc_iconst mq3 (mvDec_of cd3 rfl) (by decide) ?_
    refine rc_zret mq3 (mvDec_of cd3 rfl) (Or.inl rfl) ?_
    show Rch 72 4 [some (mvR 3)] [mvI 0] (97, g, h) _
    refine rc_ifT (t := 21) mq72 (mvDec_of cd72 rfl) rfl rfl ?_
    refine rc_iconst mq72 (mvDec_of cd72 rfl) (by decide) ?_
    refine rc_zret mq72 (mvDec_of cd72 rfl) (Or.inl rfl) ?_
    show Rch 204 4 [some (mvR 3)] [mvI 0] (97, g, h) _
    refine rc_ifF (t := 10) mq204 (mvDec_of cd204 rfl) rfl rfl ?_
    refine rc_bipush mq204 (mvDec_of cd204 rfl) (by decide) ?_
    exact rc_iret mq204 (mvDec_of cd204 rfl) ⟨_, _, rfl, rfl, H⟩
  · replace H := H.2 hc
    refine rc_iconst mq3 (mvDec_of cd3 rfl) (by decide) ?_
    refine rc_goto (t := 15) mq3 (mvDec_of cd3 rfl) rfl ?_
    refine rc_zret mq3 (mvDec_of cd3 rfl) (Or.inr rfl) ?_
    show Rch 72 4 [some (mvR 3)] [mvI 1] (97, g, h) _
    refine rc_ifF (t := 21) mq72 (mvDec_of cd72 rfl) rfl rfl ?_
    refine rc_aload_n mq72 (mvDec_of cd72 rfl) rfl ?_
    refine rc_getR 31 mq72 (mvDec_of cd72 rfl) fl_0_36 mis3 rfl (gr_3_4 hG) (by decide) ?_
    refine rc_getI 0 mq72 (mvDec_of cd72 rfl) fl_0_193 mis31 rfl (by decide) (by decide) ?_
    refine rc_if_ne (t := 21) mq72 (mvDec_of cd72 rfl) rfl (fun hc => ?_) (fun hc => ?_)
    · replace H := H.1 hc
      refine rc_iconst mq72 (mvDec_of cd72 rfl) (by decide) ?_
      refine rc_zret mq72 (mvDec_of cd72 rfl) (Or.inl rfl) ?_
      show Rch 204 4 [some (mvR 3)] [mvI 0] (97, g, h) _
      refine rc_ifF (t := 10) mq204 (mvDec_of cd204 rfl) rfl rfl ?_
      refine rc_bipush mq204 (mvDec_of cd204 rfl) (by decide) ?_
      exact rc_iret mq204 (mvDec_of cd204 rfl) ⟨_, _, rfl, rfl, H⟩
    · replace H := H.2 hc
      refine rc_iconst mq72 (mvDec_of cd72 rfl) (by decide) ?_
      refine rc_goto (t := 22) mq72 (mvDec_of cd72 rfl) rfl ?_
      refine rc_zret mq72 (mvDec_of cd72 rfl) (Or.inr rfl) ?_
      show Rch 204 4 [some (mvR 3)] [mvI 1] (97, g, h) _
      refine rc_ifT (t := 10) mq204 (mvDec_of cd204 rfl) rfl rfl ?_
      refine rc_aload_n mq204 (mvDec_of cd204 rfl) rfl ?_
      refine rc_getR 36 mq204 (mvDec_of cd204 rfl) fl_0_50 mis3 rfl (gr_3_6 hG) (by decide) ?_
      refine rc_aload_n mq204 (mvDec_of cd204 rfl) rfl ?_
      refine rc_getR (evO sw) mq204 (mvDec_of cd204 rfl) fl_0_19 mis3 rfl (gr_3_1 hG) (evO_ne sw) ?_
      refine rc_aload_n mq204 (mvDec_of cd204 rfl) rfl ?_
      refine rc_getR 31 mq204 (mvDec_of cd204 rfl) fl_0_36 mis3 rfl (gr_3_4 hG) (by decide) ?_
      refine rc_callV [mvR 36, mvR (evO sw), mvR 31] [] [some (mvR 36), some (mvR (evO sw)), some (mvR 31), none, none, none, none] mq204 (mvDec_of cd204 rfl) lk_0_221 mq100 (by decide) rfl rfl (Nat.le_of_ble_eq_true rfl) (Nat.le_of_ble_eq_true rfl) (by decide) rfl mis36 rfl (rv_bind H (fun h1 H => ?_))
      refine rc_aload_n mq204 (mvDec_of cd204 rfl) rfl ?_
      refine rc_getR 36 mq204 (mvDec_of cd204 rfl) fl_0_50 mis3 rfl (gr_3_6 hG) (by decide) ?_
      refine rc_aload_n mq204 (mvDec_of cd204 rfl) rfl ?_
      refine rc_getR (evO sw) mq204 (mvDec_of cd204 rfl) fl_0_19 mis3 rfl (gr_3_1 hG) (evO_ne sw) ?_
      refine rc_callV [mvR 36, mvR (evO sw)] [] [some (mvR 36), some (mvR (evO sw)), none, none] mq204 (mvDec_of cd204 rfl) lk_0_225 mq185 (by decide) rfl rfl (Nat.le_of_ble_eq_true rfl) (Nat.le_of_ble_eq_true rfl) (by decide) rfl mis36 rfl (ri_bind H (fun r3 h2 H => ?_))
      refine rc_if_eq (t := 43) mq204 (mvDec_of cd204 rfl) rfl (fun hc => ?_) (fun hc => ?_)
      · replace H := H.1 hc
        refine rc_iconst mq204 (mvDec_of cd204 rfl) (by decide) ?_
        exact rc_iret mq204 (mvDec_of cd204 rfl) ⟨_, _, rfl, rfl, H⟩
      · replace H := H.2 hc
        refine rc_iconst mq204 (mvDec_of cd204 rfl) (by decide) ?_
        refine rc_goto (t := 44) mq204 (mvDec_of cd204 rfl) rfl ?_
        exact rc_iret mq204 (mvDec_of cd204 rfl) ⟨_, _, rfl, rfl, H⟩
abbrev RC_play (g : Nat → Nat → Nat) (h : Nat → Int → Int) (x1 : Int) (K : Int → (Nat → Int → Int) → Prop) : Prop := RI 205 0 [some (mvR 3), some (mvI x1)] [] g h K
theorem RC_play_wp {sw : Bool} {g : Nat → Nat → Nat} {h : Nat → Int → Int} {x1 : Int} {K : Int → (Nat → Int → Int) → Prop} (hG : Gok sw g)  (H :
  (((h (evO sw) 0) ≤ 0 →
    K (-103) h) ∧
  (0 < (h (evO sw) 0) →
    ((0 ≤ x1 →
      (∀ h1, h1 = mvUpd h 63 0 0 →
      PL_perform g h1 (evO sw) x1 (fun h2 =>
        K (h2 61 0) h2))) ∧
    (x1 < 0 →
      K (-102) h))))) : RC_play g h x1 K := by
  refine rc_aload_n mq205 (mvDec_of cd205 rfl) rfl ?_
  refine rc_callV [mvR 3] [] [some (mvR 3)] mq205 (mvDec_of cd205 rfl) lk_0_145 mq3 (by decide) rfl rfl (Nat.le_of_ble_eq_true rfl) (Nat.le_of_ble_eq_true rfl) (by decide) rfl mis3 rfl ?_
  refine rc_aload_n mq3 (mvDec_of cd3 rfl) rfl ?_
  refine rc_getR (evO sw) mq3 (mvDec_of cd3 rfl) fl_0_19 mis3 rfl (gr_3_1 hG) (evO_ne sw) ?_
  refine rc_getI 0 mq3 (mvDec_of cd3 rfl) fl_0_104 (miE0 (evO_id sw)) rfl (by decide) (by decide) ?_
  refine rc_if_le (t := 14) mq3 (mvDec_of cd3 rfl) rfl (fun hc => ?_) (fun hc => ?_)
  · replace H := H.1 hc
    refine rc_iconst mq3 (mvDec_of cd3 rfl) (by decide) ?_
    refine rc_zret mq3 (mvDec_of cd3 rfl) (Or.inl rfl) ?_
    show Rch 205 4 [some (mvR 3), some (mvI x1)] [mvI 0] (97, g, h) _
    refine rc_ifF (t := 10) mq205 (mvDec_of cd205 rfl) rfl rfl ?_
    refine rc_bipush mq205 (mvDec_of cd205 rfl) (by decide) ?_
    exact rc_iret mq205 (mvDec_of cd205 rfl) ⟨_, _, rfl, rfl, H⟩
  · replace H := H.2 hc
    refine rc_iconst mq3 (mvDec_of cd3 rfl) (by decide) ?_
    refine rc_goto (t := 15) mq3 (mvDec_of cd3 rfl) rfl ?_
    refine rc_zret mq3 (mvDec_of cd3 rfl) (Or.inr rfl) ?_
    show Rch 205 4 [some (mvR 3), some (mvI x1)] [mvI 1] (97, g, h) _
    refine rc_ifT (t := 10) mq205 (mvDec_of cd205 rfl) rfl rfl ?_
    refine rc_iload_n mq205 (mvDec_of cd205 rfl) rfl ?_
    refine rc_if_ge (t := 17) mq205 (mvDec_of cd205 rfl) rfl (fun hc => ?_) (fun hc => ?_)
    · replace H := H.1 hc
      refine rc_aload_n mq205 (mvDec_of cd205 rfl) rfl ?_
      refine rc_getR 63 mq205 (mvDec_of cd205 rfl) fl_0_71 mis3 rfl (gr_3_9 hG) (by decide) ?_
      refine rc_iconst mq205 (mvDec_of cd205 rfl) (by decide) ?_
      refine rc_putI 0 mq205 (mvDec_of cd205 rfl) fl_0_240 mis63 rfl (fun z => absurd z (by decide)) (Or.inr ⟨rfl, Or.inl rfl⟩) ?_
      refine rc_heap (fun h1 hh => ?_)
      replace H := H h1 hh
      refine rc_aload_n mq205 (mvDec_of cd205 rfl) rfl ?_
      refine rc_getR 61 mq205 (mvDec_of cd205 rfl) fl_0_64 mis3 rfl (gr_3_8 hG) (by decide) ?_
      refine rc_aload_n mq205 (mvDec_of cd205 rfl) rfl ?_
      refine rc_getR (evO sw) mq205 (mvDec_of cd205 rfl) fl_0_19 mis3 rfl (gr_3_1 hG) (evO_ne sw) ?_
      refine rc_iload_n mq205 (mvDec_of cd205 rfl) rfl ?_
      refine rc_callV [mvR 61, mvR (evO sw), mvI x1] [] [some (mvR 61), some (mvR (evO sw)), some (mvI x1), none, none, none, none, none] mq205 (mvDec_of cd205 rfl) lk_0_244 mq186 (by decide) rfl rfl (Nat.le_of_ble_eq_true rfl) (Nat.le_of_ble_eq_true rfl) (by decide) rfl mis61 rfl (rv_bind H (fun h2 H => ?_))
      refine rc_aload_n mq205 (mvDec_of cd205 rfl) rfl ?_
      refine rc_getR 61 mq205 (mvDec_of cd205 rfl) fl_0_64 mis3 rfl (gr_3_8 hG) (by decide) ?_
      refine rc_getI 0 mq205 (mvDec_of cd205 rfl) fl_0_248 mis61 rfl (by decide) (by decide) ?_
      exact rc_iret mq205 (mvDec_of cd205 rfl) ⟨_, _, rfl, rfl, H⟩
    · replace H := H.2 hc
      refine rc_bipush mq205 (mvDec_of cd205 rfl) (by decide) ?_
      exact rc_iret mq205 (mvDec_of cd205 rfl) ⟨_, _, rfl, rfl, H⟩
abbrev RC_mixCuts (g : Nat → Nat → Nat) (h : Nat → Int → Int) (x1 : Int) (K : Int → (Nat → Int → Int) → Prop) : Prop := RJ 206 0 [some (mvR 3), some (mvJ x1), none, none, none, none] [] g h K
abbrev RC_mixCuts_2 (g : Nat → Nat → Nat) (h : Nat → Int → Int) (l1 : Int) (l3 : Int) (u4 : Option Int) (u5 : Option Int) (K : Int → (Nat → Int → Int) → Prop) : Prop := RJ 206 2 [some (mvR 3), some (mvJ l1), none, some (mvI l3), u4.map mvI, u5.map mvI] [] g h K
abbrev RC_mixCuts_28 (g : Nat → Nat → Nat) (h : Nat → Int → Int) (l1 : Int) (l3 : Int) (u4 : Option Int) (u5 : Option Int) (K : Int → (Nat → Int → Int) → Prop) : Prop := RJ 206 28 [some (mvR 3), some (mvJ l1), none, some (mvI l3), u4.map mvI, u5.map mvI] [] g h K
abbrev RC_mixCuts_59 (g : Nat → Nat → Nat) (h : Nat → Int → Int) (l1 : Int) (l3 : Int) (l4 : Int) (l5 : Int) (K : Int → (Nat → Int → Int) → Prop) : Prop := RJ 206 59 [some (mvR 3), some (mvJ l1), none, some (mvI l3), some (mvI l4), some (mvI l5)] [] g h K
theorem RC_mixCuts_wp {sw : Bool} {g : Nat → Nat → Nat} {h : Nat → Int → Int} {x1 : Int} {K : Int → (Nat → Int → Int) → Prop} (hG : Gok sw g)  (H :
  RC_mixCuts_2 g h x1 0 none none K) : RC_mixCuts g h x1 K := by
  refine rc_iconst mq206 (mvDec_of cd206 rfl) (by decide) ?_
  refine rc_istore_n [some (mvR 3), some (mvJ x1), none, some (mvI 0), none, none] mq206 (mvDec_of cd206 rfl) rfl ?_
  exact H
theorem RC_mixCuts_2_wp {sw : Bool} {g : Nat → Nat → Nat} {h : Nat → Int → Int} {l1 : Int} {l3 : Int} {u4 : Option Int} {u5 : Option Int} {K : Int → (Nat → Int → Int) → Prop} (hG : Gok sw g)  (H :
  ((4 < l3 →
    RC_mixCuts_28 g h l1 0 u4 u5 K) ∧
  (l3 ≤ 4 →
    LT_property g h 24 l3 (fun r2 h1 =>
      (∀ v3, v3 = (mwl ((mwl (31 * l1)) + r2)) →
      RC_mixCuts_2 g h1 v3 (mw (l3 + 1)) u4 u5 K))))) : RC_mixCuts_2 g h l1 l3 u4 u5 K := by
  refine rc_iload_n mq206 (mvDec_of cd206 rfl) rfl ?_
  refine rc_iconst mq206 (mvDec_of cd206 rfl) (by decide) ?_
  refine rc_icmp_gt (t := 26) mq206 (mvDec_of cd206 rfl) rfl (fun hc => ?_) (fun hc => ?_)
  · replace H := H.1 hc
    refine rc_iconst mq206 (mvDec_of cd206 rfl) (by decide) ?_
    refine rc_istore_n [some (mvR 3), some (mvJ l1), none, some (mvI 0), u4.map mvI, u5.map mvI] mq206 (mvDec_of cd206 rfl) rfl ?_
    exact H
  · replace H := H.2 hc
    refine rc_lload_n mq206 (mvDec_of cd206 rfl) rfl ?_
    refine rc_aload_n mq206 (mvDec_of cd206 rfl) rfl ?_
    refine rc_getR 24 mq206 (mvDec_of cd206 rfl) fl_0_29 mis3 rfl (gr_3_3 hG) (by decide) ?_
    refine rc_iload_n mq206 (mvDec_of cd206 rfl) rfl ?_
    refine rc_callV [mvR 24, mvI l3] [mvJ l1] [some (mvR 24), some (mvI l3)] mq206 (mvDec_of cd206 rfl) lk_0_179 mq153 (by decide) rfl rfl (Nat.le_of_ble_eq_true rfl) (Nat.le_of_ble_eq_true rfl) (by decide) rfl mis24 rfl (ri_bind H (fun r2 h1 H => ?_))
    refine rc_callS [mvJ l1, mvI r2] [] [some (mvJ l1), none, some (mvI r2)] mq206 (mvDec_of cd206 rfl) lk_0_282 mq2 (by decide) rfl rfl (Nat.le_of_ble_eq_true rfl) (Nat.le_of_ble_eq_true rfl) (by decide) rfl ?_
    refine rc_ldc2 mq2 (mvDec_of cd2 rfl) rfl ?_
    refine rc_lload_n mq2 (mvDec_of cd2 rfl) rfl ?_
    refine rc_lmul mq2 (mvDec_of cd2 rfl) ?_
    refine rc_iload_n mq2 (mvDec_of cd2 rfl) rfl ?_
    refine rc_i2l mq2 (mvDec_of cd2 rfl) ?_
    refine rc_ladd mq2 (mvDec_of cd2 rfl) ?_
    refine rc_lret mq2 (mvDec_of cd2 rfl) ?_
    show Rch 206 19 [some (mvR 3), some (mvJ l1), none, some (mvI l3), u4.map mvI, u5.map mvI] [mvJ (mwl ((mwl (31 * l1)) + r2))] (97, g, h1) _
    refine rc_topJ (fun v3 hv => ?_)
    replace H := H v3 hv
    refine rc_lstore_n [some (mvR 3), some (mvJ v3), none, some (mvI l3), u4.map mvI, u5.map mvI] mq206 (mvDec_of cd206 rfl) rfl ?_
    refine rc_iinc [some (mvR 3), some (mvJ v3), none, some (mvI (mw (l3 + 1))), u4.map mvI, u5.map mvI] mq206 (mvDec_of cd206 rfl) rfl rfl ?_
    refine rc_goto (t := 2) mq206 (mvDec_of cd206 rfl) rfl ?_
    exact H
theorem RC_mixCuts_28_wp {sw : Bool} {g : Nat → Nat → Nat} {h : Nat → Int → Int} {l1 : Int} {l3 : Int} {u4 : Option Int} {u5 : Option Int} {K : Int → (Nat → Int → Int) → Prop} (hG : Gok sw g)  (H :
  (((h 24 1) ≤ l3 →
    K l1 h) ∧
  (l3 < (h 24 1) →
    (0 ≤ l3 ∧ l3 < 625) ∧
    (0 ≤ (h 28 l3) ∧ (h 28 l3) < 625) ∧
    (∀ v1, v1 = (h 27 (h 28 l3)) →
    (∀ v2, v2 = (mwl ((mwl (31 * l1)) + v1)) →
    RC_mixCuts_59 g h v2 l3 v1 2 K))))) : RC_mixCuts_28 g h l1 l3 u4 u5 K := by
  refine rc_iload_n mq206 (mvDec_of cd206 rfl) rfl ?_
  refine rc_aload_n mq206 (mvDec_of cd206 rfl) rfl ?_
  refine rc_getR 24 mq206 (mvDec_of cd206 rfl) fl_0_29 mis3 rfl (gr_3_3 hG) (by decide) ?_
  refine rc_getI 1 mq206 (mvDec_of cd206 rfl) fl_0_294 mis24 rfl (by decide) (by decide) ?_
  refine rc_icmp_ge (t := 90) mq206 (mvDec_of cd206 rfl) rfl (fun hc => ?_) (fun hc => ?_)
  · replace H := H.1 hc
    refine rc_lload_n mq206 (mvDec_of cd206 rfl) rfl ?_
    exact rc_lret mq206 (mvDec_of cd206 rfl) ⟨_, _, rfl, rfl, H⟩
  · replace H := H.2 hc
    refine rc_aload_n mq206 (mvDec_of cd206 rfl) rfl ?_
    refine rc_getR 24 mq206 (mvDec_of cd206 rfl) fl_0_29 mis3 rfl (gr_3_3 hG) (by decide) ?_
    refine rc_iload_n mq206 (mvDec_of cd206 rfl) rfl ?_
    refine rc_callV [mvR 24, mvI l3] [] [some (mvR 24), some (mvI l3)] mq206 (mvDec_of cd206 rfl) lk_0_190 mq27 (by decide) rfl rfl (Nat.le_of_ble_eq_true rfl) (Nat.le_of_ble_eq_true rfl) (by decide) rfl mis24 rfl ?_
    refine rc_aload_n mq27 (mvDec_of cd27 rfl) rfl ?_
    refine rc_getR 27 mq27 (mvDec_of cd27 rfl) fl_3_18 mis24 rfl (gr_24_6 hG) (by decide) ?_
    refine rc_aload_n mq27 (mvDec_of cd27 rfl) rfl ?_
    refine rc_getR 28 mq27 (mvDec_of cd27 rfl) fl_3_21 mis24 rfl (gr_24_7 hG) (by decide) ?_
    refine rc_iload_n mq27 (mvDec_of cd27 rfl) rfl ?_
    obtain ⟨⟨hb0, hb1⟩, H⟩ := H
    refine rc_iald mq27 (mvDec_of cd27 rfl) mis28 hb0 hb1 ?_
    obtain ⟨⟨hb0, hb1⟩, H⟩ := H
    refine rc_iald mq27 (mvDec_of cd27 rfl) mis27 hb0 hb1 ?_
    refine rc_iret mq27 (mvDec_of cd27 rfl) ?_
    show Rch 206 47 [some (mvR 3), some (mvJ l1), none, some (mvI l3), u4.map mvI, u5.map mvI] [mvI (h 27 (h 28 l3))] (97, g, h) _
    refine rc_top (fun v1 hv => ?_)
    replace H := H v1 hv
    refine rc_istore [some (mvR 3), some (mvJ l1), none, some (mvI l3), some (mvI v1), u5.map mvI] mq206 (mvDec_of cd206 rfl) rfl ?_
    refine rc_lload_n mq206 (mvDec_of cd206 rfl) rfl ?_
    refine rc_iload mq206 (mvDec_of cd206 rfl) rfl ?_
    refine rc_callS [mvJ l1, mvI v1] [] [some (mvJ l1), none, some (mvI v1)] mq206 (mvDec_of cd206 rfl) lk_0_282 mq2 (by decide) rfl rfl (Nat.le_of_ble_eq_true rfl) (Nat.le_of_ble_eq_true rfl) (by decide) rfl ?_
    refine rc_ldc2 mq2 (mvDec_of cd2 rfl) rfl ?_
    refine rc_lload_n mq2 (mvDec_of cd2 rfl) rfl ?_
    refine rc_lmul mq2 (mvDec_of cd2 rfl) ?_
    refine rc_iload_n mq2 (mvDec_of cd2 rfl) rfl ?_
    refine rc_i2l mq2 (mvDec_of cd2 rfl) ?_
    refine rc_ladd mq2 (mvDec_of cd2 rfl) ?_
    refine rc_lret mq2 (mvDec_of cd2 rfl) ?_
    show Rch 206 55 [some (mvR 3), some (mvJ l1), none, some (mvI l3), some (mvI v1), u5.map mvI] [mvJ (mwl ((mwl (31 * l1)) + v1))] (97, g, h) _
    refine rc_topJ (fun v2 hv => ?_)
    replace H := H v2 hv
    refine rc_lstore_n [some (mvR 3), some (mvJ v2), none, some (mvI l3), some (mvI v1), u5.map mvI] mq206 (mvDec_of cd206 rfl) rfl ?_
    refine rc_iconst mq206 (mvDec_of cd206 rfl) (by decide) ?_
    refine rc_istore [some (mvR 3), some (mvJ v2), none, some (mvI l3), some (mvI v1), some (mvI 2)] mq206 (mvDec_of cd206 rfl) rfl ?_
    exact H
theorem RC_mixCuts_59_wp {sw : Bool} {g : Nat → Nat → Nat} {h : Nat → Int → Int} {l1 : Int} {l3 : Int} {l4 : Int} {l5 : Int} {K : Int → (Nat → Int → Int) → Prop} (hG : Gok sw g)  (H :
  ((5 < l5 →
    RC_mixCuts_28 g h l1 (mw (l3 + 1)) (some l4) (some l5) K) ∧
  (l5 ≤ 5 →
    RC_cutProperty g h l4 l5 (fun r2 h1 =>
      (∀ v3, v3 = (mwl ((mwl (31 * l1)) + r2)) →
      RC_mixCuts_59 g h1 v3 l3 l4 (mw (l5 + 1)) K))))) : RC_mixCuts_59 g h l1 l3 l4 l5 K := by
  refine rc_iload mq206 (mvDec_of cd206 rfl) rfl ?_
  refine rc_iconst mq206 (mvDec_of cd206 rfl) (by decide) ?_
  refine rc_icmp_gt (t := 84) mq206 (mvDec_of cd206 rfl) rfl (fun hc => ?_) (fun hc => ?_)
  · replace H := H.1 hc
    refine rc_iinc [some (mvR 3), some (mvJ l1), none, some (mvI (mw (l3 + 1))), some (mvI l4), some (mvI l5)] mq206 (mvDec_of cd206 rfl) rfl rfl ?_
    refine rc_goto (t := 28) mq206 (mvDec_of cd206 rfl) rfl ?_
    exact H
  · replace H := H.2 hc
    refine rc_lload_n mq206 (mvDec_of cd206 rfl) rfl ?_
    refine rc_aload_n mq206 (mvDec_of cd206 rfl) rfl ?_
    refine rc_iload mq206 (mvDec_of cd206 rfl) rfl ?_
    refine rc_iload mq206 (mvDec_of cd206 rfl) rfl ?_
    refine rc_callV [mvR 3, mvI l4, mvI l5] [mvJ l1] [some (mvR 3), some (mvI l4), some (mvI l5)] mq206 (mvDec_of cd206 rfl) lk_0_162 mq180 (by decide) rfl rfl (Nat.le_of_ble_eq_true rfl) (Nat.le_of_ble_eq_true rfl) (by decide) rfl mis3 rfl (ri_bind H (fun r2 h1 H => ?_))
    refine rc_callS [mvJ l1, mvI r2] [] [some (mvJ l1), none, some (mvI r2)] mq206 (mvDec_of cd206 rfl) lk_0_282 mq2 (by decide) rfl rfl (Nat.le_of_ble_eq_true rfl) (Nat.le_of_ble_eq_true rfl) (by decide) rfl ?_
    refine rc_ldc2 mq2 (mvDec_of cd2 rfl) rfl ?_
    refine rc_lload_n mq2 (mvDec_of cd2 rfl) rfl ?_
    refine rc_lmul mq2 (mvDec_of cd2 rfl) ?_
    refine rc_iload_n mq2 (mvDec_of cd2 rfl) rfl ?_
    refine rc_i2l mq2 (mvDec_of cd2 rfl) ?_
    refine rc_ladd mq2 (mvDec_of cd2 rfl) ?_
    refine rc_lret mq2 (mvDec_of cd2 rfl) ?_
    show Rch 206 77 [some (mvR 3), some (mvJ l1), none, some (mvI l3), some (mvI l4), some (mvI l5)] [mvJ (mwl ((mwl (31 * l1)) + r2))] (97, g, h1) _
    refine rc_topJ (fun v3 hv => ?_)
    replace H := H v3 hv
    refine rc_lstore_n [some (mvR 3), some (mvJ v3), none, some (mvI l3), some (mvI l4), some (mvI l5)] mq206 (mvDec_of cd206 rfl) rfl ?_
    refine rc_iinc [some (mvR 3), some (mvJ v3), none, some (mvI l3), some (mvI l4), some (mvI (mw (l5 + 1)))] mq206 (mvDec_of cd206 rfl) rfl rfl ?_
    refine rc_goto (t := 59) mq206 (mvDec_of cd206 rfl) rfl ?_
    exact H
abbrev RC_back (g : Nat → Nat → Nat) (h : Nat → Int → Int) (x1 : Int) (K : Int → (Nat → Int → Int) → Prop) : Prop := RI 217 0 [some (mvR 3), some (mvI x1)] [] g h K
theorem RC_back_wp {sw : Bool} {g : Nat → Nat → Nat} {h : Nat → Int → Int} {x1 : Int} {K : Int → (Nat → Int → Int) → Prop} (hG : Gok sw g)  (H :
  ((x1 < 0 →
    K (-101) h) ∧
  (0 ≤ x1 →
    (((h (evO sw) 0) ≤ x1 →
      K (-101) h) ∧
    (x1 < (h (evO sw) 0) →
      EV_canDropLast g h (evO sw) x1 (fun r2 h1 =>
        ((¬ r2 = 0 →
          (0 ≤ x1 ∧ x1 < 4) ∧
          (0 ≤ x1 ∧ x1 < 4) ∧
          (∀ h3, h3 = mvUpd h1 (evO sw + 1) x1 (mw ((h1 (evO sw + 1) x1) - 1)) →
          (∀ h4, h4 = mvUpd h3 (evO sw) 1 (mw ((h3 (evO sw) 1) - 1)) →
          EV_link g h4 (evO sw) (fun r6 h5 =>
            (∀ h7, h7 = mvUpd h5 61 0 (-1) →
            (∀ h8, h8 = mvUpd h7 63 0 0 →
            (∀ h9, h9 = mvUpd h8 24 0 0 →
            (∀ h10, h10 = mvUpd h9 33 0 0 →
            (∀ h11, h11 = mvUpd h10 51 0 0 →
            (∀ h12, h12 = mvUpd h11 58 0 0 →
            (0 ≤ x1 ∧ x1 < 4) ∧
            K (h12 (evO sw + 1) x1) h12)))))))))) ∧
        (r2 = 0 →
          K (-103) h1)))))))) : RC_back g h x1 K := by
  refine rc_aload_n mq217 (mvDec_of cd217 rfl) rfl ?_
  refine rc_getR (evO sw) mq217 (mvDec_of cd217 rfl) fl_0_19 mis3 rfl (gr_3_1 hG) (evO_ne sw) ?_
  refine rc_iload_n mq217 (mvDec_of cd217 rfl) rfl ?_
  refine rc_callV [mvR (evO sw), mvI x1] [] [some (mvR (evO sw)), some (mvI x1)] mq217 (mvDec_of cd217 rfl) lk_0_107 mq8 (by decide) rfl rfl (Nat.le_of_ble_eq_true rfl) (Nat.le_of_ble_eq_true rfl) (by decide) rfl (miE0 (evO_id sw)) rfl ?_
  refine rc_iload_n mq8 (mvDec_of cd8 rfl) rfl ?_
  refine rc_if_lt (t := 16) mq8 (mvDec_of cd8 rfl) rfl (fun hc => ?_) (fun hc => ?_)
  · replace H := H.1 hc
    refine rc_iconst mq8 (mvDec_of cd8 rfl) (by decide) ?_
    refine rc_zret mq8 (mvDec_of cd8 rfl) (Or.inl rfl) ?_
    show Rch 217 8 [some (mvR 3), some (mvI x1)] [mvI 0] (97, g, h) _
    refine rc_ifF (t := 14) mq217 (mvDec_of cd217 rfl) rfl rfl ?_
    refine rc_bipush mq217 (mvDec_of cd217 rfl) (by decide) ?_
    exact rc_iret mq217 (mvDec_of cd217 rfl) ⟨_, _, rfl, rfl, H⟩
  · replace H := H.2 hc
    refine rc_iload_n mq8 (mvDec_of cd8 rfl) rfl ?_
    refine rc_aload_n mq8 (mvDec_of cd8 rfl) rfl ?_
    refine rc_getI 0 mq8 (mvDec_of cd8 rfl) fl_2_36 (miE0 (evO_id sw)) rfl (by decide) (by decide) ?_
    refine rc_icmp_ge (t := 16) mq8 (mvDec_of cd8 rfl) rfl (fun hc => ?_) (fun hc => ?_)
    · replace H := H.1 hc
      refine rc_iconst mq8 (mvDec_of cd8 rfl) (by decide) ?_
      refine rc_zret mq8 (mvDec_of cd8 rfl) (Or.inl rfl) ?_
      show Rch 217 8 [some (mvR 3), some (mvI x1)] [mvI 0] (97, g, h) _
      refine rc_ifF (t := 14) mq217 (mvDec_of cd217 rfl) rfl rfl ?_
      refine rc_bipush mq217 (mvDec_of cd217 rfl) (by decide) ?_
      exact rc_iret mq217 (mvDec_of cd217 rfl) ⟨_, _, rfl, rfl, H⟩
    · replace H := H.2 hc
      refine rc_iconst mq8 (mvDec_of cd8 rfl) (by decide) ?_
      refine rc_goto (t := 17) mq8 (mvDec_of cd8 rfl) rfl ?_
      refine rc_zret mq8 (mvDec_of cd8 rfl) (Or.inr rfl) ?_
      show Rch 217 8 [some (mvR 3), some (mvI x1)] [mvI 1] (97, g, h) _
      refine rc_ifT (t := 14) mq217 (mvDec_of cd217 rfl) rfl rfl ?_
      refine rc_aload_n mq217 (mvDec_of cd217 rfl) rfl ?_
      refine rc_getR (evO sw) mq217 (mvDec_of cd217 rfl) fl_0_19 mis3 rfl (gr_3_1 hG) (evO_ne sw) ?_
      refine rc_iload_n mq217 (mvDec_of cd217 rfl) rfl ?_
      refine rc_callV [mvR (evO sw), mvI x1] [] [some (mvR (evO sw)), some (mvI x1), none] mq217 (mvDec_of cd217 rfl) lk_0_125 mq11 (by decide) rfl rfl (Nat.le_of_ble_eq_true rfl) (Nat.le_of_ble_eq_true rfl) (by decide) rfl (miE0 (evO_id sw)) rfl (ri_bind H (fun r2 h1 H => ?_))
      refine rc_if_ne (t := 28) mq217 (mvDec_of cd217 rfl) rfl (fun hc => ?_) (fun hc => ?_)
      · replace H := H.1 hc
        refine rc_aload_n mq217 (mvDec_of cd217 rfl) rfl ?_
        refine rc_getR (evO sw) mq217 (mvDec_of cd217 rfl) fl_0_19 mis3 rfl (gr_3_1 hG) (evO_ne sw) ?_
        refine rc_iload_n mq217 (mvDec_of cd217 rfl) rfl ?_
        refine rc_callV [mvR (evO sw), mvI x1] [] [some (mvR (evO sw)), some (mvI x1)] mq217 (mvDec_of cd217 rfl) lk_0_128 mq12 (by decide) rfl rfl (Nat.le_of_ble_eq_true rfl) (Nat.le_of_ble_eq_true rfl) (by decide) rfl (miE0 (evO_id sw)) rfl ?_
        refine rc_aload_n mq12 (mvDec_of cd12 rfl) rfl ?_
        refine rc_getR (evO sw + 1) mq12 (mvDec_of cd12 rfl) fl_2_9 (miE0 (evO_id sw)) rfl (mgE2 (evO_id sw) hG) (Nat.succ_ne_zero _) ?_
        refine rc_iload_n mq12 (mvDec_of cd12 rfl) rfl ?_
        refine rc_dup2 mq12 (mvDec_of cd12 rfl) rfl rfl ?_
        obtain ⟨⟨hb0, hb1⟩, H⟩ := H
        refine rc_iald mq12 (mvDec_of cd12 rfl) (miE1 (evO_id sw)) hb0 hb1 ?_
        refine rc_iconst mq12 (mvDec_of cd12 rfl) (by decide) ?_
        refine rc_isub mq12 (mvDec_of cd12 rfl) ?_
        obtain ⟨⟨hb0, hb1⟩, H⟩ := H
        refine rc_iast mq12 (mvDec_of cd12 rfl) (miE1 (evO_id sw)) hb0 hb1 ?_
        refine rc_heap (fun h3 hh => ?_)
        replace H := H h3 hh
        refine rc_aload_n mq12 (mvDec_of cd12 rfl) rfl ?_
        refine rc_dup mq12 (mvDec_of cd12 rfl) rfl ?_
        refine rc_getI 1 mq12 (mvDec_of cd12 rfl) fl_2_40 (miE0 (evO_id sw)) rfl (by decide) (by decide) ?_
        refine rc_iconst mq12 (mvDec_of cd12 rfl) (by decide) ?_
        refine rc_isub mq12 (mvDec_of cd12 rfl) ?_
        refine rc_putI 1 mq12 (mvDec_of cd12 rfl) fl_2_40 (miE0 (evO_id sw)) rfl (fun z => absurd z (by decide)) (Or.inl rfl) ?_
        refine rc_heap (fun h4 hh => ?_)
        replace H := H h4 hh
        refine rc_vret mq12 (mvDec_of cd12 rfl) ?_
        show Rch 217 36 [some (mvR 3), some (mvI x1)] [] (97, g, h4) _
        refine rc_aload_n mq217 (mvDec_of cd217 rfl) rfl ?_
        refine rc_getR (evO sw) mq217 (mvDec_of cd217 rfl) fl_0_19 mis3 rfl (gr_3_1 hG) (evO_ne sw) ?_
        refine rc_callV [mvR (evO sw)] [] [some (mvR (evO sw)), none] mq217 (mvDec_of cd217 rfl) lk_0_91 mq207 (by decide) rfl rfl (Nat.le_of_ble_eq_true rfl) (Nat.le_of_ble_eq_true rfl) (by decide) rfl (miE0 (evO_id sw)) rfl (ri_bind H (fun r6 h5 H => ?_))
        refine rc_pop mq217 (mvDec_of cd217 rfl) rfl ?_
        refine rc_aload_n mq217 (mvDec_of cd217 rfl) rfl ?_
        refine rc_callV [mvR 3] [] [some (mvR 3)] mq217 (mvDec_of cd217 rfl) lk_0_101 mq147 (by decide) rfl rfl (Nat.le_of_ble_eq_true rfl) (Nat.le_of_ble_eq_true rfl) (by decide) rfl mis3 rfl ?_
        refine rc_aload_n mq147 (mvDec_of cd147 rfl) rfl ?_
        refine rc_getR 61 mq147 (mvDec_of cd147 rfl) fl_0_64 mis3 rfl (gr_3_8 hG) (by decide) ?_
        refine rc_iconst mq147 (mvDec_of cd147 rfl) (by decide) ?_
        refine rc_putI 0 mq147 (mvDec_of cd147 rfl) fl_0_248 mis61 rfl (fun z => absurd z (by decide)) (Or.inl rfl) ?_
        refine rc_heap (fun h7 hh => ?_)
        replace H := H h7 hh
        refine rc_aload_n mq147 (mvDec_of cd147 rfl) rfl ?_
        refine rc_getR 63 mq147 (mvDec_of cd147 rfl) fl_0_71 mis3 rfl (gr_3_9 hG) (by decide) ?_
        refine rc_iconst mq147 (mvDec_of cd147 rfl) (by decide) ?_
        refine rc_putI 0 mq147 (mvDec_of cd147 rfl) fl_0_240 mis63 rfl (fun z => absurd z (by decide)) (Or.inr ⟨rfl, Or.inl rfl⟩) ?_
        refine rc_heap (fun h8 hh => ?_)
        replace H := H h8 hh
        refine rc_aload_n mq147 (mvDec_of cd147 rfl) rfl ?_
        refine rc_getR 24 mq147 (mvDec_of cd147 rfl) fl_0_29 mis3 rfl (gr_3_3 hG) (by decide) ?_
        refine rc_iconst mq147 (mvDec_of cd147 rfl) (by decide) ?_
        refine rc_putI 0 mq147 (mvDec_of cd147 rfl) fl_0_298 mis24 rfl (fun z => absurd z (by decide)) (Or.inr ⟨rfl, Or.inl rfl⟩) ?_
        refine rc_heap (fun h9 hh => ?_)
        replace H := H h9 hh
        refine rc_aload_n mq147 (mvDec_of cd147 rfl) rfl ?_
        refine rc_callV [mvR 3] [] [some (mvR 3)] mq147 (mvDec_of cd147 rfl) lk_0_199 mq73 (by decide) rfl rfl (Nat.le_of_ble_eq_true rfl) (Nat.le_of_ble_eq_true rfl) (by decide) rfl mis3 rfl ?_
        refine rc_aload_n mq73 (mvDec_of cd73 rfl) rfl ?_
        refine rc_getR 33 mq73 (mvDec_of cd73 rfl) fl_0_43 mis3 rfl (gr_3_5 hG) (by decide) ?_
        refine rc_iconst mq73 (mvDec_of cd73 rfl) (by decide) ?_
        refine rc_putI 0 mq73 (mvDec_of cd73 rfl) fl_0_301 mis33 rfl (fun z => absurd z (by decide)) (Or.inr ⟨rfl, Or.inl rfl⟩) ?_
        refine rc_heap (fun h10 hh => ?_)
        replace H := H h10 hh
        refine rc_aload_n mq73 (mvDec_of cd73 rfl) rfl ?_
        refine rc_getR 41 mq73 (mvDec_of cd73 rfl) fl_0_57 mis3 rfl (gr_3_7 hG) (by decide) ?_
        refine rc_callV [mvR 41] [] [some (mvR 41)] mq73 (mvDec_of cd73 rfl) lk_0_302 mq35 (by decide) rfl rfl (Nat.le_of_ble_eq_true rfl) (Nat.le_of_ble_eq_true rfl) (by decide) rfl mis41 rfl ?_
        refine rc_aload_n mq35 (mvDec_of cd35 rfl) rfl ?_
        refine rc_getR 51 mq35 (mvDec_of cd35 rfl) fl_7_21 mis41 rfl (gr_41_1 hG) (by decide) ?_
        refine rc_iconst mq35 (mvDec_of cd35 rfl) (by decide) ?_
        refine rc_putI 0 mq35 (mvDec_of cd35 rfl) fl_7_32 mis51 rfl (fun z => absurd z (by decide)) (Or.inr ⟨rfl, Or.inl rfl⟩) ?_
        refine rc_heap (fun h11 hh => ?_)
        replace H := H h11 hh
        refine rc_aload_n mq35 (mvDec_of cd35 rfl) rfl ?_
        refine rc_getR 58 mq35 (mvDec_of cd35 rfl) fl_7_28 mis41 rfl (gr_41_2 hG) (by decide) ?_
        refine rc_iconst mq35 (mvDec_of cd35 rfl) (by decide) ?_
        refine rc_putI 0 mq35 (mvDec_of cd35 rfl) fl_7_36 mis58 rfl (fun z => absurd z (by decide)) (Or.inr ⟨rfl, Or.inl rfl⟩) ?_
        refine rc_heap (fun h12 hh => ?_)
        replace H := H h12 hh
        refine rc_vret mq35 (mvDec_of cd35 rfl) ?_
        show Rch 73 15 [some (mvR 3)] [] (97, g, h12) _
        refine rc_vret mq73 (mvDec_of cd73 rfl) ?_
        show Rch 147 28 [some (mvR 3)] [] (97, g, h12) _
        refine rc_vret mq147 (mvDec_of cd147 rfl) ?_
        show Rch 217 48 [some (mvR 3), some (mvI x1)] [] (97, g, h12) _
        refine rc_aload_n mq217 (mvDec_of cd217 rfl) rfl ?_
        refine rc_getR (evO sw) mq217 (mvDec_of cd217 rfl) fl_0_19 mis3 rfl (gr_3_1 hG) (evO_ne sw) ?_
        refine rc_getR (evO sw + 1) mq217 (mvDec_of cd217 rfl) fl_0_131 (miE0 (evO_id sw)) rfl (mgE2 (evO_id sw) hG) (Nat.succ_ne_zero _) ?_
        refine rc_iload_n mq217 (mvDec_of cd217 rfl) rfl ?_
        obtain ⟨⟨hb0, hb1⟩, H⟩ := H
        refine rc_iald mq217 (mvDec_of cd217 rfl) (miE1 (evO_id sw)) hb0 hb1 ?_
        exact rc_iret mq217 (mvDec_of cd217 rfl) ⟨_, _, rfl, rfl, H⟩
      · replace H := H.2 hc
        refine rc_bipush mq217 (mvDec_of cd217 rfl) (by decide) ?_
        exact rc_iret mq217 (mvDec_of cd217 rfl) ⟨_, _, rfl, rfl, H⟩
abbrev RC_grow (g : Nat → Nat → Nat) (h : Nat → Int → Int) (x1 : Int) (x2 : Int) (x3 : Int) (K : Int → (Nat → Int → Int) → Prop) : Prop := RI 218 0 [some (mvR 3), some (mvI x1), some (mvI x2), some (mvI x3)] [] g h K
theorem RC_grow_wp {sw : Bool} {g : Nat → Nat → Nat} {h : Nat → Int → Int} {x1 : Int} {x2 : Int} {x3 : Int} {K : Int → (Nat → Int → Int) → Prop} (hG : Gok sw g)  (H :
  (0 ≤ x1 ∧ x1 < 4) ∧
  (∀ v1, v1 = (mw ((mw (x1 * 9)) + (h (evO sw + 1) x1))) →
  (0 ≤ v1 ∧ v1 < 36) ∧
  (∀ h2, h2 = mvUpd h (evO sw + 2) v1 x2 →
  (0 ≤ v1 ∧ v1 < 36) ∧
  (∀ h3, h3 = mvUpd h2 (evO sw + 3) v1 x3 →
  (0 ≤ x1 ∧ x1 < 4) ∧
  (0 ≤ x1 ∧ x1 < 4) ∧
  (∀ h4, h4 = mvUpd h3 (evO sw + 1) x1 (mw ((h3 (evO sw + 1) x1) + 1)) →
  (∀ h5, h5 = mvUpd h4 (evO sw) 1 (mw ((h4 (evO sw) 1) + 1)) →
  EV_link g h5 (evO sw) (fun r7 h6 =>
    (∀ h8, h8 = mvUpd h6 61 0 (-1) →
    (∀ h9, h9 = mvUpd h8 63 0 0 →
    (∀ h10, h10 = mvUpd h9 24 0 0 →
    (∀ h11, h11 = mvUpd h10 33 0 0 →
    (∀ h12, h12 = mvUpd h11 51 0 0 →
    (∀ h13, h13 = mvUpd h12 58 0 0 →
    (0 ≤ x1 ∧ x1 < 4) ∧
    K (h13 (evO sw + 1) x1) h13))))))))))))) : RC_grow g h x1 x2 x3 K := by
  refine rc_aload_n mq218 (mvDec_of cd218 rfl) rfl ?_
  refine rc_getR (evO sw) mq218 (mvDec_of cd218 rfl) fl_0_19 mis3 rfl (gr_3_1 hG) (evO_ne sw) ?_
  refine rc_iload_n mq218 (mvDec_of cd218 rfl) rfl ?_
  refine rc_iload_n mq218 (mvDec_of cd218 rfl) rfl ?_
  refine rc_iload_n mq218 (mvDec_of cd218 rfl) rfl ?_
  refine rc_callV [mvR (evO sw), mvI x1, mvI x2, mvI x3] [] [some (mvR (evO sw)), some (mvI x1), some (mvI x2), some (mvI x3), none] mq218 (mvDec_of cd218 rfl) lk_0_295 mq10 (by decide) rfl rfl (Nat.le_of_ble_eq_true rfl) (Nat.le_of_ble_eq_true rfl) (by decide) rfl (miE0 (evO_id sw)) rfl ?_
  refine rc_iload_n mq10 (mvDec_of cd10 rfl) rfl ?_
  refine rc_bipush mq10 (mvDec_of cd10 rfl) (by decide) ?_
  refine rc_imul mq10 (mvDec_of cd10 rfl) ?_
  refine rc_aload_n mq10 (mvDec_of cd10 rfl) rfl ?_
  refine rc_getR (evO sw + 1) mq10 (mvDec_of cd10 rfl) fl_2_9 (miE0 (evO_id sw)) rfl (mgE2 (evO_id sw) hG) (Nat.succ_ne_zero _) ?_
  refine rc_iload_n mq10 (mvDec_of cd10 rfl) rfl ?_
  obtain ⟨⟨hb0, hb1⟩, H⟩ := H
  refine rc_iald mq10 (mvDec_of cd10 rfl) (miE1 (evO_id sw)) hb0 hb1 ?_
  refine rc_iadd mq10 (mvDec_of cd10 rfl) ?_
  refine rc_top (fun v1 hv => ?_)
  replace H := H v1 hv
  refine rc_istore [some (mvR (evO sw)), some (mvI x1), some (mvI x2), some (mvI x3), some (mvI v1)] mq10 (mvDec_of cd10 rfl) rfl ?_
  refine rc_aload_n mq10 (mvDec_of cd10 rfl) rfl ?_
  refine rc_getR (evO sw + 2) mq10 (mvDec_of cd10 rfl) fl_2_15 (miE0 (evO_id sw)) rfl (mgE3 (evO_id sw) hG) (Nat.succ_ne_zero _) ?_
  refine rc_iload mq10 (mvDec_of cd10 rfl) rfl ?_
  refine rc_iload_n mq10 (mvDec_of cd10 rfl) rfl ?_
  obtain ⟨⟨hb0, hb1⟩, H⟩ := H
  refine rc_iast mq10 (mvDec_of cd10 rfl) (miE2 (evO_id sw)) hb0 hb1 ?_
  refine rc_heap (fun h2 hh => ?_)
  replace H := H h2 hh
  refine rc_aload_n mq10 (mvDec_of cd10 rfl) rfl ?_
  refine rc_getR (evO sw + 3) mq10 (mvDec_of cd10 rfl) fl_2_18 (miE0 (evO_id sw)) rfl (mgE4 (evO_id sw) hG) (Nat.succ_ne_zero _) ?_
  refine rc_iload mq10 (mvDec_of cd10 rfl) rfl ?_
  refine rc_iload_n mq10 (mvDec_of cd10 rfl) rfl ?_
  obtain ⟨⟨hb0, hb1⟩, H⟩ := H
  refine rc_iast mq10 (mvDec_of cd10 rfl) (miE3 (evO_id sw)) hb0 hb1 ?_
  refine rc_heap (fun h3 hh => ?_)
  replace H := H h3 hh
  refine rc_aload_n mq10 (mvDec_of cd10 rfl) rfl ?_
  refine rc_getR (evO sw + 1) mq10 (mvDec_of cd10 rfl) fl_2_9 (miE0 (evO_id sw)) rfl (mgE2 (evO_id sw) hG) (Nat.succ_ne_zero _) ?_
  refine rc_iload_n mq10 (mvDec_of cd10 rfl) rfl ?_
  refine rc_dup2 mq10 (mvDec_of cd10 rfl) rfl rfl ?_
  obtain ⟨⟨hb0, hb1⟩, H⟩ := H
  refine rc_iald mq10 (mvDec_of cd10 rfl) (miE1 (evO_id sw)) hb0 hb1 ?_
  refine rc_iconst mq10 (mvDec_of cd10 rfl) (by decide) ?_
  refine rc_iadd mq10 (mvDec_of cd10 rfl) ?_
  obtain ⟨⟨hb0, hb1⟩, H⟩ := H
  refine rc_iast mq10 (mvDec_of cd10 rfl) (miE1 (evO_id sw)) hb0 hb1 ?_
  refine rc_heap (fun h4 hh => ?_)
  replace H := H h4 hh
  refine rc_aload_n mq10 (mvDec_of cd10 rfl) rfl ?_
  refine rc_dup mq10 (mvDec_of cd10 rfl) rfl ?_
  refine rc_getI 1 mq10 (mvDec_of cd10 rfl) fl_2_40 (miE0 (evO_id sw)) rfl (by decide) (by decide) ?_
  refine rc_iconst mq10 (mvDec_of cd10 rfl) (by decide) ?_
  refine rc_iadd mq10 (mvDec_of cd10 rfl) ?_
  refine rc_putI 1 mq10 (mvDec_of cd10 rfl) fl_2_40 (miE0 (evO_id sw)) rfl (fun z => absurd z (by decide)) (Or.inl rfl) ?_
  refine rc_heap (fun h5 hh => ?_)
  replace H := H h5 hh
  refine rc_vret mq10 (mvDec_of cd10 rfl) ?_
  show Rch 218 10 [some (mvR 3), some (mvI x1), some (mvI x2), some (mvI x3)] [] (97, g, h5) _
  refine rc_aload_n mq218 (mvDec_of cd218 rfl) rfl ?_
  refine rc_getR (evO sw) mq218 (mvDec_of cd218 rfl) fl_0_19 mis3 rfl (gr_3_1 hG) (evO_ne sw) ?_
  refine rc_callV [mvR (evO sw)] [] [some (mvR (evO sw)), none] mq218 (mvDec_of cd218 rfl) lk_0_91 mq207 (by decide) rfl rfl (Nat.le_of_ble_eq_true rfl) (Nat.le_of_ble_eq_true rfl) (by decide) rfl (miE0 (evO_id sw)) rfl (ri_bind H (fun r7 h6 H => ?_))
  refine rc_pop mq218 (mvDec_of cd218 rfl) rfl ?_
  refine rc_aload_n mq218 (mvDec_of cd218 rfl) rfl ?_
  refine rc_callV [mvR 3] [] [some (mvR 3)] mq218 (mvDec_of cd218 rfl) lk_0_101 mq147 (by decide) rfl rfl (Nat.le_of_ble_eq_true rfl) (Nat.le_of_ble_eq_true rfl) (by decide) rfl mis3 rfl ?_
  refine rc_aload_n mq147 (mvDec_of cd147 rfl) rfl ?_
  refine rc_getR 61 mq147 (mvDec_of cd147 rfl) fl_0_64 mis3 rfl (gr_3_8 hG) (by decide) ?_
  refine rc_iconst mq147 (mvDec_of cd147 rfl) (by decide) ?_
  refine rc_putI 0 mq147 (mvDec_of cd147 rfl) fl_0_248 mis61 rfl (fun z => absurd z (by decide)) (Or.inl rfl) ?_
  refine rc_heap (fun h8 hh => ?_)
  replace H := H h8 hh
  refine rc_aload_n mq147 (mvDec_of cd147 rfl) rfl ?_
  refine rc_getR 63 mq147 (mvDec_of cd147 rfl) fl_0_71 mis3 rfl (gr_3_9 hG) (by decide) ?_
  refine rc_iconst mq147 (mvDec_of cd147 rfl) (by decide) ?_
  refine rc_putI 0 mq147 (mvDec_of cd147 rfl) fl_0_240 mis63 rfl (fun z => absurd z (by decide)) (Or.inr ⟨rfl, Or.inl rfl⟩) ?_
  refine rc_heap (fun h9 hh => ?_)
  replace H := H h9 hh
  refine rc_aload_n mq147 (mvDec_of cd147 rfl) rfl ?_
  refine rc_getR 24 mq147 (mvDec_of cd147 rfl) fl_0_29 mis3 rfl (gr_3_3 hG) (by decide) ?_
  refine rc_iconst mq147 (mvDec_of cd147 rfl) (by decide) ?_
  refine rc_putI 0 mq147 (mvDec_of cd147 rfl) fl_0_298 mis24 rfl (fun z => absurd z (by decide)) (Or.inr ⟨rfl, Or.inl rfl⟩) ?_
  refine rc_heap (fun h10 hh => ?_)
  replace H := H h10 hh
  refine rc_aload_n mq147 (mvDec_of cd147 rfl) rfl ?_
  refine rc_callV [mvR 3] [] [some (mvR 3)] mq147 (mvDec_of cd147 rfl) lk_0_199 mq73 (by decide) rfl rfl (Nat.le_of_ble_eq_true rfl) (Nat.le_of_ble_eq_true rfl) (by decide) rfl mis3 rfl ?_
  refine rc_aload_n mq73 (mvDec_of cd73 rfl) rfl ?_
  refine rc_getR 33 mq73 (mvDec_of cd73 rfl) fl_0_43 mis3 rfl (gr_3_5 hG) (by decide) ?_
  refine rc_iconst mq73 (mvDec_of cd73 rfl) (by decide) ?_
  refine rc_putI 0 mq73 (mvDec_of cd73 rfl) fl_0_301 mis33 rfl (fun z => absurd z (by decide)) (Or.inr ⟨rfl, Or.inl rfl⟩) ?_
  refine rc_heap (fun h11 hh => ?_)
  replace H := H h11 hh
  refine rc_aload_n mq73 (mvDec_of cd73 rfl) rfl ?_
  refine rc_getR 41 mq73 (mvDec_of cd73 rfl) fl_0_57 mis3 rfl (gr_3_7 hG) (by decide) ?_
  refine rc_callV [mvR 41] [] [some (mvR 41)] mq73 (mvDec_of cd73 rfl) lk_0_302 mq35 (by decide) rfl rfl (Nat.le_of_ble_eq_true rfl) (Nat.le_of_ble_eq_true rfl) (by decide) rfl mis41 rfl ?_
  refine rc_aload_n mq35 (mvDec_of cd35 rfl) rfl ?_
  refine rc_getR 51 mq35 (mvDec_of cd35 rfl) fl_7_21 mis41 rfl (gr_41_1 hG) (by decide) ?_
  refine rc_iconst mq35 (mvDec_of cd35 rfl) (by decide) ?_
  refine rc_putI 0 mq35 (mvDec_of cd35 rfl) fl_7_32 mis51 rfl (fun z => absurd z (by decide)) (Or.inr ⟨rfl, Or.inl rfl⟩) ?_
  refine rc_heap (fun h12 hh => ?_)
  replace H := H h12 hh
  refine rc_aload_n mq35 (mvDec_of cd35 rfl) rfl ?_
  refine rc_getR 58 mq35 (mvDec_of cd35 rfl) fl_7_28 mis41 rfl (gr_41_2 hG) (by decide) ?_
  refine rc_iconst mq35 (mvDec_of cd35 rfl) (by decide) ?_
  refine rc_putI 0 mq35 (mvDec_of cd35 rfl) fl_7_36 mis58 rfl (fun z => absurd z (by decide)) (Or.inr ⟨rfl, Or.inl rfl⟩) ?_
  refine rc_heap (fun h13 hh => ?_)
  replace H := H h13 hh
  refine rc_vret mq35 (mvDec_of cd35 rfl) ?_
  show Rch 73 15 [some (mvR 3)] [] (97, g, h13) _
  refine rc_vret mq73 (mvDec_of cd73 rfl) ?_
  show Rch 147 28 [some (mvR 3)] [] (97, g, h13) _
  refine rc_vret mq147 (mvDec_of cd147 rfl) ?_
  show Rch 218 22 [some (mvR 3), some (mvI x1), some (mvI x2), some (mvI x3)] [] (97, g, h13) _
  refine rc_aload_n mq218 (mvDec_of cd218 rfl) rfl ?_
  refine rc_getR (evO sw) mq218 (mvDec_of cd218 rfl) fl_0_19 mis3 rfl (gr_3_1 hG) (evO_ne sw) ?_
  refine rc_getR (evO sw + 1) mq218 (mvDec_of cd218 rfl) fl_0_131 (miE0 (evO_id sw)) rfl (mgE2 (evO_id sw) hG) (Nat.succ_ne_zero _) ?_
  refine rc_iload_n mq218 (mvDec_of cd218 rfl) rfl ?_
  obtain ⟨⟨hb0, hb1⟩, H⟩ := H
  refine rc_iald mq218 (mvDec_of cd218 rfl) (miE1 (evO_id sw)) hb0 hb1 ?_
  exact rc_iret mq218 (mvDec_of cd218 rfl) ⟨_, _, rfl, rfl, H⟩
abbrev RC_settleSearch (g : Nat → Nat → Nat) (h : Nat → Int → Int)  (K : (Nat → Int → Int) → Prop) : Prop := RV 219 0 [some (mvR 3)] [] g h K
theorem RC_settleSearch_wp {sw : Bool} {g : Nat → Nat → Nat} {h : Nat → Int → Int}  {K : (Nat → Int → Int) → Prop} (hG : Gok sw g)  (H :
  LT_build g h 24 (evO sw) (fun h1 =>
    SE_build g h1 33 (evO sw) 24 (fun h2 =>
      K h2))) : RC_settleSearch g h  K := by
  refine rc_aload_n mq219 (mvDec_of cd219 rfl) rfl ?_
  refine rc_getR 24 mq219 (mvDec_of cd219 rfl) fl_0_29 mis3 rfl (gr_3_3 hG) (by decide) ?_
  refine rc_aload_n mq219 (mvDec_of cd219 rfl) rfl ?_
  refine rc_getR (evO sw) mq219 (mvDec_of cd219 rfl) fl_0_19 mis3 rfl (gr_3_1 hG) (evO_ne sw) ?_
  refine rc_callV [mvR 24, mvR (evO sw)] [] [some (mvR 24), some (mvR (evO sw))] mq219 (mvDec_of cd219 rfl) lk_0_158 mq183 (by decide) rfl rfl (Nat.le_of_ble_eq_true rfl) (Nat.le_of_ble_eq_true rfl) (by decide) rfl mis24 rfl (rv_bind H (fun h1 H => ?_))
  refine rc_aload_n mq219 (mvDec_of cd219 rfl) rfl ?_
  refine rc_getR 33 mq219 (mvDec_of cd219 rfl) fl_0_43 mis3 rfl (gr_3_5 hG) (by decide) ?_
  refine rc_aload_n mq219 (mvDec_of cd219 rfl) rfl ?_
  refine rc_getR (evO sw) mq219 (mvDec_of cd219 rfl) fl_0_19 mis3 rfl (gr_3_1 hG) (evO_ne sw) ?_
  refine rc_aload_n mq219 (mvDec_of cd219 rfl) rfl ?_
  refine rc_getR 24 mq219 (mvDec_of cd219 rfl) fl_0_29 mis3 rfl (gr_3_3 hG) (by decide) ?_
  refine rc_aload_n mq219 (mvDec_of cd219 rfl) rfl ?_
  refine rc_getR 31 mq219 (mvDec_of cd219 rfl) fl_0_36 mis3 rfl (gr_3_4 hG) (by decide) ?_
  refine rc_callV [mvR 33, mvR (evO sw), mvR 24, mvR 31] [] [some (mvR 33), some (mvR (evO sw)), some (mvR 24), some (mvR 31), none, none, none, none] mq219 (mvDec_of cd219 rfl) lk_0_305 mq208 (by decide) rfl rfl (Nat.le_of_ble_eq_true rfl) (Nat.le_of_ble_eq_true rfl) (by decide) rfl mis33 rfl (rv_bind H (fun h2 H => ?_))
  exact rc_vret mq219 (mvDec_of cd219 rfl) ⟨_, rfl, rfl, H⟩
abbrev RC_local (g : Nat → Nat → Nat) (h : Nat → Int → Int) (x1 : Int) (x2 : Int) (K : Int → (Nat → Int → Int) → Prop) : Prop := RI 234 0 [some (mvR 3), some (mvI x1), some (mvI x2)] [] g h K
theorem RC_local_wp {sw : Bool} {g : Nat → Nat → Nat} {h : Nat → Int → Int} {x1 : Int} {x2 : Int} {K : Int → (Nat → Int → Int) → Prop} (hG : Gok sw g)  (H :
  ((x1 < 0 →
    K (-101) h) ∧
  (0 ≤ x1 →
    (((h (evO sw) 0) ≤ x1 →
      K (-101) h) ∧
    (x1 < (h (evO sw) 0) →
      ((x2 < 0 →
        K (-102) h) ∧
      (0 ≤ x2 →
        ((x2 ≤ 9 →
          (0 ≤ x1 ∧ x1 < 4) ∧
          ((9 ≤ (h (evO sw + 1) x1) →
            K (-104) h) ∧
          ((h (evO sw + 1) x1) < 9 →
            ((16 ≤ (h (evO sw) 1) →
              K (-104) h) ∧
            ((h (evO sw) 1) < 16 →
              RC_grow g h x1 0 x2 (fun r2 h1 =>
                K r2 h1)))))) ∧
        (9 < x2 →
          K (-102) h))))))))) : RC_local g h x1 x2 K := by
  refine rc_aload_n mq234 (mvDec_of cd234 rfl) rfl ?_
  refine rc_getR (evO sw) mq234 (mvDec_of cd234 rfl) fl_0_19 mis3 rfl (gr_3_1 hG) (evO_ne sw) ?_
  refine rc_iload_n mq234 (mvDec_of cd234 rfl) rfl ?_
  refine rc_callV [mvR (evO sw), mvI x1] [] [some (mvR (evO sw)), some (mvI x1)] mq234 (mvDec_of cd234 rfl) lk_0_107 mq8 (by decide) rfl rfl (Nat.le_of_ble_eq_true rfl) (Nat.le_of_ble_eq_true rfl) (by decide) rfl (miE0 (evO_id sw)) rfl ?_
  refine rc_iload_n mq8 (mvDec_of cd8 rfl) rfl ?_
  refine rc_if_lt (t := 16) mq8 (mvDec_of cd8 rfl) rfl (fun hc => ?_) (fun hc => ?_)
  · replace H := H.1 hc
    refine rc_iconst mq8 (mvDec_of cd8 rfl) (by decide) ?_
    refine rc_zret mq8 (mvDec_of cd8 rfl) (Or.inl rfl) ?_
    show Rch 234 8 [some (mvR 3), some (mvI x1), some (mvI x2)] [mvI 0] (97, g, h) _
    refine rc_ifF (t := 14) mq234 (mvDec_of cd234 rfl) rfl rfl ?_
    refine rc_bipush mq234 (mvDec_of cd234 rfl) (by decide) ?_
    exact rc_iret mq234 (mvDec_of cd234 rfl) ⟨_, _, rfl, rfl, H⟩
  · replace H := H.2 hc
    refine rc_iload_n mq8 (mvDec_of cd8 rfl) rfl ?_
    refine rc_aload_n mq8 (mvDec_of cd8 rfl) rfl ?_
    refine rc_getI 0 mq8 (mvDec_of cd8 rfl) fl_2_36 (miE0 (evO_id sw)) rfl (by decide) (by decide) ?_
    refine rc_icmp_ge (t := 16) mq8 (mvDec_of cd8 rfl) rfl (fun hc => ?_) (fun hc => ?_)
    · replace H := H.1 hc
      refine rc_iconst mq8 (mvDec_of cd8 rfl) (by decide) ?_
      refine rc_zret mq8 (mvDec_of cd8 rfl) (Or.inl rfl) ?_
      show Rch 234 8 [some (mvR 3), some (mvI x1), some (mvI x2)] [mvI 0] (97, g, h) _
      refine rc_ifF (t := 14) mq234 (mvDec_of cd234 rfl) rfl rfl ?_
      refine rc_bipush mq234 (mvDec_of cd234 rfl) (by decide) ?_
      exact rc_iret mq234 (mvDec_of cd234 rfl) ⟨_, _, rfl, rfl, H⟩
    · replace H := H.2 hc
      refine rc_iconst mq8 (mvDec_of cd8 rfl) (by decide) ?_
      refine rc_goto (t := 17) mq8 (mvDec_of cd8 rfl) rfl ?_
      refine rc_zret mq8 (mvDec_of cd8 rfl) (Or.inr rfl) ?_
      show Rch 234 8 [some (mvR 3), some (mvI x1), some (mvI x2)] [mvI 1] (97, g, h) _
      refine rc_ifT (t := 14) mq234 (mvDec_of cd234 rfl) rfl rfl ?_
      refine rc_iload_n mq234 (mvDec_of cd234 rfl) rfl ?_
      refine rc_if_lt (t := 24) mq234 (mvDec_of cd234 rfl) rfl (fun hc => ?_) (fun hc => ?_)
      · replace H := H.1 hc
        refine rc_bipush mq234 (mvDec_of cd234 rfl) (by decide) ?_
        exact rc_iret mq234 (mvDec_of cd234 rfl) ⟨_, _, rfl, rfl, H⟩
      · replace H := H.2 hc
        refine rc_iload_n mq234 (mvDec_of cd234 rfl) rfl ?_
        refine rc_bipush mq234 (mvDec_of cd234 rfl) (by decide) ?_
        refine rc_icmp_le (t := 27) mq234 (mvDec_of cd234 rfl) rfl (fun hc => ?_) (fun hc => ?_)
        · replace H := H.1 hc
          refine rc_aload_n mq234 (mvDec_of cd234 rfl) rfl ?_
          refine rc_getR (evO sw) mq234 (mvDec_of cd234 rfl) fl_0_19 mis3 rfl (gr_3_1 hG) (evO_ne sw) ?_
          refine rc_iload_n mq234 (mvDec_of cd234 rfl) rfl ?_
          refine rc_callV [mvR (evO sw), mvI x1] [] [some (mvR (evO sw)), some (mvI x1)] mq234 (mvDec_of cd234 rfl) lk_0_111 mq9 (by decide) rfl rfl (Nat.le_of_ble_eq_true rfl) (Nat.le_of_ble_eq_true rfl) (by decide) rfl (miE0 (evO_id sw)) rfl ?_
          refine rc_aload_n mq9 (mvDec_of cd9 rfl) rfl ?_
          refine rc_getR (evO sw + 1) mq9 (mvDec_of cd9 rfl) fl_2_9 (miE0 (evO_id sw)) rfl (mgE2 (evO_id sw) hG) (Nat.succ_ne_zero _) ?_
          refine rc_iload_n mq9 (mvDec_of cd9 rfl) rfl ?_
          obtain ⟨⟨hb0, hb1⟩, H⟩ := H
          refine rc_iald mq9 (mvDec_of cd9 rfl) (miE1 (evO_id sw)) hb0 hb1 ?_
          refine rc_bipush mq9 (mvDec_of cd9 rfl) (by decide) ?_
          refine rc_icmp_ge (t := 24) mq9 (mvDec_of cd9 rfl) rfl (fun hc => ?_) (fun hc => ?_)
          · replace H := H.1 hc
            refine rc_iconst mq9 (mvDec_of cd9 rfl) (by decide) ?_
            refine rc_zret mq9 (mvDec_of cd9 rfl) (Or.inl rfl) ?_
            show Rch 234 35 [some (mvR 3), some (mvI x1), some (mvI x2)] [mvI 0] (97, g, h) _
            refine rc_ifF (t := 41) mq234 (mvDec_of cd234 rfl) rfl rfl ?_
            refine rc_bipush mq234 (mvDec_of cd234 rfl) (by decide) ?_
            exact rc_iret mq234 (mvDec_of cd234 rfl) ⟨_, _, rfl, rfl, H⟩
          · replace H := H.2 hc
            refine rc_aload_n mq9 (mvDec_of cd9 rfl) rfl ?_
            refine rc_getI 1 mq9 (mvDec_of cd9 rfl) fl_2_40 (miE0 (evO_id sw)) rfl (by decide) (by decide) ?_
            refine rc_bipush mq9 (mvDec_of cd9 rfl) (by decide) ?_
            refine rc_icmp_ge (t := 24) mq9 (mvDec_of cd9 rfl) rfl (fun hc => ?_) (fun hc => ?_)
            · replace H := H.1 hc
              refine rc_iconst mq9 (mvDec_of cd9 rfl) (by decide) ?_
              refine rc_zret mq9 (mvDec_of cd9 rfl) (Or.inl rfl) ?_
              show Rch 234 35 [some (mvR 3), some (mvI x1), some (mvI x2)] [mvI 0] (97, g, h) _
              refine rc_ifF (t := 41) mq234 (mvDec_of cd234 rfl) rfl rfl ?_
              refine rc_bipush mq234 (mvDec_of cd234 rfl) (by decide) ?_
              exact rc_iret mq234 (mvDec_of cd234 rfl) ⟨_, _, rfl, rfl, H⟩
            · replace H := H.2 hc
              refine rc_iconst mq9 (mvDec_of cd9 rfl) (by decide) ?_
              refine rc_goto (t := 25) mq9 (mvDec_of cd9 rfl) rfl ?_
              refine rc_zret mq9 (mvDec_of cd9 rfl) (Or.inr rfl) ?_
              show Rch 234 35 [some (mvR 3), some (mvI x1), some (mvI x2)] [mvI 1] (97, g, h) _
              refine rc_ifT (t := 41) mq234 (mvDec_of cd234 rfl) rfl rfl ?_
              refine rc_aload_n mq234 (mvDec_of cd234 rfl) rfl ?_
              refine rc_iload_n mq234 (mvDec_of cd234 rfl) rfl ?_
              refine rc_iconst mq234 (mvDec_of cd234 rfl) (by decide) ?_
              refine rc_iload_n mq234 (mvDec_of cd234 rfl) rfl ?_
              refine rc_callV [mvR 3, mvI x1, mvI 0, mvI x2] [] [some (mvR 3), some (mvI x1), some (mvI 0), some (mvI x2)] mq234 (mvDec_of cd234 rfl) lk_0_114 mq218 (by decide) rfl rfl (Nat.le_of_ble_eq_true rfl) (Nat.le_of_ble_eq_true rfl) (by decide) rfl mis3 rfl (ri_bind H (fun r2 h1 H => ?_))
              exact rc_iret mq234 (mvDec_of cd234 rfl) ⟨_, _, rfl, rfl, H⟩
        · replace H := H.2 hc
          refine rc_bipush mq234 (mvDec_of cd234 rfl) (by decide) ?_
          exact rc_iret mq234 (mvDec_of cd234 rfl) ⟨_, _, rfl, rfl, H⟩
abbrev RC_send (g : Nat → Nat → Nat) (h : Nat → Int → Int) (x1 : Int) (x2 : Int) (K : Int → (Nat → Int → Int) → Prop) : Prop := RI 235 0 [some (mvR 3), some (mvI x1), some (mvI x2)] [] g h K
theorem RC_send_wp {sw : Bool} {g : Nat → Nat → Nat} {h : Nat → Int → Int} {x1 : Int} {x2 : Int} {K : Int → (Nat → Int → Int) → Prop} (hG : Gok sw g)  (H :
  ((x1 < 0 →
    K (-101) h) ∧
  (0 ≤ x1 →
    (((h (evO sw) 0) ≤ x1 →
      K (-101) h) ∧
    (x1 < (h (evO sw) 0) →
      ((x2 < 0 →
        K (-101) h) ∧
      (0 ≤ x2 →
        (((h (evO sw) 0) ≤ x2 →
          K (-101) h) ∧
        (x2 < (h (evO sw) 0) →
          ((x1 = x2 →
            K (-101) h) ∧
          (¬ x1 = x2 →
            (0 ≤ x1 ∧ x1 < 4) ∧
            ((9 ≤ (h (evO sw + 1) x1) →
              K (-104) h) ∧
            ((h (evO sw + 1) x1) < 9 →
              ((16 ≤ (h (evO sw) 1) →
                K (-104) h) ∧
              ((h (evO sw) 1) < 16 →
                RC_grow g h x1 1 x2 (fun r2 h1 =>
                  K r2 h1)))))))))))))))) : RC_send g h x1 x2 K := by
  refine rc_aload_n mq235 (mvDec_of cd235 rfl) rfl ?_
  refine rc_getR (evO sw) mq235 (mvDec_of cd235 rfl) fl_0_19 mis3 rfl (gr_3_1 hG) (evO_ne sw) ?_
  refine rc_iload_n mq235 (mvDec_of cd235 rfl) rfl ?_
  refine rc_iload_n mq235 (mvDec_of cd235 rfl) rfl ?_
  refine rc_callV [mvR (evO sw), mvI x1, mvI x2] [] [some (mvR (evO sw)), some (mvI x1), some (mvI x2)] mq235 (mvDec_of cd235 rfl) lk_0_118 mq78 (by decide) rfl rfl (Nat.le_of_ble_eq_true rfl) (Nat.le_of_ble_eq_true rfl) (by decide) rfl (miE0 (evO_id sw)) rfl ?_
  refine rc_aload_n mq78 (mvDec_of cd78 rfl) rfl ?_
  refine rc_iload_n mq78 (mvDec_of cd78 rfl) rfl ?_
  refine rc_callV [mvR (evO sw), mvI x1] [] [some (mvR (evO sw)), some (mvI x1)] mq78 (mvDec_of cd78 rfl) lk_2_49 mq8 (by decide) rfl rfl (Nat.le_of_ble_eq_true rfl) (Nat.le_of_ble_eq_true rfl) (by decide) rfl (miE0 (evO_id sw)) rfl ?_
  refine rc_iload_n mq8 (mvDec_of cd8 rfl) rfl ?_
  refine rc_if_lt (t := 16) mq8 (mvDec_of cd8 rfl) rfl (fun hc => ?_) (fun hc => ?_)
  · replace H := H.1 hc
    refine rc_iconst mq8 (mvDec_of cd8 rfl) (by decide) ?_
    refine rc_zret mq8 (mvDec_of cd8 rfl) (Or.inl rfl) ?_
    show Rch 78 5 [some (mvR (evO sw)), some (mvI x1), some (mvI x2)] [mvI 0] (97, g, h) _
    refine rc_ifT (t := 25) mq78 (mvDec_of cd78 rfl) rfl rfl ?_
    refine rc_iconst mq78 (mvDec_of cd78 rfl) (by decide) ?_
    refine rc_zret mq78 (mvDec_of cd78 rfl) (Or.inl rfl) ?_
    show Rch 235 9 [some (mvR 3), some (mvI x1), some (mvI x2)] [mvI 0] (97, g, h) _
    refine rc_ifF (t := 15) mq235 (mvDec_of cd235 rfl) rfl rfl ?_
    refine rc_bipush mq235 (mvDec_of cd235 rfl) (by decide) ?_
    exact rc_iret mq235 (mvDec_of cd235 rfl) ⟨_, _, rfl, rfl, H⟩
  · replace H := H.2 hc
    refine rc_iload_n mq8 (mvDec_of cd8 rfl) rfl ?_
    refine rc_aload_n mq8 (mvDec_of cd8 rfl) rfl ?_
    refine rc_getI 0 mq8 (mvDec_of cd8 rfl) fl_2_36 (miE0 (evO_id sw)) rfl (by decide) (by decide) ?_
    refine rc_icmp_ge (t := 16) mq8 (mvDec_of cd8 rfl) rfl (fun hc => ?_) (fun hc => ?_)
    · replace H := H.1 hc
      refine rc_iconst mq8 (mvDec_of cd8 rfl) (by decide) ?_
      refine rc_zret mq8 (mvDec_of cd8 rfl) (Or.inl rfl) ?_
      show Rch 78 5 [some (mvR (evO sw)), some (mvI x1), some (mvI x2)] [mvI 0] (97, g, h) _
      refine rc_ifT (t := 25) mq78 (mvDec_of cd78 rfl) rfl rfl ?_
      refine rc_iconst mq78 (mvDec_of cd78 rfl) (by decide) ?_
      refine rc_zret mq78 (mvDec_of cd78 rfl) (Or.inl rfl) ?_
      show Rch 235 9 [some (mvR 3), some (mvI x1), some (mvI x2)] [mvI 0] (97, g, h) _
      refine rc_ifF (t := 15) mq235 (mvDec_of cd235 rfl) rfl rfl ?_
      refine rc_bipush mq235 (mvDec_of cd235 rfl) (by decide) ?_
      exact rc_iret mq235 (mvDec_of cd235 rfl) ⟨_, _, rfl, rfl, H⟩
    · replace H := H.2 hc
      refine rc_iconst mq8 (mvDec_of cd8 rfl) (by decide) ?_
      refine rc_goto (t := 17) mq8 (mvDec_of cd8 rfl) rfl ?_
      refine rc_zret mq8 (mvDec_of cd8 rfl) (Or.inr rfl) ?_
      show Rch 78 5 [some (mvR (evO sw)), some (mvI x1), some (mvI x2)] [mvI 1] (97, g, h) _
      refine rc_ifF (t := 25) mq78 (mvDec_of cd78 rfl) rfl rfl ?_
      refine rc_aload_n mq78 (mvDec_of cd78 rfl) rfl ?_
      refine rc_iload_n mq78 (mvDec_of cd78 rfl) rfl ?_
      refine rc_callV [mvR (evO sw), mvI x2] [] [some (mvR (evO sw)), some (mvI x2)] mq78 (mvDec_of cd78 rfl) lk_2_49 mq8 (by decide) rfl rfl (Nat.le_of_ble_eq_true rfl) (Nat.le_of_ble_eq_true rfl) (by decide) rfl (miE0 (evO_id sw)) rfl ?_
      refine rc_iload_n mq8 (mvDec_of cd8 rfl) rfl ?_
      refine rc_if_lt (t := 16) mq8 (mvDec_of cd8 rfl) rfl (fun hc => ?_) (fun hc => ?_)
      · replace H := H.1 hc
        refine rc_iconst mq8 (mvDec_of cd8 rfl) (by decide) ?_
        refine rc_zret mq8 (mvDec_of cd8 rfl) (Or.inl rfl) ?_
        show Rch 78 13 [some (mvR (evO sw)), some (mvI x1), some (mvI x2)] [mvI 0] (97, g, h) _
        refine rc_ifT (t := 25) mq78 (mvDec_of cd78 rfl) rfl rfl ?_
        refine rc_iconst mq78 (mvDec_of cd78 rfl) (by decide) ?_
        refine rc_zret mq78 (mvDec_of cd78 rfl) (Or.inl rfl) ?_
        show Rch 235 9 [some (mvR 3), some (mvI x1), some (mvI x2)] [mvI 0] (97, g, h) _
        refine rc_ifF (t := 15) mq235 (mvDec_of cd235 rfl) rfl rfl ?_
        refine rc_bipush mq235 (mvDec_of cd235 rfl) (by decide) ?_
        exact rc_iret mq235 (mvDec_of cd235 rfl) ⟨_, _, rfl, rfl, H⟩
      · replace H := H.2 hc
        refine rc_iload_n mq8 (mvDec_of cd8 rfl) rfl ?_
        refine rc_aload_n mq8 (mvDec_of cd8 rfl) rfl ?_
        refine rc_getI 0 mq8 (mvDec_of cd8 rfl) fl_2_36 (miE0 (evO_id sw)) rfl (by decide) (by decide) ?_
        refine rc_icmp_ge (t := 16) mq8 (mvDec_of cd8 rfl) rfl (fun hc => ?_) (fun hc => ?_)
        · replace H := H.1 hc
          refine rc_iconst mq8 (mvDec_of cd8 rfl) (by decide) ?_
          refine rc_zret mq8 (mvDec_of cd8 rfl) (Or.inl rfl) ?_
          show Rch 78 13 [some (mvR (evO sw)), some (mvI x1), some (mvI x2)] [mvI 0] (97, g, h) _
          refine rc_ifT (t := 25) mq78 (mvDec_of cd78 rfl) rfl rfl ?_
          refine rc_iconst mq78 (mvDec_of cd78 rfl) (by decide) ?_
          refine rc_zret mq78 (mvDec_of cd78 rfl) (Or.inl rfl) ?_
          show Rch 235 9 [some (mvR 3), some (mvI x1), some (mvI x2)] [mvI 0] (97, g, h) _
          refine rc_ifF (t := 15) mq235 (mvDec_of cd235 rfl) rfl rfl ?_
          refine rc_bipush mq235 (mvDec_of cd235 rfl) (by decide) ?_
          exact rc_iret mq235 (mvDec_of cd235 rfl) ⟨_, _, rfl, rfl, H⟩
        · replace H := H.2 hc
          refine rc_iconst mq8 (mvDec_of cd8 rfl) (by decide) ?_
          refine rc_goto (t := 17) mq8 (mvDec_of cd8 rfl) rfl ?_
          refine rc_zret mq8 (mvDec_of cd8 rfl) (Or.inr rfl) ?_
          show Rch 78 13 [some (mvR (evO sw)), some (mvI x1), some (mvI x2)] [mvI 1] (97, g, h) _
          refine rc_ifF (t := 25) mq78 (mvDec_of cd78 rfl) rfl rfl ?_
          refine rc_iload_n mq78 (mvDec_of cd78 rfl) rfl ?_
          refine rc_iload_n mq78 (mvDec_of cd78 rfl) rfl ?_
          refine rc_icmp_eq (t := 25) mq78 (mvDec_of cd78 rfl) rfl (fun hc => ?_) (fun hc => ?_)
          · replace H := H.1 hc
            refine rc_iconst mq78 (mvDec_of cd78 rfl) (by decide) ?_
            refine rc_zret mq78 (mvDec_of cd78 rfl) (Or.inl rfl) ?_
            show Rch 235 9 [some (mvR 3), some (mvI x1), some (mvI x2)] [mvI 0] (97, g, h) _
            refine rc_ifF (t := 15) mq235 (mvDec_of cd235 rfl) rfl rfl ?_
            refine rc_bipush mq235 (mvDec_of cd235 rfl) (by decide) ?_
            exact rc_iret mq235 (mvDec_of cd235 rfl) ⟨_, _, rfl, rfl, H⟩
          · replace H := H.2 hc
            refine rc_iconst mq78 (mvDec_of cd78 rfl) (by decide) ?_
            refine rc_goto (t := 26) mq78 (mvDec_of cd78 rfl) rfl ?_
            refine rc_zret mq78 (mvDec_of cd78 rfl) (Or.inr rfl) ?_
            show Rch 235 9 [some (mvR 3), some (mvI x1), some (mvI x2)] [mvI 1] (97, g, h) _
            refine rc_ifT (t := 15) mq235 (mvDec_of cd235 rfl) rfl rfl ?_
            refine rc_aload_n mq235 (mvDec_of cd235 rfl) rfl ?_
            refine rc_getR (evO sw) mq235 (mvDec_of cd235 rfl) fl_0_19 mis3 rfl (gr_3_1 hG) (evO_ne sw) ?_
            refine rc_iload_n mq235 (mvDec_of cd235 rfl) rfl ?_
            refine rc_callV [mvR (evO sw), mvI x1] [] [some (mvR (evO sw)), some (mvI x1)] mq235 (mvDec_of cd235 rfl) lk_0_111 mq9 (by decide) rfl rfl (Nat.le_of_ble_eq_true rfl) (Nat.le_of_ble_eq_true rfl) (by decide) rfl (miE0 (evO_id sw)) rfl ?_
            refine rc_aload_n mq9 (mvDec_of cd9 rfl) rfl ?_
            refine rc_getR (evO sw + 1) mq9 (mvDec_of cd9 rfl) fl_2_9 (miE0 (evO_id sw)) rfl (mgE2 (evO_id sw) hG) (Nat.succ_ne_zero _) ?_
            refine rc_iload_n mq9 (mvDec_of cd9 rfl) rfl ?_
            obtain ⟨⟨hb0, hb1⟩, H⟩ := H
            refine rc_iald mq9 (mvDec_of cd9 rfl) (miE1 (evO_id sw)) hb0 hb1 ?_
            refine rc_bipush mq9 (mvDec_of cd9 rfl) (by decide) ?_
            refine rc_icmp_ge (t := 24) mq9 (mvDec_of cd9 rfl) rfl (fun hc => ?_) (fun hc => ?_)
            · replace H := H.1 hc
              refine rc_iconst mq9 (mvDec_of cd9 rfl) (by decide) ?_
              refine rc_zret mq9 (mvDec_of cd9 rfl) (Or.inl rfl) ?_
              show Rch 235 23 [some (mvR 3), some (mvI x1), some (mvI x2)] [mvI 0] (97, g, h) _
              refine rc_ifF (t := 29) mq235 (mvDec_of cd235 rfl) rfl rfl ?_
              refine rc_bipush mq235 (mvDec_of cd235 rfl) (by decide) ?_
              exact rc_iret mq235 (mvDec_of cd235 rfl) ⟨_, _, rfl, rfl, H⟩
            · replace H := H.2 hc
              refine rc_aload_n mq9 (mvDec_of cd9 rfl) rfl ?_
              refine rc_getI 1 mq9 (mvDec_of cd9 rfl) fl_2_40 (miE0 (evO_id sw)) rfl (by decide) (by decide) ?_
              refine rc_bipush mq9 (mvDec_of cd9 rfl) (by decide) ?_
              refine rc_icmp_ge (t := 24) mq9 (mvDec_of cd9 rfl) rfl (fun hc => ?_) (fun hc => ?_)
              · replace H := H.1 hc
                refine rc_iconst mq9 (mvDec_of cd9 rfl) (by decide) ?_
                refine rc_zret mq9 (mvDec_of cd9 rfl) (Or.inl rfl) ?_
                show Rch 235 23 [some (mvR 3), some (mvI x1), some (mvI x2)] [mvI 0] (97, g, h) _
                refine rc_ifF (t := 29) mq235 (mvDec_of cd235 rfl) rfl rfl ?_
                refine rc_bipush mq235 (mvDec_of cd235 rfl) (by decide) ?_
                exact rc_iret mq235 (mvDec_of cd235 rfl) ⟨_, _, rfl, rfl, H⟩
              · replace H := H.2 hc
                refine rc_iconst mq9 (mvDec_of cd9 rfl) (by decide) ?_
                refine rc_goto (t := 25) mq9 (mvDec_of cd9 rfl) rfl ?_
                refine rc_zret mq9 (mvDec_of cd9 rfl) (Or.inr rfl) ?_
                show Rch 235 23 [some (mvR 3), some (mvI x1), some (mvI x2)] [mvI 1] (97, g, h) _
                refine rc_ifT (t := 29) mq235 (mvDec_of cd235 rfl) rfl rfl ?_
                refine rc_aload_n mq235 (mvDec_of cd235 rfl) rfl ?_
                refine rc_iload_n mq235 (mvDec_of cd235 rfl) rfl ?_
                refine rc_iconst mq235 (mvDec_of cd235 rfl) (by decide) ?_
                refine rc_iload_n mq235 (mvDec_of cd235 rfl) rfl ?_
                refine rc_callV [mvR 3, mvI x1, mvI 1, mvI x2] [] [some (mvR 3), some (mvI x1), some (mvI 1), some (mvI x2)] mq235 (mvDec_of cd235 rfl) lk_0_114 mq218 (by decide) rfl rfl (Nat.le_of_ble_eq_true rfl) (Nat.le_of_ble_eq_true rfl) (by decide) rfl mis3 rfl (ri_bind H (fun r2 h1 H => ?_))
                exact rc_iret mq235 (mvDec_of cd235 rfl) ⟨_, _, rfl, rfl, H⟩
abbrev RC_receive (g : Nat → Nat → Nat) (h : Nat → Int → Int) (x1 : Int) (x2 : Int) (K : Int → (Nat → Int → Int) → Prop) : Prop := RI 236 0 [some (mvR 3), some (mvI x1), some (mvI x2)] [] g h K
theorem RC_receive_wp {sw : Bool} {g : Nat → Nat → Nat} {h : Nat → Int → Int} {x1 : Int} {x2 : Int} {K : Int → (Nat → Int → Int) → Prop} (hG : Gok sw g)  (H :
  ((x1 < 0 →
    K (-101) h) ∧
  (0 ≤ x1 →
    (((h (evO sw) 0) ≤ x1 →
      K (-101) h) ∧
    (x1 < (h (evO sw) 0) →
      ((x2 < 0 →
        K (-101) h) ∧
      (0 ≤ x2 →
        (((h (evO sw) 0) ≤ x2 →
          K (-101) h) ∧
        (x2 < (h (evO sw) 0) →
          ((x1 = x2 →
            K (-101) h) ∧
          (¬ x1 = x2 →
            EV_hasFreeSend g h (evO sw) x2 x1 (fun r2 h1 =>
              ((¬ r2 = 0 →
                (0 ≤ x1 ∧ x1 < 4) ∧
                ((9 ≤ (h1 (evO sw + 1) x1) →
                  K (-104) h1) ∧
                ((h1 (evO sw + 1) x1) < 9 →
                  ((16 ≤ (h1 (evO sw) 1) →
                    K (-104) h1) ∧
                  ((h1 (evO sw) 1) < 16 →
                    RC_grow g h1 x1 2 x2 (fun r4 h3 =>
                      K r4 h3)))))) ∧
              (r2 = 0 →
                K (-103) h1)))))))))))))) : RC_receive g h x1 x2 K := by
  refine rc_aload_n mq236 (mvDec_of cd236 rfl) rfl ?_
  refine rc_getR (evO sw) mq236 (mvDec_of cd236 rfl) fl_0_19 mis3 rfl (gr_3_1 hG) (evO_ne sw) ?_
  refine rc_iload_n mq236 (mvDec_of cd236 rfl) rfl ?_
  refine rc_iload_n mq236 (mvDec_of cd236 rfl) rfl ?_
  refine rc_callV [mvR (evO sw), mvI x1, mvI x2] [] [some (mvR (evO sw)), some (mvI x1), some (mvI x2)] mq236 (mvDec_of cd236 rfl) lk_0_118 mq78 (by decide) rfl rfl (Nat.le_of_ble_eq_true rfl) (Nat.le_of_ble_eq_true rfl) (by decide) rfl (miE0 (evO_id sw)) rfl ?_
  refine rc_aload_n mq78 (mvDec_of cd78 rfl) rfl ?_
  refine rc_iload_n mq78 (mvDec_of cd78 rfl) rfl ?_
  refine rc_callV [mvR (evO sw), mvI x1] [] [some (mvR (evO sw)), some (mvI x1)] mq78 (mvDec_of cd78 rfl) lk_2_49 mq8 (by decide) rfl rfl (Nat.le_of_ble_eq_true rfl) (Nat.le_of_ble_eq_true rfl) (by decide) rfl (miE0 (evO_id sw)) rfl ?_
  refine rc_iload_n mq8 (mvDec_of cd8 rfl) rfl ?_
  refine rc_if_lt (t := 16) mq8 (mvDec_of cd8 rfl) rfl (fun hc => ?_) (fun hc => ?_)
  · replace H := H.1 hc
    refine rc_iconst mq8 (mvDec_of cd8 rfl) (by decide) ?_
    refine rc_zret mq8 (mvDec_of cd8 rfl) (Or.inl rfl) ?_
    show Rch 78 5 [some (mvR (evO sw)), some (mvI x1), some (mvI x2)] [mvI 0] (97, g, h) _
    refine rc_ifT (t := 25) mq78 (mvDec_of cd78 rfl) rfl rfl ?_
    refine rc_iconst mq78 (mvDec_of cd78 rfl) (by decide) ?_
    refine rc_zret mq78 (mvDec_of cd78 rfl) (Or.inl rfl) ?_
    show Rch 236 9 [some (mvR 3), some (mvI x1), some (mvI x2)] [mvI 0] (97, g, h) _
    refine rc_ifF (t := 15) mq236 (mvDec_of cd236 rfl) rfl rfl ?_
    refine rc_bipush mq236 (mvDec_of cd236 rfl) (by decide) ?_
    exact rc_iret mq236 (mvDec_of cd236 rfl) ⟨_, _, rfl, rfl, H⟩
  · replace H := H.2 hc
    refine rc_iload_n mq8 (mvDec_of cd8 rfl) rfl ?_
    refine rc_aload_n mq8 (mvDec_of cd8 rfl) rfl ?_
    refine rc_getI 0 mq8 (mvDec_of cd8 rfl) fl_2_36 (miE0 (evO_id sw)) rfl (by decide) (by decide) ?_
    refine rc_icmp_ge (t := 16) mq8 (mvDec_of cd8 rfl) rfl (fun hc => ?_) (fun hc => ?_)
    · replace H := H.1 hc
      refine rc_iconst mq8 (mvDec_of cd8 rfl) (by decide) ?_
      refine rc_zret mq8 (mvDec_of cd8 rfl) (Or.inl rfl) ?_
      show Rch 78 5 [some (mvR (evO sw)), some (mvI x1), some (mvI x2)] [mvI 0] (97, g, h) _
      refine rc_ifT (t := 25) mq78 (mvDec_of cd78 rfl) rfl rfl ?_
      refine rc_iconst mq78 (mvDec_of cd78 rfl) (by decide) ?_
      refine rc_zret mq78 (mvDec_of cd78 rfl) (Or.inl rfl) ?_
      show Rch 236 9 [some (mvR 3), some (mvI x1), some (mvI x2)] [mvI 0] (97, g, h) _
      refine rc_ifF (t := 15) mq236 (mvDec_of cd236 rfl) rfl rfl ?_
      refine rc_bipush mq236 (mvDec_of cd236 rfl) (by decide) ?_
      exact rc_iret mq236 (mvDec_of cd236 rfl) ⟨_, _, rfl, rfl, H⟩
    · replace H := H.2 hc
      refine rc_iconst mq8 (mvDec_of cd8 rfl) (by decide) ?_
      refine rc_goto (t := 17) mq8 (mvDec_of cd8 rfl) rfl ?_
      refine rc_zret mq8 (mvDec_of cd8 rfl) (Or.inr rfl) ?_
      show Rch 78 5 [some (mvR (evO sw)), some (mvI x1), some (mvI x2)] [mvI 1] (97, g, h) _
      refine rc_ifF (t := 25) mq78 (mvDec_of cd78 rfl) rfl rfl ?_
      refine rc_aload_n mq78 (mvDec_of cd78 rfl) rfl ?_
      refine rc_iload_n mq78 (mvDec_of cd78 rfl) rfl ?_
      refine rc_callV [mvR (evO sw), mvI x2] [] [some (mvR (evO sw)), some (mvI x2)] mq78 (mvDec_of cd78 rfl) lk_2_49 mq8 (by decide) rfl rfl (Nat.le_of_ble_eq_true rfl) (Nat.le_of_ble_eq_true rfl) (by decide) rfl (miE0 (evO_id sw)) rfl ?_
      refine rc_iload_n mq8 (mvDec_of cd8 rfl) rfl ?_
      refine rc_if_lt (t := 16) mq8 (mvDec_of cd8 rfl) rfl (fun hc => ?_) (fun hc => ?_)
      · replace H := H.1 hc
        refine rc_iconst mq8 (mvDec_of cd8 rfl) (by decide) ?_
        refine rc_zret mq8 (mvDec_of cd8 rfl) (Or.inl rfl) ?_
        show Rch 78 13 [some (mvR (evO sw)), some (mvI x1), some (mvI x2)] [mvI 0] (97, g, h) _
        refine rc_ifT (t := 25) mq78 (mvDec_of cd78 rfl) rfl rfl ?_
        refine rc_iconst mq78 (mvDec_of cd78 rfl) (by decide) ?_
        refine rc_zret mq78 (mvDec_of cd78 rfl) (Or.inl rfl) ?_
        show Rch 236 9 [some (mvR 3), some (mvI x1), some (mvI x2)] [mvI 0] (97, g, h) _
        refine rc_ifF (t := 15) mq236 (mvDec_of cd236 rfl) rfl rfl ?_
        refine rc_bipush mq236 (mvDec_of cd236 rfl) (by decide) ?_
        exact rc_iret mq236 (mvDec_of cd236 rfl) ⟨_, _, rfl, rfl, H⟩
      · replace H := H.2 hc
        refine rc_iload_n mq8 (mvDec_of cd8 rfl) rfl ?_
        refine rc_aload_n mq8 (mvDec_of cd8 rfl) rfl ?_
        refine rc_getI 0 mq8 (mvDec_of cd8 rfl) fl_2_36 (miE0 (evO_id sw)) rfl (by decide) (by decide) ?_
        refine rc_icmp_ge (t := 16) mq8 (mvDec_of cd8 rfl) rfl (fun hc => ?_) (fun hc => ?_)
        · replace H := H.1 hc
          refine rc_iconst mq8 (mvDec_of cd8 rfl) (by decide) ?_
          refine rc_zret mq8 (mvDec_of cd8 rfl) (Or.inl rfl) ?_
          show Rch 78 13 [some (mvR (evO sw)), some (mvI x1), some (mvI x2)] [mvI 0] (97, g, h) _
          refine rc_ifT (t := 25) mq78 (mvDec_of cd78 rfl) rfl rfl ?_
          refine rc_iconst mq78 (mvDec_of cd78 rfl) (by decide) ?_
          refine rc_zret mq78 (mvDec_of cd78 rfl) (Or.inl rfl) ?_
          show Rch 236 9 [some (mvR 3), some (mvI x1), some (mvI x2)] [mvI 0] (97, g, h) _
          refine rc_ifF (t := 15) mq236 (mvDec_of cd236 rfl) rfl rfl ?_
          refine rc_bipush mq236 (mvDec_of cd236 rfl) (by decide) ?_
          exact rc_iret mq236 (mvDec_of cd236 rfl) ⟨_, _, rfl, rfl, H⟩
        · replace H := H.2 hc
          refine rc_iconst mq8 (mvDec_of cd8 rfl) (by decide) ?_
          refine rc_goto (t := 17) mq8 (mvDec_of cd8 rfl) rfl ?_
          refine rc_zret mq8 (mvDec_of cd8 rfl) (Or.inr rfl) ?_
          show Rch 78 13 [some (mvR (evO sw)), some (mvI x1), some (mvI x2)] [mvI 1] (97, g, h) _
          refine rc_ifF (t := 25) mq78 (mvDec_of cd78 rfl) rfl rfl ?_
          refine rc_iload_n mq78 (mvDec_of cd78 rfl) rfl ?_
          refine rc_iload_n mq78 (mvDec_of cd78 rfl) rfl ?_
          refine rc_icmp_eq (t := 25) mq78 (mvDec_of cd78 rfl) rfl (fun hc => ?_) (fun hc => ?_)
          · replace H := H.1 hc
            refine rc_iconst mq78 (mvDec_of cd78 rfl) (by decide) ?_
            refine rc_zret mq78 (mvDec_of cd78 rfl) (Or.inl rfl) ?_
            show Rch 236 9 [some (mvR 3), some (mvI x1), some (mvI x2)] [mvI 0] (97, g, h) _
            refine rc_ifF (t := 15) mq236 (mvDec_of cd236 rfl) rfl rfl ?_
            refine rc_bipush mq236 (mvDec_of cd236 rfl) (by decide) ?_
            exact rc_iret mq236 (mvDec_of cd236 rfl) ⟨_, _, rfl, rfl, H⟩
          · replace H := H.2 hc
            refine rc_iconst mq78 (mvDec_of cd78 rfl) (by decide) ?_
            refine rc_goto (t := 26) mq78 (mvDec_of cd78 rfl) rfl ?_
            refine rc_zret mq78 (mvDec_of cd78 rfl) (Or.inr rfl) ?_
            show Rch 236 9 [some (mvR 3), some (mvI x1), some (mvI x2)] [mvI 1] (97, g, h) _
            refine rc_ifT (t := 15) mq236 (mvDec_of cd236 rfl) rfl rfl ?_
            refine rc_aload_n mq236 (mvDec_of cd236 rfl) rfl ?_
            refine rc_getR (evO sw) mq236 (mvDec_of cd236 rfl) fl_0_19 mis3 rfl (gr_3_1 hG) (evO_ne sw) ?_
            refine rc_iload_n mq236 (mvDec_of cd236 rfl) rfl ?_
            refine rc_iload_n mq236 (mvDec_of cd236 rfl) rfl ?_
            refine rc_callV [mvR (evO sw), mvI x2, mvI x1] [] [some (mvR (evO sw)), some (mvI x2), some (mvI x1), none, none] mq236 (mvDec_of cd236 rfl) lk_0_122 mq20 (by decide) rfl rfl (Nat.le_of_ble_eq_true rfl) (Nat.le_of_ble_eq_true rfl) (by decide) rfl (miE0 (evO_id sw)) rfl (ri_bind H (fun r2 h1 H => ?_))
            refine rc_if_ne (t := 30) mq236 (mvDec_of cd236 rfl) rfl (fun hc => ?_) (fun hc => ?_)
            · replace H := H.1 hc
              refine rc_aload_n mq236 (mvDec_of cd236 rfl) rfl ?_
              refine rc_getR (evO sw) mq236 (mvDec_of cd236 rfl) fl_0_19 mis3 rfl (gr_3_1 hG) (evO_ne sw) ?_
              refine rc_iload_n mq236 (mvDec_of cd236 rfl) rfl ?_
              refine rc_callV [mvR (evO sw), mvI x1] [] [some (mvR (evO sw)), some (mvI x1)] mq236 (mvDec_of cd236 rfl) lk_0_111 mq9 (by decide) rfl rfl (Nat.le_of_ble_eq_true rfl) (Nat.le_of_ble_eq_true rfl) (by decide) rfl (miE0 (evO_id sw)) rfl ?_
              refine rc_aload_n mq9 (mvDec_of cd9 rfl) rfl ?_
              refine rc_getR (evO sw + 1) mq9 (mvDec_of cd9 rfl) fl_2_9 (miE0 (evO_id sw)) rfl (mgE2 (evO_id sw) hG) (Nat.succ_ne_zero _) ?_
              refine rc_iload_n mq9 (mvDec_of cd9 rfl) rfl ?_
              obtain ⟨⟨hb0, hb1⟩, H⟩ := H
              refine rc_iald mq9 (mvDec_of cd9 rfl) (miE1 (evO_id sw)) hb0 hb1 ?_
              refine rc_bipush mq9 (mvDec_of cd9 rfl) (by decide) ?_
              refine rc_icmp_ge (t := 24) mq9 (mvDec_of cd9 rfl) rfl (fun hc => ?_) (fun hc => ?_)
              · replace H := H.1 hc
                refine rc_iconst mq9 (mvDec_of cd9 rfl) (by decide) ?_
                refine rc_zret mq9 (mvDec_of cd9 rfl) (Or.inl rfl) ?_
                show Rch 236 38 [some (mvR 3), some (mvI x1), some (mvI x2)] [mvI 0] (97, g, h1) _
                refine rc_ifF (t := 44) mq236 (mvDec_of cd236 rfl) rfl rfl ?_
                refine rc_bipush mq236 (mvDec_of cd236 rfl) (by decide) ?_
                exact rc_iret mq236 (mvDec_of cd236 rfl) ⟨_, _, rfl, rfl, H⟩
              · replace H := H.2 hc
                refine rc_aload_n mq9 (mvDec_of cd9 rfl) rfl ?_
                refine rc_getI 1 mq9 (mvDec_of cd9 rfl) fl_2_40 (miE0 (evO_id sw)) rfl (by decide) (by decide) ?_
                refine rc_bipush mq9 (mvDec_of cd9 rfl) (by decide) ?_
                refine rc_icmp_ge (t := 24) mq9 (mvDec_of cd9 rfl) rfl (fun hc => ?_) (fun hc => ?_)
                · replace H := H.1 hc
                  refine rc_iconst mq9 (mvDec_of cd9 rfl) (by decide) ?_
                  refine rc_zret mq9 (mvDec_of cd9 rfl) (Or.inl rfl) ?_
                  show Rch 236 38 [some (mvR 3), some (mvI x1), some (mvI x2)] [mvI 0] (97, g, h1) _
                  refine rc_ifF (t := 44) mq236 (mvDec_of cd236 rfl) rfl rfl ?_
                  refine rc_bipush mq236 (mvDec_of cd236 rfl) (by decide) ?_
                  exact rc_iret mq236 (mvDec_of cd236 rfl) ⟨_, _, rfl, rfl, H⟩
                · replace H := H.2 hc
                  refine rc_iconst mq9 (mvDec_of cd9 rfl) (by decide) ?_
                  refine rc_goto (t := 25) mq9 (mvDec_of cd9 rfl) rfl ?_
                  refine rc_zret mq9 (mvDec_of cd9 rfl) (Or.inr rfl) ?_
                  show Rch 236 38 [some (mvR 3), some (mvI x1), some (mvI x2)] [mvI 1] (97, g, h1) _
                  refine rc_ifT (t := 44) mq236 (mvDec_of cd236 rfl) rfl rfl ?_
                  refine rc_aload_n mq236 (mvDec_of cd236 rfl) rfl ?_
                  refine rc_iload_n mq236 (mvDec_of cd236 rfl) rfl ?_
                  refine rc_iconst mq236 (mvDec_of cd236 rfl) (by decide) ?_
                  refine rc_iload_n mq236 (mvDec_of cd236 rfl) rfl ?_
                  refine rc_callV [mvR 3, mvI x1, mvI 2, mvI x2] [] [some (mvR 3), some (mvI x1), some (mvI 2), some (mvI x2)] mq236 (mvDec_of cd236 rfl) lk_0_114 mq218 (by decide) rfl rfl (Nat.le_of_ble_eq_true rfl) (Nat.le_of_ble_eq_true rfl) (by decide) rfl mis3 rfl (ri_bind H (fun r4 h3 H => ?_))
                  exact rc_iret mq236 (mvDec_of cd236 rfl) ⟨_, _, rfl, rfl, H⟩
            · replace H := H.2 hc
              refine rc_bipush mq236 (mvDec_of cd236 rfl) (by decide) ?_
              exact rc_iret mq236 (mvDec_of cd236 rfl) ⟨_, _, rfl, rfl, H⟩
abbrev RC_wished (g : Nat → Nat → Nat) (h : Nat → Int → Int) (x1 : Int) (K : Int → (Nat → Int → Int) → Prop) : Prop := RI 237 0 [some (mvR 3), some (mvI x1)] [] g h K
theorem RC_wished_wp {sw : Bool} {g : Nat → Nat → Nat} {h : Nat → Int → Int} {x1 : Int} {K : Int → (Nat → Int → Int) → Prop} (hG : Gok sw g)  (H :
  ((x1 < 0 →
    K (-102) h) ∧
  (0 ≤ x1 →
    ((x1 ≤ 3 →
      (((h (evO sw) 0) ≤ 0 →
        K (-103) h) ∧
      (0 < (h (evO sw) 0) →
        RC_settleSearch g h (fun h1 =>
          SE_property g h1 33 x1 (fun r3 h2 =>
            K r3 h2))))) ∧
    (3 < x1 →
      K (-102) h))))) : RC_wished g h x1 K := by
  refine rc_iload_n mq237 (mvDec_of cd237 rfl) rfl ?_
  refine rc_if_lt (t := 9) mq237 (mvDec_of cd237 rfl) rfl (fun hc => ?_) (fun hc => ?_)
  · replace H := H.1 hc
    refine rc_bipush mq237 (mvDec_of cd237 rfl) (by decide) ?_
    exact rc_iret mq237 (mvDec_of cd237 rfl) ⟨_, _, rfl, rfl, H⟩
  · replace H := H.2 hc
    refine rc_iload_n mq237 (mvDec_of cd237 rfl) rfl ?_
    refine rc_iconst mq237 (mvDec_of cd237 rfl) (by decide) ?_
    refine rc_icmp_le (t := 12) mq237 (mvDec_of cd237 rfl) rfl (fun hc => ?_) (fun hc => ?_)
    · replace H := H.1 hc
      refine rc_aload_n mq237 (mvDec_of cd237 rfl) rfl ?_
      refine rc_callV [mvR 3] [] [some (mvR 3)] mq237 (mvDec_of cd237 rfl) lk_0_145 mq3 (by decide) rfl rfl (Nat.le_of_ble_eq_true rfl) (Nat.le_of_ble_eq_true rfl) (by decide) rfl mis3 rfl ?_
      refine rc_aload_n mq3 (mvDec_of cd3 rfl) rfl ?_
      refine rc_getR (evO sw) mq3 (mvDec_of cd3 rfl) fl_0_19 mis3 rfl (gr_3_1 hG) (evO_ne sw) ?_
      refine rc_getI 0 mq3 (mvDec_of cd3 rfl) fl_0_104 (miE0 (evO_id sw)) rfl (by decide) (by decide) ?_
      refine rc_if_le (t := 14) mq3 (mvDec_of cd3 rfl) rfl (fun hc => ?_) (fun hc => ?_)
      · replace H := H.1 hc
        refine rc_iconst mq3 (mvDec_of cd3 rfl) (by decide) ?_
        refine rc_zret mq3 (mvDec_of cd3 rfl) (Or.inl rfl) ?_
        show Rch 237 16 [some (mvR 3), some (mvI x1)] [mvI 0] (97, g, h) _
        refine rc_ifF (t := 22) mq237 (mvDec_of cd237 rfl) rfl rfl ?_
        refine rc_bipush mq237 (mvDec_of cd237 rfl) (by decide) ?_
        exact rc_iret mq237 (mvDec_of cd237 rfl) ⟨_, _, rfl, rfl, H⟩
      · replace H := H.2 hc
        refine rc_iconst mq3 (mvDec_of cd3 rfl) (by decide) ?_
        refine rc_goto (t := 15) mq3 (mvDec_of cd3 rfl) rfl ?_
        refine rc_zret mq3 (mvDec_of cd3 rfl) (Or.inr rfl) ?_
        show Rch 237 16 [some (mvR 3), some (mvI x1)] [mvI 1] (97, g, h) _
        refine rc_ifT (t := 22) mq237 (mvDec_of cd237 rfl) rfl rfl ?_
        refine rc_aload_n mq237 (mvDec_of cd237 rfl) rfl ?_
        refine rc_callV [mvR 3] [] [some (mvR 3)] mq237 (mvDec_of cd237 rfl) lk_0_205 mq219 (by decide) rfl rfl (Nat.le_of_ble_eq_true rfl) (Nat.le_of_ble_eq_true rfl) (by decide) rfl mis3 rfl (rv_bind H (fun h1 H => ?_))
        refine rc_aload_n mq237 (mvDec_of cd237 rfl) rfl ?_
        refine rc_getR 33 mq237 (mvDec_of cd237 rfl) fl_0_43 mis3 rfl (gr_3_5 hG) (by decide) ?_
        refine rc_iload_n mq237 (mvDec_of cd237 rfl) rfl ?_
        refine rc_callV [mvR 33, mvI x1] [] [some (mvR 33), some (mvI x1)] mq237 (mvDec_of cd237 rfl) lk_0_208 mq29 (by decide) rfl rfl (Nat.le_of_ble_eq_true rfl) (Nat.le_of_ble_eq_true rfl) (by decide) rfl mis33 rfl (ri_bind H (fun r3 h2 H => ?_))
        exact rc_iret mq237 (mvDec_of cd237 rfl) ⟨_, _, rfl, rfl, H⟩
    · replace H := H.2 hc
      refine rc_bipush mq237 (mvDec_of cd237 rfl) (by decide) ?_
      exact rc_iret mq237 (mvDec_of cd237 rfl) ⟨_, _, rfl, rfl, H⟩
abbrev RC_around (g : Nat → Nat → Nat) (h : Nat → Int → Int) (x1 : Int) (K : Int → (Nat → Int → Int) → Prop) : Prop := RI 238 0 [some (mvR 3), some (mvI x1)] [] g h K
theorem RC_around_wp {sw : Bool} {g : Nat → Nat → Nat} {h : Nat → Int → Int} {x1 : Int} {K : Int → (Nat → Int → Int) → Prop} (hG : Gok sw g)  (H :
  (((h (evO sw) 0) ≤ 0 →
    K (-103) h) ∧
  (0 < (h (evO sw) 0) →
    RC_settleSearch g h (fun h1 =>
      ((x1 < 0 →
        K (-101) h1) ∧
      (0 ≤ x1 →
        ((x1 < (h1 33 1) →
          (0 ≤ x1 ∧ x1 < 16) ∧
          K (h1 34 x1) h1) ∧
        ((h1 33 1) ≤ x1 →
          K (-101) h1)))))))) : RC_around g h x1 K := by
  refine rc_aload_n mq238 (mvDec_of cd238 rfl) rfl ?_
  refine rc_callV [mvR 3] [] [some (mvR 3)] mq238 (mvDec_of cd238 rfl) lk_0_145 mq3 (by decide) rfl rfl (Nat.le_of_ble_eq_true rfl) (Nat.le_of_ble_eq_true rfl) (by decide) rfl mis3 rfl ?_
  refine rc_aload_n mq3 (mvDec_of cd3 rfl) rfl ?_
  refine rc_getR (evO sw) mq3 (mvDec_of cd3 rfl) fl_0_19 mis3 rfl (gr_3_1 hG) (evO_ne sw) ?_
  refine rc_getI 0 mq3 (mvDec_of cd3 rfl) fl_0_104 (miE0 (evO_id sw)) rfl (by decide) (by decide) ?_
  refine rc_if_le (t := 14) mq3 (mvDec_of cd3 rfl) rfl (fun hc => ?_) (fun hc => ?_)
  · replace H := H.1 hc
    refine rc_iconst mq3 (mvDec_of cd3 rfl) (by decide) ?_
    refine rc_zret mq3 (mvDec_of cd3 rfl) (Or.inl rfl) ?_
    show Rch 238 4 [some (mvR 3), some (mvI x1)] [mvI 0] (97, g, h) _
    refine rc_ifF (t := 10) mq238 (mvDec_of cd238 rfl) rfl rfl ?_
    refine rc_bipush mq238 (mvDec_of cd238 rfl) (by decide) ?_
    exact rc_iret mq238 (mvDec_of cd238 rfl) ⟨_, _, rfl, rfl, H⟩
  · replace H := H.2 hc
    refine rc_iconst mq3 (mvDec_of cd3 rfl) (by decide) ?_
    refine rc_goto (t := 15) mq3 (mvDec_of cd3 rfl) rfl ?_
    refine rc_zret mq3 (mvDec_of cd3 rfl) (Or.inr rfl) ?_
    show Rch 238 4 [some (mvR 3), some (mvI x1)] [mvI 1] (97, g, h) _
    refine rc_ifT (t := 10) mq238 (mvDec_of cd238 rfl) rfl rfl ?_
    refine rc_aload_n mq238 (mvDec_of cd238 rfl) rfl ?_
    refine rc_callV [mvR 3] [] [some (mvR 3)] mq238 (mvDec_of cd238 rfl) lk_0_205 mq219 (by decide) rfl rfl (Nat.le_of_ble_eq_true rfl) (Nat.le_of_ble_eq_true rfl) (by decide) rfl mis3 rfl (rv_bind H (fun h1 H => ?_))
    refine rc_iload_n mq238 (mvDec_of cd238 rfl) rfl ?_
    refine rc_if_lt (t := 29) mq238 (mvDec_of cd238 rfl) rfl (fun hc => ?_) (fun hc => ?_)
    · replace H := H.1 hc
      refine rc_bipush mq238 (mvDec_of cd238 rfl) (by decide) ?_
      exact rc_iret mq238 (mvDec_of cd238 rfl) ⟨_, _, rfl, rfl, H⟩
    · replace H := H.2 hc
      refine rc_iload_n mq238 (mvDec_of cd238 rfl) rfl ?_
      refine rc_aload_n mq238 (mvDec_of cd238 rfl) rfl ?_
      refine rc_getR 33 mq238 (mvDec_of cd238 rfl) fl_0_43 mis3 rfl (gr_3_5 hG) (by decide) ?_
      refine rc_getI 1 mq238 (mvDec_of cd238 rfl) fl_0_209 mis33 rfl (by decide) (by decide) ?_
      refine rc_icmp_lt (t := 32) mq238 (mvDec_of cd238 rfl) rfl (fun hc => ?_) (fun hc => ?_)
      · replace H := H.1 hc
        refine rc_aload_n mq238 (mvDec_of cd238 rfl) rfl ?_
        refine rc_getR 33 mq238 (mvDec_of cd238 rfl) fl_0_43 mis3 rfl (gr_3_5 hG) (by decide) ?_
        refine rc_getR 34 mq238 (mvDec_of cd238 rfl) fl_0_212 mis33 rfl (gr_33_2 hG) (by decide) ?_
        refine rc_iload_n mq238 (mvDec_of cd238 rfl) rfl ?_
        obtain ⟨⟨hb0, hb1⟩, H⟩ := H
        refine rc_iald mq238 (mvDec_of cd238 rfl) mis34 hb0 hb1 ?_
        exact rc_iret mq238 (mvDec_of cd238 rfl) ⟨_, _, rfl, rfl, H⟩
      · replace H := H.2 hc
        refine rc_bipush mq238 (mvDec_of cd238 rfl) (by decide) ?_
        exact rc_iret mq238 (mvDec_of cd238 rfl) ⟨_, _, rfl, rfl, H⟩
abbrev RC_least (g : Nat → Nat → Nat) (h : Nat → Int → Int)  (K : Int → (Nat → Int → Int) → Prop) : Prop := RI 239 0 [some (mvR 3)] [] g h K
theorem RC_least_wp {sw : Bool} {g : Nat → Nat → Nat} {h : Nat → Int → Int}  {K : Int → (Nat → Int → Int) → Prop} (hG : Gok sw g)  (H :
  (((h (evO sw) 0) ≤ 0 →
    K (-103) h) ∧
  (0 < (h (evO sw) 0) →
    ((¬ (h 31 0) = 0 →
      K (-103) h) ∧
    ((h 31 0) = 0 →
      RC_settleSearch g h (fun h1 =>
        K (h1 33 4) h1)))))) : RC_least g h  K := by
  refine rc_aload_n mq239 (mvDec_of cd239 rfl) rfl ?_
  refine rc_callV [mvR 3] [] [some (mvR 3)] mq239 (mvDec_of cd239 rfl) lk_0_215 mq72 (by decide) rfl rfl (Nat.le_of_ble_eq_true rfl) (Nat.le_of_ble_eq_true rfl) (by decide) rfl mis3 rfl ?_
  refine rc_aload_n mq72 (mvDec_of cd72 rfl) rfl ?_
  refine rc_callV [mvR 3] [] [some (mvR 3)] mq72 (mvDec_of cd72 rfl) lk_0_145 mq3 (by decide) rfl rfl (Nat.le_of_ble_eq_true rfl) (Nat.le_of_ble_eq_true rfl) (by decide) rfl mis3 rfl ?_
  refine rc_aload_n mq3 (mvDec_of cd3 rfl) rfl ?_
  refine rc_getR (evO sw) mq3 (mvDec_of cd3 rfl) fl_0_19 mis3 rfl (gr_3_1 hG) (evO_ne sw) ?_
  refine rc_getI 0 mq3 (mvDec_of cd3 rfl) fl_0_104 (miE0 (evO_id sw)) rfl (by decide) (by decide) ?_
  refine rc_if_le (t := 14) mq3 (mvDec_of cd3 rfl) rfl (fun hc => ?_) (fun hc => ?_)
  · replace H := H.1 hc
    refine rc_iconst mq3 (mvDec_of cd3 rfl) (by decide) ?_
    refine rc_zret mq3 (mvDec_of cd3 rfl) (Or.inl rfl) ?_
    show Rch 72 4 [some (mvR 3)] [mvI 0] (97, g, h) _
    refine rc_ifT (t := 21) mq72 (mvDec_of cd72 rfl) rfl rfl ?_
    refine rc_iconst mq72 (mvDec_of cd72 rfl) (by decide) ?_
    refine rc_zret mq72 (mvDec_of cd72 rfl) (Or.inl rfl) ?_
    show Rch 239 4 [some (mvR 3)] [mvI 0] (97, g, h) _
    refine rc_ifF (t := 10) mq239 (mvDec_of cd239 rfl) rfl rfl ?_
    refine rc_bipush mq239 (mvDec_of cd239 rfl) (by decide) ?_
    exact rc_iret mq239 (mvDec_of cd239 rfl) ⟨_, _, rfl, rfl, H⟩
  · replace H := H.2 hc
    refine rc_iconst mq3 (mvDec_of cd3 rfl) (by decide) ?_
    refine rc_goto (t := 15) mq3 (mvDec_of cd3 rfl) rfl ?_
    refine rc_zret mq3 (mvDec_of cd3 rfl) (Or.inr rfl) ?_
    show Rch 72 4 [some (mvR 3)] [mvI 1] (97, g, h) _
    refine rc_ifF (t := 21) mq72 (mvDec_of cd72 rfl) rfl rfl ?_
    refine rc_aload_n mq72 (mvDec_of cd72 rfl) rfl ?_
    refine rc_getR 31 mq72 (mvDec_of cd72 rfl) fl_0_36 mis3 rfl (gr_3_4 hG) (by decide) ?_
    refine rc_getI 0 mq72 (mvDec_of cd72 rfl) fl_0_193 mis31 rfl (by decide) (by decide) ?_
    refine rc_if_ne (t := 21) mq72 (mvDec_of cd72 rfl) rfl (fun hc => ?_) (fun hc => ?_)
    · replace H := H.1 hc
      refine rc_iconst mq72 (mvDec_of cd72 rfl) (by decide) ?_
      refine rc_zret mq72 (mvDec_of cd72 rfl) (Or.inl rfl) ?_
      show Rch 239 4 [some (mvR 3)] [mvI 0] (97, g, h) _
      refine rc_ifF (t := 10) mq239 (mvDec_of cd239 rfl) rfl rfl ?_
      refine rc_bipush mq239 (mvDec_of cd239 rfl) (by decide) ?_
      exact rc_iret mq239 (mvDec_of cd239 rfl) ⟨_, _, rfl, rfl, H⟩
    · replace H := H.2 hc
      refine rc_iconst mq72 (mvDec_of cd72 rfl) (by decide) ?_
      refine rc_goto (t := 22) mq72 (mvDec_of cd72 rfl) rfl ?_
      refine rc_zret mq72 (mvDec_of cd72 rfl) (Or.inr rfl) ?_
      show Rch 239 4 [some (mvR 3)] [mvI 1] (97, g, h) _
      refine rc_ifT (t := 10) mq239 (mvDec_of cd239 rfl) rfl rfl ?_
      refine rc_aload_n mq239 (mvDec_of cd239 rfl) rfl ?_
      refine rc_callV [mvR 3] [] [some (mvR 3)] mq239 (mvDec_of cd239 rfl) lk_0_205 mq219 (by decide) rfl rfl (Nat.le_of_ble_eq_true rfl) (Nat.le_of_ble_eq_true rfl) (by decide) rfl mis3 rfl (rv_bind H (fun h1 H => ?_))
      refine rc_aload_n mq239 (mvDec_of cd239 rfl) rfl ?_
      refine rc_getR 33 mq239 (mvDec_of cd239 rfl) fl_0_43 mis3 rfl (gr_3_5 hG) (by decide) ?_
      refine rc_callV [mvR 33] [] [some (mvR 33)] mq239 (mvDec_of cd239 rfl) lk_0_218 mq30 (by decide) rfl rfl (Nat.le_of_ble_eq_true rfl) (Nat.le_of_ble_eq_true rfl) (by decide) rfl mis33 rfl ?_
      refine rc_aload_n mq30 (mvDec_of cd30 rfl) rfl ?_
      refine rc_getI 4 mq30 (mvDec_of cd30 rfl) fl_5_27 mis33 rfl (by decide) (by decide) ?_
      refine rc_iret mq30 (mvDec_of cd30 rfl) ?_
      show Rch 239 21 [some (mvR 3)] [mvI (h1 33 4)] (97, g, h1) _
      exact rc_iret mq239 (mvDec_of cd239 rfl) ⟨_, _, rfl, rfl, H⟩
abbrev RC_lean (g : Nat → Nat → Nat) (h : Nat → Int → Int) (x1 : Int) (K : Int → (Nat → Int → Int) → Prop) : Prop := RI 240 0 [some (mvR 3), some (mvI x1)] [] g h K
theorem RC_lean_wp {sw : Bool} {g : Nat → Nat → Nat} {h : Nat → Int → Int} {x1 : Int} {K : Int → (Nat → Int → Int) → Prop} (hG : Gok sw g)  (H :
  ((x1 < 0 →
    K (-102) h) ∧
  (0 ≤ x1 →
    ((x1 ≤ 3 →
      (((h (evO sw) 0) ≤ 0 →
        K (-103) h) ∧
      (0 < (h (evO sw) 0) →
        ((¬ (h 31 0) = 0 →
          K (-103) h) ∧
        ((h 31 0) = 0 →
          LN_build g h (evO sw) (fun h1 =>
            LN_property g h1 x1 (fun r3 h2 =>
              K r3 h2))))))) ∧
    (3 < x1 →
      K (-102) h))))) : RC_lean g h x1 K := by
  refine rc_iload_n mq240 (mvDec_of cd240 rfl) rfl ?_
  refine rc_if_lt (t := 9) mq240 (mvDec_of cd240 rfl) rfl (fun hc => ?_) (fun hc => ?_)
  · replace H := H.1 hc
    refine rc_bipush mq240 (mvDec_of cd240 rfl) (by decide) ?_
    exact rc_iret mq240 (mvDec_of cd240 rfl) ⟨_, _, rfl, rfl, H⟩
  · replace H := H.2 hc
    refine rc_iload_n mq240 (mvDec_of cd240 rfl) rfl ?_
    refine rc_iconst mq240 (mvDec_of cd240 rfl) (by decide) ?_
    refine rc_icmp_le (t := 12) mq240 (mvDec_of cd240 rfl) rfl (fun hc => ?_) (fun hc => ?_)
    · replace H := H.1 hc
      refine rc_aload_n mq240 (mvDec_of cd240 rfl) rfl ?_
      refine rc_callV [mvR 3] [] [some (mvR 3)] mq240 (mvDec_of cd240 rfl) lk_0_215 mq72 (by decide) rfl rfl (Nat.le_of_ble_eq_true rfl) (Nat.le_of_ble_eq_true rfl) (by decide) rfl mis3 rfl ?_
      refine rc_aload_n mq72 (mvDec_of cd72 rfl) rfl ?_
      refine rc_callV [mvR 3] [] [some (mvR 3)] mq72 (mvDec_of cd72 rfl) lk_0_145 mq3 (by decide) rfl rfl (Nat.le_of_ble_eq_true rfl) (Nat.le_of_ble_eq_true rfl) (by decide) rfl mis3 rfl ?_
      refine rc_aload_n mq3 (mvDec_of cd3 rfl) rfl ?_
      refine rc_getR (evO sw) mq3 (mvDec_of cd3 rfl) fl_0_19 mis3 rfl (gr_3_1 hG) (evO_ne sw) ?_
      refine rc_getI 0 mq3 (mvDec_of cd3 rfl) fl_0_104 (miE0 (evO_id sw)) rfl (by decide) (by decide) ?_
      refine rc_if_le (t := 14) mq3 (mvDec_of cd3 rfl) rfl (fun hc => ?_) (fun hc => ?_)
      · replace H := H.1 hc
        refine rc_iconst mq3 (mvDec_of cd3 rfl) (by decide) ?_
        refine rc_zret mq3 (mvDec_of cd3 rfl) (Or.inl rfl) ?_
        show Rch 72 4 [some (mvR 3)] [mvI 0] (97, g, h) _
        refine rc_ifT (t := 21) mq72 (mvDec_of cd72 rfl) rfl rfl ?_
        refine rc_iconst mq72 (mvDec_of cd72 rfl) (by decide) ?_
        refine rc_zret mq72 (mvDec_of cd72 rfl) (Or.inl rfl) ?_
        show Rch 240 16 [some (mvR 3), some (mvI x1)] [mvI 0] (97, g, h) _
        refine rc_ifF (t := 22) mq240 (mvDec_of cd240 rfl) rfl rfl ?_
        refine rc_bipush mq240 (mvDec_of cd240 rfl) (by decide) ?_
        exact rc_iret mq240 (mvDec_of cd240 rfl) ⟨_, _, rfl, rfl, H⟩
      · replace H := H.2 hc
        refine rc_iconst mq3 (mvDec_of cd3 rfl) (by decide) ?_
        refine rc_goto (t := 15) mq3 (mvDec_of cd3 rfl) rfl ?_
        refine rc_zret mq3 (mvDec_of cd3 rfl) (Or.inr rfl) ?_
        show Rch 72 4 [some (mvR 3)] [mvI 1] (97, g, h) _
        refine rc_ifF (t := 21) mq72 (mvDec_of cd72 rfl) rfl rfl ?_
        refine rc_aload_n mq72 (mvDec_of cd72 rfl) rfl ?_
        refine rc_getR 31 mq72 (mvDec_of cd72 rfl) fl_0_36 mis3 rfl (gr_3_4 hG) (by decide) ?_
        refine rc_getI 0 mq72 (mvDec_of cd72 rfl) fl_0_193 mis31 rfl (by decide) (by decide) ?_
        refine rc_if_ne (t := 21) mq72 (mvDec_of cd72 rfl) rfl (fun hc => ?_) (fun hc => ?_)
        · replace H := H.1 hc
          refine rc_iconst mq72 (mvDec_of cd72 rfl) (by decide) ?_
          refine rc_zret mq72 (mvDec_of cd72 rfl) (Or.inl rfl) ?_
          show Rch 240 16 [some (mvR 3), some (mvI x1)] [mvI 0] (97, g, h) _
          refine rc_ifF (t := 22) mq240 (mvDec_of cd240 rfl) rfl rfl ?_
          refine rc_bipush mq240 (mvDec_of cd240 rfl) (by decide) ?_
          exact rc_iret mq240 (mvDec_of cd240 rfl) ⟨_, _, rfl, rfl, H⟩
        · replace H := H.2 hc
          refine rc_iconst mq72 (mvDec_of cd72 rfl) (by decide) ?_
          refine rc_goto (t := 22) mq72 (mvDec_of cd72 rfl) rfl ?_
          refine rc_zret mq72 (mvDec_of cd72 rfl) (Or.inr rfl) ?_
          show Rch 240 16 [some (mvR 3), some (mvI x1)] [mvI 1] (97, g, h) _
          refine rc_ifT (t := 22) mq240 (mvDec_of cd240 rfl) rfl rfl ?_
          refine rc_aload_n mq240 (mvDec_of cd240 rfl) rfl ?_
          refine rc_getR 41 mq240 (mvDec_of cd240 rfl) fl_0_57 mis3 rfl (gr_3_7 hG) (by decide) ?_
          refine rc_aload_n mq240 (mvDec_of cd240 rfl) rfl ?_
          refine rc_getR (evO sw) mq240 (mvDec_of cd240 rfl) fl_0_19 mis3 rfl (gr_3_1 hG) (evO_ne sw) ?_
          refine rc_aload_n mq240 (mvDec_of cd240 rfl) rfl ?_
          refine rc_getR 31 mq240 (mvDec_of cd240 rfl) fl_0_36 mis3 rfl (gr_3_4 hG) (by decide) ?_
          refine rc_callV [mvR 41, mvR (evO sw), mvR 31] [] [some (mvR 41), some (mvR (evO sw)), some (mvR 31), none, none] mq240 (mvDec_of cd240 rfl) lk_0_237 mq220 (by decide) rfl rfl (Nat.le_of_ble_eq_true rfl) (Nat.le_of_ble_eq_true rfl) (by decide) rfl mis41 rfl (rv_bind H (fun h1 H => ?_))
          refine rc_aload_n mq240 (mvDec_of cd240 rfl) rfl ?_
          refine rc_getR 41 mq240 (mvDec_of cd240 rfl) fl_0_57 mis3 rfl (gr_3_7 hG) (by decide) ?_
          refine rc_iload_n mq240 (mvDec_of cd240 rfl) rfl ?_
          refine rc_callV [mvR 41, mvI x1] [] [some (mvR 41), some (mvI x1)] mq240 (mvDec_of cd240 rfl) lk_0_239 mq103 (by decide) rfl rfl (Nat.le_of_ble_eq_true rfl) (Nat.le_of_ble_eq_true rfl) (by decide) rfl mis41 rfl (ri_bind H (fun r3 h2 H => ?_))
          exact rc_iret mq240 (mvDec_of cd240 rfl) ⟨_, _, rfl, rfl, H⟩
    · replace H := H.2 hc
      refine rc_bipush mq240 (mvDec_of cd240 rfl) (by decide) ?_
      exact rc_iret mq240 (mvDec_of cd240 rfl) ⟨_, _, rfl, rfl, H⟩
abbrev RC_shot (g : Nat → Nat → Nat) (h : Nat → Int → Int) (x1 : Int) (x2 : Int) (K : Int → (Nat → Int → Int) → Prop) : Prop := RI 241 0 [some (mvR 3), some (mvI x1), some (mvI x2)] [] g h K
theorem RC_shot_wp {sw : Bool} {g : Nat → Nat → Nat} {h : Nat → Int → Int} {x1 : Int} {x2 : Int} {K : Int → (Nat → Int → Int) → Prop} (hG : Gok sw g)  (H :
  ((¬ (h 61 0) = (-1) →
    ((x1 < 0 →
      K (-101) h) ∧
    (0 ≤ x1 →
      (((h (evO sw) 0) ≤ x1 →
        K (-101) h) ∧
      (x1 < (h (evO sw) 0) →
        ((x2 < 0 →
          K (-102) h) ∧
        (0 ≤ x2 →
          ((x2 ≤ (h 61 0) →
            SN_take g h (evO sw) x1 x2 (fun h1 =>
              (∀ h2, h2 = mvUpd h1 3 11 (mw ((h1 3 11) + 1)) →
              K (h2 63 1) h2))) ∧
          ((h 61 0) < x2 →
            K (-102) h))))))))) ∧
  ((h 61 0) = (-1) →
    K (-103) h))) : RC_shot g h x1 x2 K := by
  refine rc_aload_n mq241 (mvDec_of cd241 rfl) rfl ?_
  refine rc_getR 61 mq241 (mvDec_of cd241 rfl) fl_0_64 mis3 rfl (gr_3_8 hG) (by decide) ?_
  refine rc_getI 0 mq241 (mvDec_of cd241 rfl) fl_0_248 mis61 rfl (by decide) (by decide) ?_
  refine rc_iconst mq241 (mvDec_of cd241 rfl) (by decide) ?_
  refine rc_icmp_ne (t := 14) mq241 (mvDec_of cd241 rfl) rfl (fun hc => ?_) (fun hc => ?_)
  · replace H := H.1 hc
    refine rc_aload_n mq241 (mvDec_of cd241 rfl) rfl ?_
    refine rc_getR (evO sw) mq241 (mvDec_of cd241 rfl) fl_0_19 mis3 rfl (gr_3_1 hG) (evO_ne sw) ?_
    refine rc_iload_n mq241 (mvDec_of cd241 rfl) rfl ?_
    refine rc_callV [mvR (evO sw), mvI x1] [] [some (mvR (evO sw)), some (mvI x1)] mq241 (mvDec_of cd241 rfl) lk_0_107 mq8 (by decide) rfl rfl (Nat.le_of_ble_eq_true rfl) (Nat.le_of_ble_eq_true rfl) (by decide) rfl (miE0 (evO_id sw)) rfl ?_
    refine rc_iload_n mq8 (mvDec_of cd8 rfl) rfl ?_
    refine rc_if_lt (t := 16) mq8 (mvDec_of cd8 rfl) rfl (fun hc => ?_) (fun hc => ?_)
    · replace H := H.1 hc
      refine rc_iconst mq8 (mvDec_of cd8 rfl) (by decide) ?_
      refine rc_zret mq8 (mvDec_of cd8 rfl) (Or.inl rfl) ?_
      show Rch 241 22 [some (mvR 3), some (mvI x1), some (mvI x2)] [mvI 0] (97, g, h) _
      refine rc_ifF (t := 28) mq241 (mvDec_of cd241 rfl) rfl rfl ?_
      refine rc_bipush mq241 (mvDec_of cd241 rfl) (by decide) ?_
      exact rc_iret mq241 (mvDec_of cd241 rfl) ⟨_, _, rfl, rfl, H⟩
    · replace H := H.2 hc
      refine rc_iload_n mq8 (mvDec_of cd8 rfl) rfl ?_
      refine rc_aload_n mq8 (mvDec_of cd8 rfl) rfl ?_
      refine rc_getI 0 mq8 (mvDec_of cd8 rfl) fl_2_36 (miE0 (evO_id sw)) rfl (by decide) (by decide) ?_
      refine rc_icmp_ge (t := 16) mq8 (mvDec_of cd8 rfl) rfl (fun hc => ?_) (fun hc => ?_)
      · replace H := H.1 hc
        refine rc_iconst mq8 (mvDec_of cd8 rfl) (by decide) ?_
        refine rc_zret mq8 (mvDec_of cd8 rfl) (Or.inl rfl) ?_
        show Rch 241 22 [some (mvR 3), some (mvI x1), some (mvI x2)] [mvI 0] (97, g, h) _
        refine rc_ifF (t := 28) mq241 (mvDec_of cd241 rfl) rfl rfl ?_
        refine rc_bipush mq241 (mvDec_of cd241 rfl) (by decide) ?_
        exact rc_iret mq241 (mvDec_of cd241 rfl) ⟨_, _, rfl, rfl, H⟩
      · replace H := H.2 hc
        refine rc_iconst mq8 (mvDec_of cd8 rfl) (by decide) ?_
        refine rc_goto (t := 17) mq8 (mvDec_of cd8 rfl) rfl ?_
        refine rc_zret mq8 (mvDec_of cd8 rfl) (Or.inr rfl) ?_
        show Rch 241 22 [some (mvR 3), some (mvI x1), some (mvI x2)] [mvI 1] (97, g, h) _
        refine rc_ifT (t := 28) mq241 (mvDec_of cd241 rfl) rfl rfl ?_
        refine rc_iload_n mq241 (mvDec_of cd241 rfl) rfl ?_
        refine rc_if_lt (t := 43) mq241 (mvDec_of cd241 rfl) rfl (fun hc => ?_) (fun hc => ?_)
        · replace H := H.1 hc
          refine rc_bipush mq241 (mvDec_of cd241 rfl) (by decide) ?_
          exact rc_iret mq241 (mvDec_of cd241 rfl) ⟨_, _, rfl, rfl, H⟩
        · replace H := H.2 hc
          refine rc_iload_n mq241 (mvDec_of cd241 rfl) rfl ?_
          refine rc_aload_n mq241 (mvDec_of cd241 rfl) rfl ?_
          refine rc_getR 61 mq241 (mvDec_of cd241 rfl) fl_0_64 mis3 rfl (gr_3_8 hG) (by decide) ?_
          refine rc_getI 0 mq241 (mvDec_of cd241 rfl) fl_0_248 mis61 rfl (by decide) (by decide) ?_
          refine rc_icmp_le (t := 46) mq241 (mvDec_of cd241 rfl) rfl (fun hc => ?_) (fun hc => ?_)
          · replace H := H.1 hc
            refine rc_aload_n mq241 (mvDec_of cd241 rfl) rfl ?_
            refine rc_getR 63 mq241 (mvDec_of cd241 rfl) fl_0_71 mis3 rfl (gr_3_9 hG) (by decide) ?_
            refine rc_aload_n mq241 (mvDec_of cd241 rfl) rfl ?_
            refine rc_getR (evO sw) mq241 (mvDec_of cd241 rfl) fl_0_19 mis3 rfl (gr_3_1 hG) (evO_ne sw) ?_
            refine rc_aload_n mq241 (mvDec_of cd241 rfl) rfl ?_
            refine rc_getR 61 mq241 (mvDec_of cd241 rfl) fl_0_64 mis3 rfl (gr_3_8 hG) (by decide) ?_
            refine rc_iload_n mq241 (mvDec_of cd241 rfl) rfl ?_
            refine rc_iload_n mq241 (mvDec_of cd241 rfl) rfl ?_
            refine rc_callV [mvR 63, mvR (evO sw), mvR 61, mvI x1, mvI x2] [] [some (mvR 63), some (mvR (evO sw)), some (mvR 61), some (mvI x1), some (mvI x2), none] mq241 (mvDec_of cd241 rfl) lk_0_253 mq221 (by decide) rfl rfl (Nat.le_of_ble_eq_true rfl) (Nat.le_of_ble_eq_true rfl) (by decide) rfl mis63 rfl (rv_bind H (fun h1 H => ?_))
            refine rc_aload_n mq241 (mvDec_of cd241 rfl) rfl ?_
            refine rc_dup mq241 (mvDec_of cd241 rfl) rfl ?_
            refine rc_getI 11 mq241 (mvDec_of cd241 rfl) fl_0_257 mis3 rfl (by decide) (by decide) ?_
            refine rc_iconst mq241 (mvDec_of cd241 rfl) (by decide) ?_
            refine rc_iadd mq241 (mvDec_of cd241 rfl) ?_
            refine rc_putI 11 mq241 (mvDec_of cd241 rfl) fl_0_257 mis3 rfl (fun z => absurd z (by decide)) (Or.inl rfl) ?_
            refine rc_heap (fun h2 hh => ?_)
            replace H := H h2 hh
            refine rc_aload_n mq241 (mvDec_of cd241 rfl) rfl ?_
            refine rc_getR 63 mq241 (mvDec_of cd241 rfl) fl_0_71 mis3 rfl (gr_3_9 hG) (by decide) ?_
            refine rc_getI 1 mq241 (mvDec_of cd241 rfl) fl_0_260 mis63 rfl (by decide) (by decide) ?_
            exact rc_iret mq241 (mvDec_of cd241 rfl) ⟨_, _, rfl, rfl, H⟩
          · replace H := H.2 hc
            refine rc_bipush mq241 (mvDec_of cd241 rfl) (by decide) ?_
            exact rc_iret mq241 (mvDec_of cd241 rfl) ⟨_, _, rfl, rfl, H⟩
  · replace H := H.2 hc
    refine rc_bipush mq241 (mvDec_of cd241 rfl) (by decide) ?_
    exact rc_iret mq241 (mvDec_of cd241 rfl) ⟨_, _, rfl, rfl, H⟩
abbrev RC_mixConjunction (g : Nat → Nat → Nat) (h : Nat → Int → Int) (x1 : Int) (K : Int → (Nat → Int → Int) → Prop) : Prop := RJ 242 0 [some (mvR 3), some (mvJ x1), none, none, none] [] g h K
abbrev RC_mixConjunction_68 (g : Nat → Nat → Nat) (h : Nat → Int → Int) (l1 : Int) (l3 : Int) (u4 : Option Int) (K : Int → (Nat → Int → Int) → Prop) : Prop := RJ 242 68 [some (mvR 3), some (mvJ l1), none, some (mvI l3), u4.map mvI] [] g h K
abbrev RC_mixConjunction_82 (g : Nat → Nat → Nat) (h : Nat → Int → Int) (l1 : Int) (l3 : Int) (l4 : Int) (K : Int → (Nat → Int → Int) → Prop) : Prop := RJ 242 82 [some (mvR 3), some (mvJ l1), none, some (mvI l3), some (mvI l4)] [] g h K
abbrev RC_mixConjunction_140 (g : Nat → Nat → Nat) (h : Nat → Int → Int) (l1 : Int) (l3 : Int) (u4 : Option Int) (K : Int → (Nat → Int → Int) → Prop) : Prop := RJ 242 140 [some (mvR 3), some (mvJ l1), none, some (mvI l3), u4.map mvI] [] g h K
theorem RC_mixConjunction_wp {sw : Bool} {g : Nat → Nat → Nat} {h : Nat → Int → Int} {x1 : Int} {K : Int → (Nat → Int → Int) → Prop} (hG : Gok sw g)  (H :
  IV_find g h (evO sw) (fun h1 =>
    LN_build g h1 (evO sw) (fun h2 =>
      (∀ v3, v3 = (mwl ((mwl (31 * x1)) + (h2 33 4))) →
      IV_areStrong g h2 (evO sw) (fun r5 h4 =>
        ((r5 = 0 →
          (∀ v6, v6 = (mwl ((mwl (31 * v3)) + 0)) →
          RC_mixConjunction_68 g h4 v6 0 none K)) ∧
        (¬ r5 = 0 →
          (∀ v7, v7 = (mwl ((mwl (31 * v3)) + 1)) →
          RC_mixConjunction_68 g h4 v7 0 none K)))))))) : RC_mixConjunction g h x1 K := by
  refine rc_aload_n mq242 (mvDec_of cd242 rfl) rfl ?_
  refine rc_getR 36 mq242 (mvDec_of cd242 rfl) fl_0_50 mis3 rfl (gr_3_6 hG) (by decide) ?_
  refine rc_aload_n mq242 (mvDec_of cd242 rfl) rfl ?_
  refine rc_getR (evO sw) mq242 (mvDec_of cd242 rfl) fl_0_19 mis3 rfl (gr_3_1 hG) (evO_ne sw) ?_
  refine rc_aload_n mq242 (mvDec_of cd242 rfl) rfl ?_
  refine rc_getR 31 mq242 (mvDec_of cd242 rfl) fl_0_36 mis3 rfl (gr_3_4 hG) (by decide) ?_
  refine rc_callV [mvR 36, mvR (evO sw), mvR 31] [] [some (mvR 36), some (mvR (evO sw)), some (mvR 31), none, none, none, none] mq242 (mvDec_of cd242 rfl) lk_0_221 mq100 (by decide) rfl rfl (Nat.le_of_ble_eq_true rfl) (Nat.le_of_ble_eq_true rfl) (by decide) rfl mis36 rfl (rv_bind H (fun h1 H => ?_))
  refine rc_aload_n mq242 (mvDec_of cd242 rfl) rfl ?_
  refine rc_getR 41 mq242 (mvDec_of cd242 rfl) fl_0_57 mis3 rfl (gr_3_7 hG) (by decide) ?_
  refine rc_aload_n mq242 (mvDec_of cd242 rfl) rfl ?_
  refine rc_getR (evO sw) mq242 (mvDec_of cd242 rfl) fl_0_19 mis3 rfl (gr_3_1 hG) (evO_ne sw) ?_
  refine rc_aload_n mq242 (mvDec_of cd242 rfl) rfl ?_
  refine rc_getR 31 mq242 (mvDec_of cd242 rfl) fl_0_36 mis3 rfl (gr_3_4 hG) (by decide) ?_
  refine rc_callV [mvR 41, mvR (evO sw), mvR 31] [] [some (mvR 41), some (mvR (evO sw)), some (mvR 31), none, none] mq242 (mvDec_of cd242 rfl) lk_0_237 mq220 (by decide) rfl rfl (Nat.le_of_ble_eq_true rfl) (Nat.le_of_ble_eq_true rfl) (by decide) rfl mis41 rfl (rv_bind H (fun h2 H => ?_))
  refine rc_lload_n mq242 (mvDec_of cd242 rfl) rfl ?_
  refine rc_aload_n mq242 (mvDec_of cd242 rfl) rfl ?_
  refine rc_getR 33 mq242 (mvDec_of cd242 rfl) fl_0_43 mis3 rfl (gr_3_5 hG) (by decide) ?_
  refine rc_callV [mvR 33] [mvJ x1] [some (mvR 33)] mq242 (mvDec_of cd242 rfl) lk_0_218 mq30 (by decide) rfl rfl (Nat.le_of_ble_eq_true rfl) (Nat.le_of_ble_eq_true rfl) (by decide) rfl mis33 rfl ?_
  refine rc_aload_n mq30 (mvDec_of cd30 rfl) rfl ?_
  refine rc_getI 4 mq30 (mvDec_of cd30 rfl) fl_5_27 mis33 rfl (by decide) (by decide) ?_
  refine rc_iret mq30 (mvDec_of cd30 rfl) ?_
  show Rch 242 38 [some (mvR 3), some (mvJ x1), none, none, none] [mvI (h2 33 4), mvJ x1] (97, g, h2) _
  refine rc_callS [mvJ x1, mvI (h2 33 4)] [] [some (mvJ x1), none, some (mvI (h2 33 4))] mq242 (mvDec_of cd242 rfl) lk_0_282 mq2 (by decide) rfl rfl (Nat.le_of_ble_eq_true rfl) (Nat.le_of_ble_eq_true rfl) (by decide) rfl ?_
  refine rc_ldc2 mq2 (mvDec_of cd2 rfl) rfl ?_
  refine rc_lload_n mq2 (mvDec_of cd2 rfl) rfl ?_
  refine rc_lmul mq2 (mvDec_of cd2 rfl) ?_
  refine rc_iload_n mq2 (mvDec_of cd2 rfl) rfl ?_
  refine rc_i2l mq2 (mvDec_of cd2 rfl) ?_
  refine rc_ladd mq2 (mvDec_of cd2 rfl) ?_
  refine rc_lret mq2 (mvDec_of cd2 rfl) ?_
  show Rch 242 41 [some (mvR 3), some (mvJ x1), none, none, none] [mvJ (mwl ((mwl (31 * x1)) + (h2 33 4)))] (97, g, h2) _
  refine rc_topJ (fun v3 hv => ?_)
  replace H := H v3 hv
  refine rc_lstore_n [some (mvR 3), some (mvJ v3), none, none, none] mq242 (mvDec_of cd242 rfl) rfl ?_
  refine rc_lload_n mq242 (mvDec_of cd242 rfl) rfl ?_
  refine rc_aload_n mq242 (mvDec_of cd242 rfl) rfl ?_
  refine rc_getR 36 mq242 (mvDec_of cd242 rfl) fl_0_50 mis3 rfl (gr_3_6 hG) (by decide) ?_
  refine rc_aload_n mq242 (mvDec_of cd242 rfl) rfl ?_
  refine rc_getR (evO sw) mq242 (mvDec_of cd242 rfl) fl_0_19 mis3 rfl (gr_3_1 hG) (evO_ne sw) ?_
  refine rc_callV [mvR 36, mvR (evO sw)] [mvJ v3] [some (mvR 36), some (mvR (evO sw)), none, none] mq242 (mvDec_of cd242 rfl) lk_0_225 mq185 (by decide) rfl rfl (Nat.le_of_ble_eq_true rfl) (Nat.le_of_ble_eq_true rfl) (by decide) rfl mis36 rfl (ri_bind H (fun r5 h4 H => ?_))
  refine rc_if_eq (t := 61) mq242 (mvDec_of cd242 rfl) rfl (fun hc => ?_) (fun hc => ?_)
  · replace H := H.1 hc
    refine rc_iconst mq242 (mvDec_of cd242 rfl) (by decide) ?_
    refine rc_callS [mvJ v3, mvI 0] [] [some (mvJ v3), none, some (mvI 0)] mq242 (mvDec_of cd242 rfl) lk_0_282 mq2 (by decide) rfl rfl (Nat.le_of_ble_eq_true rfl) (Nat.le_of_ble_eq_true rfl) (by decide) rfl ?_
    refine rc_ldc2 mq2 (mvDec_of cd2 rfl) rfl ?_
    refine rc_lload_n mq2 (mvDec_of cd2 rfl) rfl ?_
    refine rc_lmul mq2 (mvDec_of cd2 rfl) ?_
    refine rc_iload_n mq2 (mvDec_of cd2 rfl) rfl ?_
    refine rc_i2l mq2 (mvDec_of cd2 rfl) ?_
    refine rc_ladd mq2 (mvDec_of cd2 rfl) ?_
    refine rc_lret mq2 (mvDec_of cd2 rfl) ?_
    show Rch 242 65 [some (mvR 3), some (mvJ v3), none, none, none] [mvJ (mwl ((mwl (31 * v3)) + 0))] (97, g, h4) _
    refine rc_topJ (fun v6 hv => ?_)
    replace H := H v6 hv
    refine rc_lstore_n [some (mvR 3), some (mvJ v6), none, none, none] mq242 (mvDec_of cd242 rfl) rfl ?_
    refine rc_iconst mq242 (mvDec_of cd242 rfl) (by decide) ?_
    refine rc_istore_n [some (mvR 3), some (mvJ v6), none, some (mvI 0), none] mq242 (mvDec_of cd242 rfl) rfl ?_
    exact H
  · replace H := H.2 hc
    refine rc_iconst mq242 (mvDec_of cd242 rfl) (by decide) ?_
    refine rc_goto (t := 62) mq242 (mvDec_of cd242 rfl) rfl ?_
    refine rc_callS [mvJ v3, mvI 1] [] [some (mvJ v3), none, some (mvI 1)] mq242 (mvDec_of cd242 rfl) lk_0_282 mq2 (by decide) rfl rfl (Nat.le_of_ble_eq_true rfl) (Nat.le_of_ble_eq_true rfl) (by decide) rfl ?_
    refine rc_ldc2 mq2 (mvDec_of cd2 rfl) rfl ?_
    refine rc_lload_n mq2 (mvDec_of cd2 rfl) rfl ?_
    refine rc_lmul mq2 (mvDec_of cd2 rfl) ?_
    refine rc_iload_n mq2 (mvDec_of cd2 rfl) rfl ?_
    refine rc_i2l mq2 (mvDec_of cd2 rfl) ?_
    refine rc_ladd mq2 (mvDec_of cd2 rfl) ?_
    refine rc_lret mq2 (mvDec_of cd2 rfl) ?_
    show Rch 242 65 [some (mvR 3), some (mvJ v3), none, none, none] [mvJ (mwl ((mwl (31 * v3)) + 1))] (97, g, h4) _
    refine rc_topJ (fun v7 hv => ?_)
    replace H := H v7 hv
    refine rc_lstore_n [some (mvR 3), some (mvJ v7), none, none, none] mq242 (mvDec_of cd242 rfl) rfl ?_
    refine rc_iconst mq242 (mvDec_of cd242 rfl) (by decide) ?_
    refine rc_istore_n [some (mvR 3), some (mvJ v7), none, some (mvI 0), none] mq242 (mvDec_of cd242 rfl) rfl ?_
    exact H
theorem RC_mixConjunction_68_wp {sw : Bool} {g : Nat → Nat → Nat} {h : Nat → Int → Int} {l1 : Int} {l3 : Int} {u4 : Option Int} {K : Int → (Nat → Int → Int) → Prop} (hG : Gok sw g)  (H :
  (((h (evO sw) 0) ≤ l3 →
    RC_mixConjunction_140 g h l1 0 u4 K) ∧
  (l3 < (h (evO sw) 0) →
    RC_mixConjunction_82 g h l1 l3 0 K))) : RC_mixConjunction_68 g h l1 l3 u4 K := by
  refine rc_iload_n mq242 (mvDec_of cd242 rfl) rfl ?_
  refine rc_aload_n mq242 (mvDec_of cd242 rfl) rfl ?_
  refine rc_getR (evO sw) mq242 (mvDec_of cd242 rfl) fl_0_19 mis3 rfl (gr_3_1 hG) (evO_ne sw) ?_
  refine rc_getI 0 mq242 (mvDec_of cd242 rfl) fl_0_104 (miE0 (evO_id sw)) rfl (by decide) (by decide) ?_
  refine rc_icmp_ge (t := 138) mq242 (mvDec_of cd242 rfl) rfl (fun hc => ?_) (fun hc => ?_)
  · replace H := H.1 hc
    refine rc_iconst mq242 (mvDec_of cd242 rfl) (by decide) ?_
    refine rc_istore_n [some (mvR 3), some (mvJ l1), none, some (mvI 0), u4.map mvI] mq242 (mvDec_of cd242 rfl) rfl ?_
    exact H
  · replace H := H.2 hc
    refine rc_iconst mq242 (mvDec_of cd242 rfl) (by decide) ?_
    refine rc_istore [some (mvR 3), some (mvJ l1), none, some (mvI l3), some (mvI 0)] mq242 (mvDec_of cd242 rfl) rfl ?_
    exact H
theorem RC_mixConjunction_82_wp {sw : Bool} {g : Nat → Nat → Nat} {h : Nat → Int → Int} {l1 : Int} {l3 : Int} {l4 : Int} {K : Int → (Nat → Int → Int) → Prop} (hG : Gok sw g)  (H :
  (0 ≤ l3 ∧ l3 < 4) ∧
  (((h 37 l3) ≤ l4 →
    RC_mixConjunction_68 g h l1 (mw (l3 + 1)) (some l4) K) ∧
  (l4 < (h 37 l3) →
    (0 ≤ (mw ((mw (l3 * 5)) + l4)) ∧ (mw ((mw (l3 * 5)) + l4)) < 20) ∧
    (∀ v1, v1 = (mwl ((mwl (31 * l1)) + (h 38 (mw ((mw (l3 * 5)) + l4))))) →
    (0 ≤ (mw ((mw (l3 * 5)) + l4)) ∧ (mw ((mw (l3 * 5)) + l4)) < 20) ∧
    (∀ v2, v2 = (mwl ((mwl (31 * v1)) + (h 39 (mw ((mw (l3 * 5)) + l4))))) →
    RC_mixConjunction_82 g h v2 l3 (mw (l4 + 1)) K))))) : RC_mixConjunction_82 g h l1 l3 l4 K := by
  refine rc_iload mq242 (mvDec_of cd242 rfl) rfl ?_
  refine rc_aload_n mq242 (mvDec_of cd242 rfl) rfl ?_
  refine rc_getR 36 mq242 (mvDec_of cd242 rfl) fl_0_50 mis3 rfl (gr_3_6 hG) (by decide) ?_
  refine rc_getR 37 mq242 (mvDec_of cd242 rfl) fl_0_228 mis36 rfl (gr_36_0 hG) (by decide) ?_
  refine rc_iload_n mq242 (mvDec_of cd242 rfl) rfl ?_
  obtain ⟨⟨hb0, hb1⟩, H⟩ := H
  refine rc_iald mq242 (mvDec_of cd242 rfl) mis37 hb0 hb1 ?_
  refine rc_icmp_ge (t := 132) mq242 (mvDec_of cd242 rfl) rfl (fun hc => ?_) (fun hc => ?_)
  · replace H := H.1 hc
    refine rc_iinc [some (mvR 3), some (mvJ l1), none, some (mvI (mw (l3 + 1))), some (mvI l4)] mq242 (mvDec_of cd242 rfl) rfl rfl ?_
    refine rc_goto (t := 68) mq242 (mvDec_of cd242 rfl) rfl ?_
    exact H
  · replace H := H.2 hc
    refine rc_lload_n mq242 (mvDec_of cd242 rfl) rfl ?_
    refine rc_aload_n mq242 (mvDec_of cd242 rfl) rfl ?_
    refine rc_getR 36 mq242 (mvDec_of cd242 rfl) fl_0_50 mis3 rfl (gr_3_6 hG) (by decide) ?_
    refine rc_iload_n mq242 (mvDec_of cd242 rfl) rfl ?_
    refine rc_iload mq242 (mvDec_of cd242 rfl) rfl ?_
    refine rc_callV [mvR 36, mvI l3, mvI l4] [mvJ l1] [some (mvR 36), some (mvI l3), some (mvI l4)] mq242 (mvDec_of cd242 rfl) lk_0_231 mq32 (by decide) rfl rfl (Nat.le_of_ble_eq_true rfl) (Nat.le_of_ble_eq_true rfl) (by decide) rfl mis36 rfl ?_
    refine rc_aload_n mq32 (mvDec_of cd32 rfl) rfl ?_
    refine rc_getR 38 mq32 (mvDec_of cd32 rfl) fl_6_15 mis36 rfl (gr_36_1 hG) (by decide) ?_
    refine rc_iload_n mq32 (mvDec_of cd32 rfl) rfl ?_
    refine rc_iconst mq32 (mvDec_of cd32 rfl) (by decide) ?_
    refine rc_imul mq32 (mvDec_of cd32 rfl) ?_
    refine rc_iload_n mq32 (mvDec_of cd32 rfl) rfl ?_
    refine rc_iadd mq32 (mvDec_of cd32 rfl) ?_
    obtain ⟨⟨hb0, hb1⟩, H⟩ := H
    refine rc_iald mq32 (mvDec_of cd32 rfl) mis38 hb0 hb1 ?_
    refine rc_iret mq32 (mvDec_of cd32 rfl) ?_
    show Rch 242 107 [some (mvR 3), some (mvJ l1), none, some (mvI l3), some (mvI l4)] [mvI (h 38 (mw ((mw (l3 * 5)) + l4))), mvJ l1] (97, g, h) _
    refine rc_callS [mvJ l1, mvI (h 38 (mw ((mw (l3 * 5)) + l4)))] [] [some (mvJ l1), none, some (mvI (h 38 (mw ((mw (l3 * 5)) + l4))))] mq242 (mvDec_of cd242 rfl) lk_0_282 mq2 (by decide) rfl rfl (Nat.le_of_ble_eq_true rfl) (Nat.le_of_ble_eq_true rfl) (by decide) rfl ?_
    refine rc_ldc2 mq2 (mvDec_of cd2 rfl) rfl ?_
    refine rc_lload_n mq2 (mvDec_of cd2 rfl) rfl ?_
    refine rc_lmul mq2 (mvDec_of cd2 rfl) ?_
    refine rc_iload_n mq2 (mvDec_of cd2 rfl) rfl ?_
    refine rc_i2l mq2 (mvDec_of cd2 rfl) ?_
    refine rc_ladd mq2 (mvDec_of cd2 rfl) ?_
    refine rc_lret mq2 (mvDec_of cd2 rfl) ?_
    show Rch 242 110 [some (mvR 3), some (mvJ l1), none, some (mvI l3), some (mvI l4)] [mvJ (mwl ((mwl (31 * l1)) + (h 38 (mw ((mw (l3 * 5)) + l4)))))] (97, g, h) _
    refine rc_topJ (fun v1 hv => ?_)
    replace H := H v1 hv
    refine rc_lstore_n [some (mvR 3), some (mvJ v1), none, some (mvI l3), some (mvI l4)] mq242 (mvDec_of cd242 rfl) rfl ?_
    refine rc_lload_n mq242 (mvDec_of cd242 rfl) rfl ?_
    refine rc_aload_n mq242 (mvDec_of cd242 rfl) rfl ?_
    refine rc_getR 36 mq242 (mvDec_of cd242 rfl) fl_0_50 mis3 rfl (gr_3_6 hG) (by decide) ?_
    refine rc_iload_n mq242 (mvDec_of cd242 rfl) rfl ?_
    refine rc_iload mq242 (mvDec_of cd242 rfl) rfl ?_
    refine rc_callV [mvR 36, mvI l3, mvI l4] [mvJ v1] [some (mvR 36), some (mvI l3), some (mvI l4)] mq242 (mvDec_of cd242 rfl) lk_0_234 mq33 (by decide) rfl rfl (Nat.le_of_ble_eq_true rfl) (Nat.le_of_ble_eq_true rfl) (by decide) rfl mis36 rfl ?_
    refine rc_aload_n mq33 (mvDec_of cd33 rfl) rfl ?_
    refine rc_getR 39 mq33 (mvDec_of cd33 rfl) fl_6_18 mis36 rfl (gr_36_2 hG) (by decide) ?_
    refine rc_iload_n mq33 (mvDec_of cd33 rfl) rfl ?_
    refine rc_iconst mq33 (mvDec_of cd33 rfl) (by decide) ?_
    refine rc_imul mq33 (mvDec_of cd33 rfl) ?_
    refine rc_iload_n mq33 (mvDec_of cd33 rfl) rfl ?_
    refine rc_iadd mq33 (mvDec_of cd33 rfl) ?_
    obtain ⟨⟨hb0, hb1⟩, H⟩ := H
    refine rc_iald mq33 (mvDec_of cd33 rfl) mis39 hb0 hb1 ?_
    refine rc_iret mq33 (mvDec_of cd33 rfl) ?_
    show Rch 242 122 [some (mvR 3), some (mvJ v1), none, some (mvI l3), some (mvI l4)] [mvI (h 39 (mw ((mw (l3 * 5)) + l4))), mvJ v1] (97, g, h) _
    refine rc_callS [mvJ v1, mvI (h 39 (mw ((mw (l3 * 5)) + l4)))] [] [some (mvJ v1), none, some (mvI (h 39 (mw ((mw (l3 * 5)) + l4))))] mq242 (mvDec_of cd242 rfl) lk_0_282 mq2 (by decide) rfl rfl (Nat.le_of_ble_eq_true rfl) (Nat.le_of_ble_eq_true rfl) (by decide) rfl ?_
    refine rc_ldc2 mq2 (mvDec_of cd2 rfl) rfl ?_
    refine rc_lload_n mq2 (mvDec_of cd2 rfl) rfl ?_
    refine rc_lmul mq2 (mvDec_of cd2 rfl) ?_
    refine rc_iload_n mq2 (mvDec_of cd2 rfl) rfl ?_
    refine rc_i2l mq2 (mvDec_of cd2 rfl) ?_
    refine rc_ladd mq2 (mvDec_of cd2 rfl) ?_
    refine rc_lret mq2 (mvDec_of cd2 rfl) ?_
    show Rch 242 125 [some (mvR 3), some (mvJ v1), none, some (mvI l3), some (mvI l4)] [mvJ (mwl ((mwl (31 * v1)) + (h 39 (mw ((mw (l3 * 5)) + l4)))))] (97, g, h) _
    refine rc_topJ (fun v2 hv => ?_)
    replace H := H v2 hv
    refine rc_lstore_n [some (mvR 3), some (mvJ v2), none, some (mvI l3), some (mvI l4)] mq242 (mvDec_of cd242 rfl) rfl ?_
    refine rc_iinc [some (mvR 3), some (mvJ v2), none, some (mvI l3), some (mvI (mw (l4 + 1)))] mq242 (mvDec_of cd242 rfl) rfl rfl ?_
    refine rc_goto (t := 82) mq242 (mvDec_of cd242 rfl) rfl ?_
    exact H
theorem RC_mixConjunction_140_wp {sw : Bool} {g : Nat → Nat → Nat} {h : Nat → Int → Int} {l1 : Int} {l3 : Int} {u4 : Option Int} {K : Int → (Nat → Int → Int) → Prop} (hG : Gok sw g)  (H :
  ((3 < l3 →
    K l1 h) ∧
  (l3 ≤ 3 →
    LN_property g h l3 (fun r2 h1 =>
      (∀ v3, v3 = (mwl ((mwl (31 * l1)) + r2)) →
      RC_mixConjunction_140 g h1 v3 (mw (l3 + 1)) u4 K))))) : RC_mixConjunction_140 g h l1 l3 u4 K := by
  refine rc_iload_n mq242 (mvDec_of cd242 rfl) rfl ?_
  refine rc_iconst mq242 (mvDec_of cd242 rfl) (by decide) ?_
  refine rc_icmp_gt (t := 164) mq242 (mvDec_of cd242 rfl) rfl (fun hc => ?_) (fun hc => ?_)
  · replace H := H.1 hc
    refine rc_lload_n mq242 (mvDec_of cd242 rfl) rfl ?_
    exact rc_lret mq242 (mvDec_of cd242 rfl) ⟨_, _, rfl, rfl, H⟩
  · replace H := H.2 hc
    refine rc_lload_n mq242 (mvDec_of cd242 rfl) rfl ?_
    refine rc_aload_n mq242 (mvDec_of cd242 rfl) rfl ?_
    refine rc_getR 41 mq242 (mvDec_of cd242 rfl) fl_0_57 mis3 rfl (gr_3_7 hG) (by decide) ?_
    refine rc_iload_n mq242 (mvDec_of cd242 rfl) rfl ?_
    refine rc_callV [mvR 41, mvI l3] [mvJ l1] [some (mvR 41), some (mvI l3)] mq242 (mvDec_of cd242 rfl) lk_0_239 mq103 (by decide) rfl rfl (Nat.le_of_ble_eq_true rfl) (Nat.le_of_ble_eq_true rfl) (by decide) rfl mis41 rfl (ri_bind H (fun r2 h1 H => ?_))
    refine rc_callS [mvJ l1, mvI r2] [] [some (mvJ l1), none, some (mvI r2)] mq242 (mvDec_of cd242 rfl) lk_0_282 mq2 (by decide) rfl rfl (Nat.le_of_ble_eq_true rfl) (Nat.le_of_ble_eq_true rfl) (by decide) rfl ?_
    refine rc_ldc2 mq2 (mvDec_of cd2 rfl) rfl ?_
    refine rc_lload_n mq2 (mvDec_of cd2 rfl) rfl ?_
    refine rc_lmul mq2 (mvDec_of cd2 rfl) ?_
    refine rc_iload_n mq2 (mvDec_of cd2 rfl) rfl ?_
    refine rc_i2l mq2 (mvDec_of cd2 rfl) ?_
    refine rc_ladd mq2 (mvDec_of cd2 rfl) ?_
    refine rc_lret mq2 (mvDec_of cd2 rfl) ?_
    show Rch 242 157 [some (mvR 3), some (mvJ l1), none, some (mvI l3), u4.map mvI] [mvJ (mwl ((mwl (31 * l1)) + r2))] (97, g, h1) _
    refine rc_topJ (fun v3 hv => ?_)
    replace H := H v3 hv
    refine rc_lstore_n [some (mvR 3), some (mvJ v3), none, some (mvI l3), u4.map mvI] mq242 (mvDec_of cd242 rfl) rfl ?_
    refine rc_iinc [some (mvR 3), some (mvJ v3), none, some (mvI (mw (l3 + 1))), u4.map mvI] mq242 (mvDec_of cd242 rfl) rfl rfl ?_
    refine rc_goto (t := 140) mq242 (mvDec_of cd242 rfl) rfl ?_
    exact H
abbrev RC_digest (g : Nat → Nat → Nat) (h : Nat → Int → Int)  (K : Int → (Nat → Int → Int) → Prop) : Prop := RJ 252 0 [some (mvR 3), none, none, none] [] g h K
abbrev RC_digest_48 (g : Nat → Nat → Nat) (h : Nat → Int → Int) (l1 : Int) (l3 : Int) (K : Int → (Nat → Int → Int) → Prop) : Prop := RJ 252 48 [some (mvR 3), some (mvJ l1), none, some (mvI l3)] [] g h K
abbrev RC_digest_91 (g : Nat → Nat → Nat) (h : Nat → Int → Int) (l1 : Int) (l3 : Int) (K : Int → (Nat → Int → Int) → Prop) : Prop := RJ 252 91 [some (mvR 3), some (mvJ l1), none, some (mvI l3)] [] g h K
abbrev RC_digest_117 (g : Nat → Nat → Nat) (h : Nat → Int → Int) (l1 : Int) (l3 : Int) (K : Int → (Nat → Int → Int) → Prop) : Prop := RJ 252 117 [some (mvR 3), some (mvJ l1), none, some (mvI l3)] [] g h K
abbrev RC_digest_150 (g : Nat → Nat → Nat) (h : Nat → Int → Int) (l1 : Int) (l3 : Int) (K : Int → (Nat → Int → Int) → Prop) : Prop := RJ 252 150 [some (mvR 3), some (mvJ l1), none, some (mvI l3)] [] g h K
theorem RC_digest_wp {sw : Bool} {g : Nat → Nat → Nat} {h : Nat → Int → Int}  {K : Int → (Nat → Int → Int) → Prop} (hG : Gok sw g)  (H :
  (((h (evO sw) 0) ≤ 0 →
    RC_digest_48 g h 1549 0 K) ∧
  (0 < (h (evO sw) 0) →
    RC_settleSearch g h (fun h1 =>
      RC_mixEvents g h1 1549 (fun r3 h2 =>
        RC_mixCuts g h2 r3 (fun r5 h4 =>
          RC_mixSearch g h4 r5 (fun r7 h6 =>
            (((h6 (evO sw) 0) ≤ 0 →
              RC_digest_48 g h6 r7 0 K) ∧
            (0 < (h6 (evO sw) 0) →
              ((¬ (h6 31 0) = 0 →
                RC_digest_48 g h6 r7 0 K) ∧
              ((h6 31 0) = 0 →
                RC_mixConjunction g h6 r7 (fun r9 h8 =>
                  RC_digest_48 g h8 r9 0 K)))))))))))) : RC_digest g h  K := by
  refine rc_ldc2 mq252 (mvDec_of cd252 rfl) rfl ?_
  refine rc_lstore_n [some (mvR 3), some (mvJ 1549), none, none] mq252 (mvDec_of cd252 rfl) rfl ?_
  refine rc_aload_n mq252 (mvDec_of cd252 rfl) rfl ?_
  refine rc_callV [mvR 3] [] [some (mvR 3)] mq252 (mvDec_of cd252 rfl) lk_0_145 mq3 (by decide) rfl rfl (Nat.le_of_ble_eq_true rfl) (Nat.le_of_ble_eq_true rfl) (by decide) rfl mis3 rfl ?_
  refine rc_aload_n mq3 (mvDec_of cd3 rfl) rfl ?_
  refine rc_getR (evO sw) mq3 (mvDec_of cd3 rfl) fl_0_19 mis3 rfl (gr_3_1 hG) (evO_ne sw) ?_
  refine rc_getI 0 mq3 (mvDec_of cd3 rfl) fl_0_104 (miE0 (evO_id sw)) rfl (by decide) (by decide) ?_
  refine rc_if_le (t := 14) mq3 (mvDec_of cd3 rfl) rfl (fun hc => ?_) (fun hc => ?_)
  · replace H := H.1 hc
    refine rc_iconst mq3 (mvDec_of cd3 rfl) (by decide) ?_
    refine rc_zret mq3 (mvDec_of cd3 rfl) (Or.inl rfl) ?_
    show Rch 252 8 [some (mvR 3), some (mvJ 1549), none, none] [mvI 0] (97, g, h) _
    refine rc_ifT (t := 46) mq252 (mvDec_of cd252 rfl) rfl rfl ?_
    refine rc_iconst mq252 (mvDec_of cd252 rfl) (by decide) ?_
    refine rc_istore_n [some (mvR 3), some (mvJ 1549), none, some (mvI 0)] mq252 (mvDec_of cd252 rfl) rfl ?_
    exact H
  · replace H := H.2 hc
    refine rc_iconst mq3 (mvDec_of cd3 rfl) (by decide) ?_
    refine rc_goto (t := 15) mq3 (mvDec_of cd3 rfl) rfl ?_
    refine rc_zret mq3 (mvDec_of cd3 rfl) (Or.inr rfl) ?_
    show Rch 252 8 [some (mvR 3), some (mvJ 1549), none, none] [mvI 1] (97, g, h) _
    refine rc_ifF (t := 46) mq252 (mvDec_of cd252 rfl) rfl rfl ?_
    refine rc_aload_n mq252 (mvDec_of cd252 rfl) rfl ?_
    refine rc_callV [mvR 3] [] [some (mvR 3)] mq252 (mvDec_of cd252 rfl) lk_0_205 mq219 (by decide) rfl rfl (Nat.le_of_ble_eq_true rfl) (Nat.le_of_ble_eq_true rfl) (by decide) rfl mis3 rfl (rv_bind H (fun h1 H => ?_))
    refine rc_aload_n mq252 (mvDec_of cd252 rfl) rfl ?_
    refine rc_lload_n mq252 (mvDec_of cd252 rfl) rfl ?_
    refine rc_callV [mvR 3, mvJ 1549] [] [some (mvR 3), some (mvJ 1549), none, none, none, none] mq252 (mvDec_of cd252 rfl) lk_0_269 mq146 (by decide) rfl rfl (Nat.le_of_ble_eq_true rfl) (Nat.le_of_ble_eq_true rfl) (by decide) rfl mis3 rfl (rj_bind H (fun r3 h2 H => ?_))
    refine rc_lstore_n [some (mvR 3), some (mvJ r3), none, none] mq252 (mvDec_of cd252 rfl) rfl ?_
    refine rc_aload_n mq252 (mvDec_of cd252 rfl) rfl ?_
    refine rc_lload_n mq252 (mvDec_of cd252 rfl) rfl ?_
    refine rc_callV [mvR 3, mvJ r3] [] [some (mvR 3), some (mvJ r3), none, none, none, none] mq252 (mvDec_of cd252 rfl) lk_0_273 mq206 (by decide) rfl rfl (Nat.le_of_ble_eq_true rfl) (Nat.le_of_ble_eq_true rfl) (by decide) rfl mis3 rfl (rj_bind H (fun r5 h4 H => ?_))
    refine rc_lstore_n [some (mvR 3), some (mvJ r5), none, none] mq252 (mvDec_of cd252 rfl) rfl ?_
    refine rc_aload_n mq252 (mvDec_of cd252 rfl) rfl ?_
    refine rc_lload_n mq252 (mvDec_of cd252 rfl) rfl ?_
    refine rc_callV [mvR 3, mvJ r5] [] [some (mvR 3), some (mvJ r5), none, none] mq252 (mvDec_of cd252 rfl) lk_0_276 mq71 (by decide) rfl rfl (Nat.le_of_ble_eq_true rfl) (Nat.le_of_ble_eq_true rfl) (by decide) rfl mis3 rfl (rj_bind H (fun r7 h6 H => ?_))
    refine rc_lstore_n [some (mvR 3), some (mvJ r7), none, none] mq252 (mvDec_of cd252 rfl) rfl ?_
    refine rc_aload_n mq252 (mvDec_of cd252 rfl) rfl ?_
    refine rc_callV [mvR 3] [] [some (mvR 3)] mq252 (mvDec_of cd252 rfl) lk_0_215 mq72 (by decide) rfl rfl (Nat.le_of_ble_eq_true rfl) (Nat.le_of_ble_eq_true rfl) (by decide) rfl mis3 rfl ?_
    refine rc_aload_n mq72 (mvDec_of cd72 rfl) rfl ?_
    refine rc_callV [mvR 3] [] [some (mvR 3)] mq72 (mvDec_of cd72 rfl) lk_0_145 mq3 (by decide) rfl rfl (Nat.le_of_ble_eq_true rfl) (Nat.le_of_ble_eq_true rfl) (by decide) rfl mis3 rfl ?_
    refine rc_aload_n mq3 (mvDec_of cd3 rfl) rfl ?_
    refine rc_getR (evO sw) mq3 (mvDec_of cd3 rfl) fl_0_19 mis3 rfl (gr_3_1 hG) (evO_ne sw) ?_
    refine rc_getI 0 mq3 (mvDec_of cd3 rfl) fl_0_104 (miE0 (evO_id sw)) rfl (by decide) (by decide) ?_
    refine rc_if_le (t := 14) mq3 (mvDec_of cd3 rfl) rfl (fun hc => ?_) (fun hc => ?_)
    · replace H := H.1 hc
      refine rc_iconst mq3 (mvDec_of cd3 rfl) (by decide) ?_
      refine rc_zret mq3 (mvDec_of cd3 rfl) (Or.inl rfl) ?_
      show Rch 72 4 [some (mvR 3)] [mvI 0] (97, g, h6) _
      refine rc_ifT (t := 21) mq72 (mvDec_of cd72 rfl) rfl rfl ?_
      refine rc_iconst mq72 (mvDec_of cd72 rfl) (by decide) ?_
      refine rc_zret mq72 (mvDec_of cd72 rfl) (Or.inl rfl) ?_
      show Rch 252 37 [some (mvR 3), some (mvJ r7), none, none] [mvI 0] (97, g, h6) _
      refine rc_ifT (t := 46) mq252 (mvDec_of cd252 rfl) rfl rfl ?_
      refine rc_iconst mq252 (mvDec_of cd252 rfl) (by decide) ?_
      refine rc_istore_n [some (mvR 3), some (mvJ r7), none, some (mvI 0)] mq252 (mvDec_of cd252 rfl) rfl ?_
      exact H
    · replace H := H.2 hc
      refine rc_iconst mq3 (mvDec_of cd3 rfl) (by decide) ?_
      refine rc_goto (t := 15) mq3 (mvDec_of cd3 rfl) rfl ?_
      refine rc_zret mq3 (mvDec_of cd3 rfl) (Or.inr rfl) ?_
      show Rch 72 4 [some (mvR 3)] [mvI 1] (97, g, h6) _
      refine rc_ifF (t := 21) mq72 (mvDec_of cd72 rfl) rfl rfl ?_
      refine rc_aload_n mq72 (mvDec_of cd72 rfl) rfl ?_
      refine rc_getR 31 mq72 (mvDec_of cd72 rfl) fl_0_36 mis3 rfl (gr_3_4 hG) (by decide) ?_
      refine rc_getI 0 mq72 (mvDec_of cd72 rfl) fl_0_193 mis31 rfl (by decide) (by decide) ?_
      refine rc_if_ne (t := 21) mq72 (mvDec_of cd72 rfl) rfl (fun hc => ?_) (fun hc => ?_)
      · replace H := H.1 hc
        refine rc_iconst mq72 (mvDec_of cd72 rfl) (by decide) ?_
        refine rc_zret mq72 (mvDec_of cd72 rfl) (Or.inl rfl) ?_
        show Rch 252 37 [some (mvR 3), some (mvJ r7), none, none] [mvI 0] (97, g, h6) _
        refine rc_ifT (t := 46) mq252 (mvDec_of cd252 rfl) rfl rfl ?_
        refine rc_iconst mq252 (mvDec_of cd252 rfl) (by decide) ?_
        refine rc_istore_n [some (mvR 3), some (mvJ r7), none, some (mvI 0)] mq252 (mvDec_of cd252 rfl) rfl ?_
        exact H
      · replace H := H.2 hc
        refine rc_iconst mq72 (mvDec_of cd72 rfl) (by decide) ?_
        refine rc_goto (t := 22) mq72 (mvDec_of cd72 rfl) rfl ?_
        refine rc_zret mq72 (mvDec_of cd72 rfl) (Or.inr rfl) ?_
        show Rch 252 37 [some (mvR 3), some (mvJ r7), none, none] [mvI 1] (97, g, h6) _
        refine rc_ifF (t := 46) mq252 (mvDec_of cd252 rfl) rfl rfl ?_
        refine rc_aload_n mq252 (mvDec_of cd252 rfl) rfl ?_
        refine rc_lload_n mq252 (mvDec_of cd252 rfl) rfl ?_
        refine rc_callV [mvR 3, mvJ r7] [] [some (mvR 3), some (mvJ r7), none, none, none] mq252 (mvDec_of cd252 rfl) lk_0_279 mq242 (by decide) rfl rfl (Nat.le_of_ble_eq_true rfl) (Nat.le_of_ble_eq_true rfl) (by decide) rfl mis3 rfl (rj_bind H (fun r9 h8 H => ?_))
        refine rc_lstore_n [some (mvR 3), some (mvJ r9), none, none] mq252 (mvDec_of cd252 rfl) rfl ?_
        refine rc_iconst mq252 (mvDec_of cd252 rfl) (by decide) ?_
        refine rc_istore_n [some (mvR 3), some (mvJ r9), none, some (mvI 0)] mq252 (mvDec_of cd252 rfl) rfl ?_
        exact H
theorem RC_digest_48_wp {sw : Bool} {g : Nat → Nat → Nat} {h : Nat → Int → Int} {l1 : Int} {l3 : Int} {K : Int → (Nat → Int → Int) → Prop} (hG : Gok sw g)  (H :
  (((h 61 0) ≤ l3 →
    (((h 63 0) = 0 →
      RC_digest_117 g h l1 0 K) ∧
    (¬ (h 63 0) = 0 →
      RC_digest_91 g h l1 0 K))) ∧
  (l3 < (h 61 0) →
    (0 ≤ l3 ∧ l3 < 16) ∧
    (∀ v1, v1 = (mwl ((mwl (31 * l1)) + (h 62 l3))) →
    RC_digest_48 g h v1 (mw (l3 + 1)) K)))) : RC_digest_48 g h l1 l3 K := by
  refine rc_iload_n mq252 (mvDec_of cd252 rfl) rfl ?_
  refine rc_aload_n mq252 (mvDec_of cd252 rfl) rfl ?_
  refine rc_getR 61 mq252 (mvDec_of cd252 rfl) fl_0_64 mis3 rfl (gr_3_8 hG) (by decide) ?_
  refine rc_getI 0 mq252 (mvDec_of cd252 rfl) fl_0_248 mis61 rfl (by decide) (by decide) ?_
  refine rc_icmp_ge (t := 79) mq252 (mvDec_of cd252 rfl) rfl (fun hc => ?_) (fun hc => ?_)
  · replace H := H.1 hc
    refine rc_aload_n mq252 (mvDec_of cd252 rfl) rfl ?_
    refine rc_getR 63 mq252 (mvDec_of cd252 rfl) fl_0_71 mis3 rfl (gr_3_9 hG) (by decide) ?_
    refine rc_getI 0 mq252 (mvDec_of cd252 rfl) fl_0_240 mis63 rfl (by decide) (by decide) ?_
    refine rc_if_eq (t := 115) mq252 (mvDec_of cd252 rfl) rfl (fun hc => ?_) (fun hc => ?_)
    · replace H := H.1 hc
      refine rc_iconst mq252 (mvDec_of cd252 rfl) (by decide) ?_
      refine rc_istore_n [some (mvR 3), some (mvJ l1), none, some (mvI 0)] mq252 (mvDec_of cd252 rfl) rfl ?_
      exact H
    · replace H := H.2 hc
      refine rc_iconst mq252 (mvDec_of cd252 rfl) (by decide) ?_
      refine rc_istore_n [some (mvR 3), some (mvJ l1), none, some (mvI 0)] mq252 (mvDec_of cd252 rfl) rfl ?_
      exact H
  · replace H := H.2 hc
    refine rc_lload_n mq252 (mvDec_of cd252 rfl) rfl ?_
    refine rc_aload_n mq252 (mvDec_of cd252 rfl) rfl ?_
    refine rc_getR 61 mq252 (mvDec_of cd252 rfl) fl_0_64 mis3 rfl (gr_3_8 hG) (by decide) ?_
    refine rc_getR 62 mq252 (mvDec_of cd252 rfl) fl_0_251 mis61 rfl (gr_61_1 hG) (by decide) ?_
    refine rc_iload_n mq252 (mvDec_of cd252 rfl) rfl ?_
    obtain ⟨⟨hb0, hb1⟩, H⟩ := H
    refine rc_iald mq252 (mvDec_of cd252 rfl) mis62 hb0 hb1 ?_
    refine rc_callS [mvJ l1, mvI (h 62 l3)] [] [some (mvJ l1), none, some (mvI (h 62 l3))] mq252 (mvDec_of cd252 rfl) lk_0_282 mq2 (by decide) rfl rfl (Nat.le_of_ble_eq_true rfl) (Nat.le_of_ble_eq_true rfl) (by decide) rfl ?_
    refine rc_ldc2 mq2 (mvDec_of cd2 rfl) rfl ?_
    refine rc_lload_n mq2 (mvDec_of cd2 rfl) rfl ?_
    refine rc_lmul mq2 (mvDec_of cd2 rfl) ?_
    refine rc_iload_n mq2 (mvDec_of cd2 rfl) rfl ?_
    refine rc_i2l mq2 (mvDec_of cd2 rfl) ?_
    refine rc_ladd mq2 (mvDec_of cd2 rfl) ?_
    refine rc_lret mq2 (mvDec_of cd2 rfl) ?_
    show Rch 252 72 [some (mvR 3), some (mvJ l1), none, some (mvI l3)] [mvJ (mwl ((mwl (31 * l1)) + (h 62 l3)))] (97, g, h) _
    refine rc_topJ (fun v1 hv => ?_)
    replace H := H v1 hv
    refine rc_lstore_n [some (mvR 3), some (mvJ v1), none, some (mvI l3)] mq252 (mvDec_of cd252 rfl) rfl ?_
    refine rc_iinc [some (mvR 3), some (mvJ v1), none, some (mvI (mw (l3 + 1)))] mq252 (mvDec_of cd252 rfl) rfl rfl ?_
    refine rc_goto (t := 48) mq252 (mvDec_of cd252 rfl) rfl ?_
    exact H
theorem RC_digest_91_wp {sw : Bool} {g : Nat → Nat → Nat} {h : Nat → Int → Int} {l1 : Int} {l3 : Int} {K : Int → (Nat → Int → Int) → Prop} (hG : Gok sw g)  (H :
  ((2 < l3 →
    RC_digest_117 g h l1 0 K) ∧
  (l3 ≤ 2 →
    ((¬ l3 = 0 →
      ((¬ l3 = 1 →
        (∀ v1, v1 = (mwl ((mwl (31 * l1)) + (h 63 3))) →
        RC_digest_91 g h v1 (mw (l3 + 1)) K)) ∧
      (l3 = 1 →
        (∀ v2, v2 = (mwl ((mwl (31 * l1)) + (h 63 2))) →
        RC_digest_91 g h v2 (mw (l3 + 1)) K)))) ∧
    (l3 = 0 →
      (∀ v3, v3 = (mwl ((mwl (31 * l1)) + (h 63 1))) →
      RC_digest_91 g h v3 (mw (l3 + 1)) K)))))) : RC_digest_91 g h l1 l3 K := by
  refine rc_iload_n mq252 (mvDec_of cd252 rfl) rfl ?_
  refine rc_iconst mq252 (mvDec_of cd252 rfl) (by decide) ?_
  refine rc_icmp_gt (t := 115) mq252 (mvDec_of cd252 rfl) rfl (fun hc => ?_) (fun hc => ?_)
  · replace H := H.1 hc
    refine rc_iconst mq252 (mvDec_of cd252 rfl) (by decide) ?_
    refine rc_istore_n [some (mvR 3), some (mvJ l1), none, some (mvI 0)] mq252 (mvDec_of cd252 rfl) rfl ?_
    exact H
  · replace H := H.2 hc
    refine rc_lload_n mq252 (mvDec_of cd252 rfl) rfl ?_
    refine rc_aload_n mq252 (mvDec_of cd252 rfl) rfl ?_
    refine rc_getR 63 mq252 (mvDec_of cd252 rfl) fl_0_71 mis3 rfl (gr_3_9 hG) (by decide) ?_
    refine rc_iload_n mq252 (mvDec_of cd252 rfl) rfl ?_
    refine rc_callV [mvR 63, mvI l3] [mvJ l1] [some (mvR 63), some (mvI l3)] mq252 (mvDec_of cd252 rfl) lk_0_263 mq37 (by decide) rfl rfl (Nat.le_of_ble_eq_true rfl) (Nat.le_of_ble_eq_true rfl) (by decide) rfl mis63 rfl ?_
    refine rc_iload_n mq37 (mvDec_of cd37 rfl) rfl ?_
    refine rc_if_ne (t := 9) mq37 (mvDec_of cd37 rfl) rfl (fun hc => ?_) (fun hc => ?_)
    · replace H := H.1 hc
      refine rc_iload_n mq37 (mvDec_of cd37 rfl) rfl ?_
      refine rc_iconst mq37 (mvDec_of cd37 rfl) (by decide) ?_
      refine rc_icmp_ne (t := 21) mq37 (mvDec_of cd37 rfl) rfl (fun hc => ?_) (fun hc => ?_)
      · replace H := H.1 hc
        refine rc_aload_n mq37 (mvDec_of cd37 rfl) rfl ?_
        refine rc_getI 3 mq37 (mvDec_of cd37 rfl) fl_9_68 mis63 rfl (by decide) (by decide) ?_
        refine rc_iret mq37 (mvDec_of cd37 rfl) ?_
        show Rch 252 105 [some (mvR 3), some (mvJ l1), none, some (mvI l3)] [mvI (h 63 3), mvJ l1] (97, g, h) _
        refine rc_callS [mvJ l1, mvI (h 63 3)] [] [some (mvJ l1), none, some (mvI (h 63 3))] mq252 (mvDec_of cd252 rfl) lk_0_282 mq2 (by decide) rfl rfl (Nat.le_of_ble_eq_true rfl) (Nat.le_of_ble_eq_true rfl) (by decide) rfl ?_
        refine rc_ldc2 mq2 (mvDec_of cd2 rfl) rfl ?_
        refine rc_lload_n mq2 (mvDec_of cd2 rfl) rfl ?_
        refine rc_lmul mq2 (mvDec_of cd2 rfl) ?_
        refine rc_iload_n mq2 (mvDec_of cd2 rfl) rfl ?_
        refine rc_i2l mq2 (mvDec_of cd2 rfl) ?_
        refine rc_ladd mq2 (mvDec_of cd2 rfl) ?_
        refine rc_lret mq2 (mvDec_of cd2 rfl) ?_
        show Rch 252 108 [some (mvR 3), some (mvJ l1), none, some (mvI l3)] [mvJ (mwl ((mwl (31 * l1)) + (h 63 3)))] (97, g, h) _
        refine rc_topJ (fun v1 hv => ?_)
        replace H := H v1 hv
        refine rc_lstore_n [some (mvR 3), some (mvJ v1), none, some (mvI l3)] mq252 (mvDec_of cd252 rfl) rfl ?_
        refine rc_iinc [some (mvR 3), some (mvJ v1), none, some (mvI (mw (l3 + 1)))] mq252 (mvDec_of cd252 rfl) rfl rfl ?_
        refine rc_goto (t := 91) mq252 (mvDec_of cd252 rfl) rfl ?_
        exact H
      · replace H := H.2 hc
        refine rc_aload_n mq37 (mvDec_of cd37 rfl) rfl ?_
        refine rc_getI 2 mq37 (mvDec_of cd37 rfl) fl_9_65 mis63 rfl (by decide) (by decide) ?_
        refine rc_goto (t := 25) mq37 (mvDec_of cd37 rfl) rfl ?_
        refine rc_iret mq37 (mvDec_of cd37 rfl) ?_
        show Rch 252 105 [some (mvR 3), some (mvJ l1), none, some (mvI l3)] [mvI (h 63 2), mvJ l1] (97, g, h) _
        refine rc_callS [mvJ l1, mvI (h 63 2)] [] [some (mvJ l1), none, some (mvI (h 63 2))] mq252 (mvDec_of cd252 rfl) lk_0_282 mq2 (by decide) rfl rfl (Nat.le_of_ble_eq_true rfl) (Nat.le_of_ble_eq_true rfl) (by decide) rfl ?_
        refine rc_ldc2 mq2 (mvDec_of cd2 rfl) rfl ?_
        refine rc_lload_n mq2 (mvDec_of cd2 rfl) rfl ?_
        refine rc_lmul mq2 (mvDec_of cd2 rfl) ?_
        refine rc_iload_n mq2 (mvDec_of cd2 rfl) rfl ?_
        refine rc_i2l mq2 (mvDec_of cd2 rfl) ?_
        refine rc_ladd mq2 (mvDec_of cd2 rfl) ?_
        refine rc_lret mq2 (mvDec_of cd2 rfl) ?_
        show Rch 252 108 [some (mvR 3), some (mvJ l1), none, some (mvI l3)] [mvJ (mwl ((mwl (31 * l1)) + (h 63 2)))] (97, g, h) _
        refine rc_topJ (fun v2 hv => ?_)
        replace H := H v2 hv
        refine rc_lstore_n [some (mvR 3), some (mvJ v2), none, some (mvI l3)] mq252 (mvDec_of cd252 rfl) rfl ?_
        refine rc_iinc [some (mvR 3), some (mvJ v2), none, some (mvI (mw (l3 + 1)))] mq252 (mvDec_of cd252 rfl) rfl rfl ?_
        refine rc_goto (t := 91) mq252 (mvDec_of cd252 rfl) rfl ?_
        exact H
    · replace H := H.2 hc
      refine rc_aload_n mq37 (mvDec_of cd37 rfl) rfl ?_
      refine rc_getI 1 mq37 (mvDec_of cd37 rfl) fl_9_50 mis63 rfl (by decide) (by decide) ?_
      refine rc_iret mq37 (mvDec_of cd37 rfl) ?_
      show Rch 252 105 [some (mvR 3), some (mvJ l1), none, some (mvI l3)] [mvI (h 63 1), mvJ l1] (97, g, h) _
      refine rc_callS [mvJ l1, mvI (h 63 1)] [] [some (mvJ l1), none, some (mvI (h 63 1))] mq252 (mvDec_of cd252 rfl) lk_0_282 mq2 (by decide) rfl rfl (Nat.le_of_ble_eq_true rfl) (Nat.le_of_ble_eq_true rfl) (by decide) rfl ?_
      refine rc_ldc2 mq2 (mvDec_of cd2 rfl) rfl ?_
      refine rc_lload_n mq2 (mvDec_of cd2 rfl) rfl ?_
      refine rc_lmul mq2 (mvDec_of cd2 rfl) ?_
      refine rc_iload_n mq2 (mvDec_of cd2 rfl) rfl ?_
      refine rc_i2l mq2 (mvDec_of cd2 rfl) ?_
      refine rc_ladd mq2 (mvDec_of cd2 rfl) ?_
      refine rc_lret mq2 (mvDec_of cd2 rfl) ?_
      show Rch 252 108 [some (mvR 3), some (mvJ l1), none, some (mvI l3)] [mvJ (mwl ((mwl (31 * l1)) + (h 63 1)))] (97, g, h) _
      refine rc_topJ (fun v3 hv => ?_)
      replace H := H v3 hv
      refine rc_lstore_n [some (mvR 3), some (mvJ v3), none, some (mvI l3)] mq252 (mvDec_of cd252 rfl) rfl ?_
      refine rc_iinc [some (mvR 3), some (mvJ v3), none, some (mvI (mw (l3 + 1)))] mq252 (mvDec_of cd252 rfl) rfl rfl ?_
      refine rc_goto (t := 91) mq252 (mvDec_of cd252 rfl) rfl ?_
      exact H
theorem RC_digest_117_wp {sw : Bool} {g : Nat → Nat → Nat} {h : Nat → Int → Int} {l1 : Int} {l3 : Int} {K : Int → (Nat → Int → Int) → Prop} (hG : Gok sw g)  (H :
  (((h 4 1) ≤ l3 →
    RC_digest_150 g h l1 0 K) ∧
  (l3 < (h 4 1) →
    (0 ≤ l3 ∧ l3 < 36) ∧
    (∀ v1, v1 = (mwl ((mwl (31 * l1)) + (h 5 l3))) →
    RC_digest_117 g h v1 (mw (l3 + 1)) K)))) : RC_digest_117 g h l1 l3 K := by
  refine rc_iload_n mq252 (mvDec_of cd252 rfl) rfl ?_
  refine rc_aload_n mq252 (mvDec_of cd252 rfl) rfl ?_
  refine rc_getR 4 mq252 (mvDec_of cd252 rfl) fl_0_12 mis3 rfl (gr_3_0 hG) (by decide) ?_
  refine rc_getI 1 mq252 (mvDec_of cd252 rfl) fl_0_75 mis4 rfl (by decide) (by decide) ?_
  refine rc_icmp_ge (t := 148) mq252 (mvDec_of cd252 rfl) rfl (fun hc => ?_) (fun hc => ?_)
  · replace H := H.1 hc
    refine rc_iconst mq252 (mvDec_of cd252 rfl) (by decide) ?_
    refine rc_istore_n [some (mvR 3), some (mvJ l1), none, some (mvI 0)] mq252 (mvDec_of cd252 rfl) rfl ?_
    exact H
  · replace H := H.2 hc
    refine rc_lload_n mq252 (mvDec_of cd252 rfl) rfl ?_
    refine rc_aload_n mq252 (mvDec_of cd252 rfl) rfl ?_
    refine rc_getR 4 mq252 (mvDec_of cd252 rfl) fl_0_12 mis3 rfl (gr_3_0 hG) (by decide) ?_
    refine rc_getR 5 mq252 (mvDec_of cd252 rfl) fl_0_286 mis4 rfl (gr_4_0 hG) (by decide) ?_
    refine rc_iload_n mq252 (mvDec_of cd252 rfl) rfl ?_
    obtain ⟨⟨hb0, hb1⟩, H⟩ := H
    refine rc_iald mq252 (mvDec_of cd252 rfl) mis5 hb0 hb1 ?_
    refine rc_callS [mvJ l1, mvI (h 5 l3)] [] [some (mvJ l1), none, some (mvI (h 5 l3))] mq252 (mvDec_of cd252 rfl) lk_0_282 mq2 (by decide) rfl rfl (Nat.le_of_ble_eq_true rfl) (Nat.le_of_ble_eq_true rfl) (by decide) rfl ?_
    refine rc_ldc2 mq2 (mvDec_of cd2 rfl) rfl ?_
    refine rc_lload_n mq2 (mvDec_of cd2 rfl) rfl ?_
    refine rc_lmul mq2 (mvDec_of cd2 rfl) ?_
    refine rc_iload_n mq2 (mvDec_of cd2 rfl) rfl ?_
    refine rc_i2l mq2 (mvDec_of cd2 rfl) ?_
    refine rc_ladd mq2 (mvDec_of cd2 rfl) ?_
    refine rc_lret mq2 (mvDec_of cd2 rfl) ?_
    show Rch 252 141 [some (mvR 3), some (mvJ l1), none, some (mvI l3)] [mvJ (mwl ((mwl (31 * l1)) + (h 5 l3)))] (97, g, h) _
    refine rc_topJ (fun v1 hv => ?_)
    replace H := H v1 hv
    refine rc_lstore_n [some (mvR 3), some (mvJ v1), none, some (mvI l3)] mq252 (mvDec_of cd252 rfl) rfl ?_
    refine rc_iinc [some (mvR 3), some (mvJ v1), none, some (mvI (mw (l3 + 1)))] mq252 (mvDec_of cd252 rfl) rfl rfl ?_
    refine rc_goto (t := 117) mq252 (mvDec_of cd252 rfl) rfl ?_
    exact H
theorem RC_digest_150_wp {sw : Bool} {g : Nat → Nat → Nat} {h : Nat → Int → Int} {l1 : Int} {l3 : Int} {K : Int → (Nat → Int → Int) → Prop} (hG : Gok sw g)  (H :
  ((7 < l3 →
    K l1 h) ∧
  (l3 ≤ 7 →
    RC_count g h l3 (fun r2 h1 =>
      (∀ v3, v3 = (mwl ((mwl (31 * l1)) + r2)) →
      RC_digest_150 g h1 v3 (mw (l3 + 1)) K))))) : RC_digest_150 g h l1 l3 K := by
  refine rc_iload_n mq252 (mvDec_of cd252 rfl) rfl ?_
  refine rc_bipush mq252 (mvDec_of cd252 rfl) (by decide) ?_
  refine rc_icmp_gt (t := 172) mq252 (mvDec_of cd252 rfl) rfl (fun hc => ?_) (fun hc => ?_)
  · replace H := H.1 hc
    refine rc_lload_n mq252 (mvDec_of cd252 rfl) rfl ?_
    exact rc_lret mq252 (mvDec_of cd252 rfl) ⟨_, _, rfl, rfl, H⟩
  · replace H := H.2 hc
    refine rc_lload_n mq252 (mvDec_of cd252 rfl) rfl ?_
    refine rc_aload_n mq252 (mvDec_of cd252 rfl) rfl ?_
    refine rc_iload_n mq252 (mvDec_of cd252 rfl) rfl ?_
    refine rc_callV [mvR 3, mvI l3] [mvJ l1] [some (mvR 3), some (mvI l3)] mq252 (mvDec_of cd252 rfl) lk_0_289 mq70 (by decide) rfl rfl (Nat.le_of_ble_eq_true rfl) (Nat.le_of_ble_eq_true rfl) (by decide) rfl mis3 rfl (ri_bind H (fun r2 h1 H => ?_))
    refine rc_callS [mvJ l1, mvI r2] [] [some (mvJ l1), none, some (mvI r2)] mq252 (mvDec_of cd252 rfl) lk_0_282 mq2 (by decide) rfl rfl (Nat.le_of_ble_eq_true rfl) (Nat.le_of_ble_eq_true rfl) (by decide) rfl ?_
    refine rc_ldc2 mq2 (mvDec_of cd2 rfl) rfl ?_
    refine rc_lload_n mq2 (mvDec_of cd2 rfl) rfl ?_
    refine rc_lmul mq2 (mvDec_of cd2 rfl) ?_
    refine rc_iload_n mq2 (mvDec_of cd2 rfl) rfl ?_
    refine rc_i2l mq2 (mvDec_of cd2 rfl) ?_
    refine rc_ladd mq2 (mvDec_of cd2 rfl) ?_
    refine rc_lret mq2 (mvDec_of cd2 rfl) ?_
    show Rch 252 165 [some (mvR 3), some (mvJ l1), none, some (mvI l3)] [mvJ (mwl ((mwl (31 * l1)) + r2))] (97, g, h1) _
    refine rc_topJ (fun v3 hv => ?_)
    replace H := H v3 hv
    refine rc_lstore_n [some (mvR 3), some (mvJ v3), none, some (mvI l3)] mq252 (mvDec_of cd252 rfl) rfl ?_
    refine rc_iinc [some (mvR 3), some (mvJ v3), none, some (mvI (mw (l3 + 1)))] mq252 (mvDec_of cd252 rfl) rfl rfl ?_
    refine rc_goto (t := 150) mq252 (mvDec_of cd252 rfl) rfl ?_
    exact H
