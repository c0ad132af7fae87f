/-! out of the bytecode, by program: what suffices for a method (_wp), for a loop at its head (_place_wp) -/
abbrev PG_countProcesses (g : Nat → Nat → Nat) (h : Nat → Int → Int)  (K : Int → (Nat → Int → Int) → Prop) : Prop := RI 6 0 [some (mvR 4), none, none] [] g h K
abbrev PG_countProcesses_4 (g : Nat → Nat → Nat) (h : Nat → Int → Int) (l1 : Int) (l2 : Int) (K : Int → (Nat → Int → Int) → Prop) : Prop := RI 6 4 [some (mvR 4), some (mvI l1), some (mvI l2)] [] g h K
theorem PG_countProcesses_wp {sw : Bool} {g : Nat → Nat → Nat} {h : Nat → Int → Int}  {K : Int → (Nat → Int → Int) → Prop} (hG : Gok sw g)  (H :
  PG_countProcesses_4 g h 1 0 K) : PG_countProcesses g h  K := by
  refine rc_iconst mq6 (mvDec_of cd6 rfl) (by decide) ?_
  refine rc_istore_n [some (mvR 4), some (mvI 1), none] mq6 (mvDec_of cd6 rfl) rfl ?_
  refine rc_iconst mq6 (mvDec_of cd6 rfl) (by decide) ?_
  refine rc_istore_n [some (mvR 4), some (mvI 1), some (mvI 0)] mq6 (mvDec_of cd6 rfl) rfl ?_
  exact H
theorem PG_countProcesses_4_wp {sw : Bool} {g : Nat → Nat → Nat} {h : Nat → Int → Int} {l1 : Int} {l2 : Int} {K : Int → (Nat → Int → Int) → Prop} (hG : Gok sw g)  (H :
  (((h 4 1) ≤ l2 →
    K l1 h) ∧
  (l2 < (h 4 1) →
    (0 ≤ l2 ∧ l2 < 36) ∧
    ((¬ (h 5 l2) = 59 →
      PG_countProcesses_4 g h l1 (mw (l2 + 1)) K) ∧
    ((h 5 l2) = 59 →
      PG_countProcesses_4 g h (mw (l1 + 1)) (mw (l2 + 1)) K))))) : PG_countProcesses_4 g h l1 l2 K := by
  refine rc_iload_n mq6 (mvDec_of cd6 rfl) rfl ?_
  refine rc_aload_n mq6 (mvDec_of cd6 rfl) rfl ?_
  refine rc_getI 1 mq6 (mvDec_of cd6 rfl) fl_1_15 mis4 rfl (by decide) (by decide) ?_
  refine rc_icmp_ge (t := 32) mq6 (mvDec_of cd6 rfl) rfl (fun hc => ?_) (fun hc => ?_)
  · replace H := H.1 hc
    refine rc_iload_n mq6 (mvDec_of cd6 rfl) rfl ?_
    exact rc_iret mq6 (mvDec_of cd6 rfl) ⟨_, _, rfl, rfl, H⟩
  · replace H := H.2 hc
    refine rc_aload_n mq6 (mvDec_of cd6 rfl) rfl ?_
    refine rc_getR 5 mq6 (mvDec_of cd6 rfl) fl_1_9 mis4 rfl (gr_4_0 hG) (by decide) ?_
    refine rc_iload_n mq6 (mvDec_of cd6 rfl) rfl ?_
    obtain ⟨⟨hb0, hb1⟩, H⟩ := H
    refine rc_iald mq6 (mvDec_of cd6 rfl) mis5 hb0 hb1 ?_
    refine rc_bipush mq6 (mvDec_of cd6 rfl) (by decide) ?_
    refine rc_icmp_ne (t := 26) mq6 (mvDec_of cd6 rfl) rfl (fun hc => ?_) (fun hc => ?_)
    · replace H := H.1 hc
      refine rc_iinc [some (mvR 4), some (mvI l1), some (mvI (mw (l2 + 1)))] mq6 (mvDec_of cd6 rfl) rfl rfl ?_
      refine rc_goto (t := 4) mq6 (mvDec_of cd6 rfl) rfl ?_
      exact H
    · replace H := H.2 hc
      refine rc_iinc [some (mvR 4), some (mvI (mw (l1 + 1))), some (mvI l2)] mq6 (mvDec_of cd6 rfl) rfl rfl ?_
      refine rc_iinc [some (mvR 4), some (mvI (mw (l1 + 1))), some (mvI (mw (l2 + 1)))] mq6 (mvDec_of cd6 rfl) rfl rfl ?_
      refine rc_goto (t := 4) mq6 (mvDec_of cd6 rfl) rfl ?_
      exact H
abbrev PG_isDigit (g : Nat → Nat → Nat) (h : Nat → Int → Int) (x0 : Int) (K : Int → (Nat → Int → Int) → Prop) : Prop := RI 7 0 [some (mvI x0)] [] g h K
theorem PG_isDigit_wp {sw : Bool} {g : Nat → Nat → Nat} {h : Nat → Int → Int} {x0 : Int} {K : Int → (Nat → Int → Int) → Prop} (hG : Gok sw g)  (H :
  ((x0 < 48 →
    K 0 h) ∧
  (48 ≤ x0 →
    ((57 < x0 →
      K 0 h) ∧
    (x0 ≤ 57 →
      K 1 h))))) : PG_isDigit g h x0 K := by
  refine rc_iload_n mq7 (mvDec_of cd7 rfl) rfl ?_
  refine rc_bipush mq7 (mvDec_of cd7 rfl) (by decide) ?_
  refine rc_icmp_lt (t := 16) mq7 (mvDec_of cd7 rfl) rfl (fun hc => ?_) (fun hc => ?_)
  · replace H := H.1 hc
    refine rc_iconst mq7 (mvDec_of cd7 rfl) (by decide) ?_
    exact rc_zret mq7 (mvDec_of cd7 rfl) (Or.inl rfl) ⟨_, _, rfl, rfl, H⟩
  · replace H := H.2 hc
    refine rc_iload_n mq7 (mvDec_of cd7 rfl) rfl ?_
    refine rc_bipush mq7 (mvDec_of cd7 rfl) (by decide) ?_
    refine rc_icmp_gt (t := 16) mq7 (mvDec_of cd7 rfl) rfl (fun hc => ?_) (fun hc => ?_)
    · replace H := H.1 hc
      refine rc_iconst mq7 (mvDec_of cd7 rfl) (by decide) ?_
      exact rc_zret mq7 (mvDec_of cd7 rfl) (Or.inl rfl) ⟨_, _, rfl, rfl, H⟩
    · replace H := H.2 hc
      refine rc_iconst mq7 (mvDec_of cd7 rfl) (by decide) ?_
      refine rc_goto (t := 17) mq7 (mvDec_of cd7 rfl) rfl ?_
      exact rc_zret mq7 (mvDec_of cd7 rfl) (Or.inr rfl) ⟨_, _, rfl, rfl, H⟩
abbrev PG_firstFault (g : Nat → Nat → Nat) (h : Nat → Int → Int)  (K : Int → (Nat → Int → Int) → Prop) : Prop := RI 75 0 [some (mvR 4), none, none, none, none, none, none] [] g h K
abbrev PG_firstFault_12 (g : Nat → Nat → Nat) (h : Nat → Int → Int) (l1 : Int) (l2 : Int) (l3 : Int) (l4 : Int) (l5 : Int) (u6 : Option Int) (K : Int → (Nat → Int → Int) → Prop) : Prop := RI 75 12 [some (mvR 4), some (mvI l1), some (mvI l2), some (mvI l3), some (mvI l4), some (mvI l5), u6.map mvI] [] g h K
theorem PG_firstFault_wp {sw : Bool} {g : Nat → Nat → Nat} {h : Nat → Int → Int}  {K : Int → (Nat → Int → Int) → Prop} (hG : Gok sw g)  (H :
  PG_firstFault_12 g h 1 0 0 0 0 none K) : PG_firstFault g h  K := by
  refine rc_iconst mq75 (mvDec_of cd75 rfl) (by decide) ?_
  refine rc_istore_n [some (mvR 4), some (mvI 1), none, none, none, none, none] mq75 (mvDec_of cd75 rfl) rfl ?_
  refine rc_iconst mq75 (mvDec_of cd75 rfl) (by decide) ?_
  refine rc_istore_n [some (mvR 4), some (mvI 1), some (mvI 0), none, none, none, none] mq75 (mvDec_of cd75 rfl) rfl ?_
  refine rc_iconst mq75 (mvDec_of cd75 rfl) (by decide) ?_
  refine rc_istore_n [some (mvR 4), some (mvI 1), some (mvI 0), some (mvI 0), none, none, none] mq75 (mvDec_of cd75 rfl) rfl ?_
  refine rc_iconst mq75 (mvDec_of cd75 rfl) (by decide) ?_
  refine rc_istore [some (mvR 4), some (mvI 1), some (mvI 0), some (mvI 0), some (mvI 0), none, none] mq75 (mvDec_of cd75 rfl) rfl ?_
  refine rc_iconst mq75 (mvDec_of cd75 rfl) (by decide) ?_
  refine rc_istore [some (mvR 4), some (mvI 1), some (mvI 0), some (mvI 0), some (mvI 0), some (mvI 0), none] mq75 (mvDec_of cd75 rfl) rfl ?_
  exact H
theorem PG_firstFault_12_wp {sw : Bool} {g : Nat → Nat → Nat} {h : Nat → Int → Int} {l1 : Int} {l2 : Int} {l3 : Int} {l4 : Int} {l5 : Int} {u6 : Option Int} {K : Int → (Nat → Int → Int) → Prop} (hG : Gok sw g)  (H :
  (((h 4 1) ≤ l5 →
    K (h 4 1) h) ∧
  (l5 < (h 4 1) →
    (0 ≤ l5 ∧ l5 < 36) ∧
    (∀ v1, v1 = (h 5 l5) →
    ((l4 = 0 →
      ((¬ v1 = 59 →
        PG_isDigit g h v1 (fun r3 h2 =>
          ((¬ r3 = 0 →
            ((l2 = 9 →
              K l5 h2) ∧
            (¬ l2 = 9 →
              ((¬ l3 = 16 →
                PG_isDigit g h2 v1 (fun r5 h4 =>
                  ((¬ r5 = 0 →
                    PG_firstFault_12 g h4 l1 (mw (l2 + 1)) (mw (l3 + 1)) 0 (mw (l5 + 1)) (some v1) K) ∧
                  (r5 = 0 →
                    PG_firstFault_12 g h4 l1 (mw (l2 + 1)) (mw (l3 + 1)) 1 (mw (l5 + 1)) (some v1) K)))) ∧
              (l3 = 16 →
                K l5 h2))))) ∧
          (r3 = 0 →
            ((v1 = 33 →
              ((l2 = 9 →
                K l5 h2) ∧
              (¬ l2 = 9 →
                ((¬ l3 = 16 →
                  PG_isDigit g h2 v1 (fun r7 h6 =>
                    ((¬ r7 = 0 →
                      PG_firstFault_12 g h6 l1 (mw (l2 + 1)) (mw (l3 + 1)) 0 (mw (l5 + 1)) (some v1) K) ∧
                    (r7 = 0 →
                      PG_firstFault_12 g h6 l1 (mw (l2 + 1)) (mw (l3 + 1)) 1 (mw (l5 + 1)) (some v1) K)))) ∧
                (l3 = 16 →
                  K l5 h2))))) ∧
            (¬ v1 = 33 →
              ((v1 = 63 →
                ((l2 = 9 →
                  K l5 h2) ∧
                (¬ l2 = 9 →
                  ((¬ l3 = 16 →
                    PG_isDigit g h2 v1 (fun r9 h8 =>
                      ((¬ r9 = 0 →
                        PG_firstFault_12 g h8 l1 (mw (l2 + 1)) (mw (l3 + 1)) 0 (mw (l5 + 1)) (some v1) K) ∧
                      (r9 = 0 →
                        PG_firstFault_12 g h8 l1 (mw (l2 + 1)) (mw (l3 + 1)) 1 (mw (l5 + 1)) (some v1) K)))) ∧
                  (l3 = 16 →
                    K l5 h2))))) ∧
              (¬ v1 = 63 →
                K l5 h2)))))))) ∧
      (v1 = 59 →
        ((¬ l1 = 4 →
          PG_firstFault_12 g h (mw (l1 + 1)) 0 l3 l4 (mw (l5 + 1)) (some v1) K) ∧
        (l1 = 4 →
          K l5 h))))) ∧
    (¬ l4 = 0 →
      ((v1 < 48 →
        K l5 h) ∧
      (48 ≤ v1 →
        ((v1 ≤ 51 →
          PG_firstFault_12 g h l1 l2 l3 0 (mw (l5 + 1)) (some v1) K) ∧
        (51 < v1 →
          K l5 h)))))))))) : PG_firstFault_12 g h l1 l2 l3 l4 l5 u6 K := by
  refine rc_iload mq75 (mvDec_of cd75 rfl) rfl ?_
  refine rc_aload_n mq75 (mvDec_of cd75 rfl) rfl ?_
  refine rc_getI 1 mq75 (mvDec_of cd75 rfl) fl_1_15 mis4 rfl (by decide) (by decide) ?_
  refine rc_icmp_ge (t := 148) mq75 (mvDec_of cd75 rfl) rfl (fun hc => ?_) (fun hc => ?_)
  · replace H := H.1 hc
    refine rc_aload_n mq75 (mvDec_of cd75 rfl) rfl ?_
    refine rc_getI 1 mq75 (mvDec_of cd75 rfl) fl_1_15 mis4 rfl (by decide) (by decide) ?_
    exact rc_iret mq75 (mvDec_of cd75 rfl) ⟨_, _, rfl, rfl, H⟩
  · replace H := H.2 hc
    refine rc_aload_n mq75 (mvDec_of cd75 rfl) rfl ?_
    refine rc_getR 5 mq75 (mvDec_of cd75 rfl) fl_1_9 mis4 rfl (gr_4_0 hG) (by decide) ?_
    refine rc_iload mq75 (mvDec_of cd75 rfl) rfl ?_
    obtain ⟨⟨hb0, hb1⟩, H⟩ := H
    refine rc_iald mq75 (mvDec_of cd75 rfl) mis5 hb0 hb1 ?_
    refine rc_top (fun v1 hv => ?_)
    replace H := H v1 hv
    refine rc_istore [some (mvR 4), some (mvI l1), some (mvI l2), some (mvI l3), some (mvI l4), some (mvI l5), some (mvI v1)] mq75 (mvDec_of cd75 rfl) rfl ?_
    refine rc_iload mq75 (mvDec_of cd75 rfl) rfl ?_
    refine rc_if_eq (t := 58) mq75 (mvDec_of cd75 rfl) rfl (fun hc => ?_) (fun hc => ?_)
    · replace H := H.1 hc
      refine rc_iload mq75 (mvDec_of cd75 rfl) rfl ?_
      refine rc_bipush mq75 (mvDec_of cd75 rfl) (by decide) ?_
      refine rc_icmp_ne (t := 81) mq75 (mvDec_of cd75 rfl) rfl (fun hc => ?_) (fun hc => ?_)
      · replace H := H.1 hc
        refine rc_iload mq75 (mvDec_of cd75 rfl) rfl ?_
        refine rc_callS [mvI v1] [] [some (mvI v1)] mq75 (mvDec_of cd75 rfl) lk_1_19 mq7 (by decide) rfl rfl (Nat.le_of_ble_eq_true rfl) (Nat.le_of_ble_eq_true rfl) (by decide) rfl (ri_bind H (fun r3 h2 H => ?_))
        refine rc_if_ne (t := 106) mq75 (mvDec_of cd75 rfl) rfl (fun hc => ?_) (fun hc => ?_)
        · replace H := H.1 hc
          refine rc_iload_n mq75 (mvDec_of cd75 rfl) rfl ?_
          refine rc_bipush mq75 (mvDec_of cd75 rfl) (by decide) ?_
          refine rc_icmp_eq (t := 118) mq75 (mvDec_of cd75 rfl) rfl (fun hc => ?_) (fun hc => ?_)
          · replace H := H.1 hc
            refine rc_iload mq75 (mvDec_of cd75 rfl) rfl ?_
            exact rc_iret mq75 (mvDec_of cd75 rfl) ⟨_, _, rfl, rfl, H⟩
          · replace H := H.2 hc
            refine rc_iload_n mq75 (mvDec_of cd75 rfl) rfl ?_
            refine rc_bipush mq75 (mvDec_of cd75 rfl) (by decide) ?_
            refine rc_icmp_ne (t := 121) mq75 (mvDec_of cd75 rfl) rfl (fun hc => ?_) (fun hc => ?_)
            · replace H := H.1 hc
              refine rc_iinc [some (mvR 4), some (mvI l1), some (mvI (mw (l2 + 1))), some (mvI l3), some (mvI l4), some (mvI l5), some (mvI v1)] mq75 (mvDec_of cd75 rfl) rfl rfl ?_
              refine rc_iinc [some (mvR 4), some (mvI l1), some (mvI (mw (l2 + 1))), some (mvI (mw (l3 + 1))), some (mvI l4), some (mvI l5), some (mvI v1)] mq75 (mvDec_of cd75 rfl) rfl rfl ?_
              refine rc_iload mq75 (mvDec_of cd75 rfl) rfl ?_
              refine rc_callS [mvI v1] [] [some (mvI v1)] mq75 (mvDec_of cd75 rfl) lk_1_19 mq7 (by decide) rfl rfl (Nat.le_of_ble_eq_true rfl) (Nat.le_of_ble_eq_true rfl) (by decide) rfl (ri_bind H (fun r5 h4 H => ?_))
              refine rc_if_ne (t := 139) mq75 (mvDec_of cd75 rfl) rfl (fun hc => ?_) (fun hc => ?_)
              · replace H := H.1 hc
                refine rc_iconst mq75 (mvDec_of cd75 rfl) (by decide) ?_
                refine rc_istore [some (mvR 4), some (mvI l1), some (mvI (mw (l2 + 1))), some (mvI (mw (l3 + 1))), some (mvI 0), some (mvI l5), some (mvI v1)] mq75 (mvDec_of cd75 rfl) rfl ?_
                refine rc_iinc [some (mvR 4), some (mvI l1), some (mvI (mw (l2 + 1))), some (mvI (mw (l3 + 1))), some (mvI 0), some (mvI (mw (l5 + 1))), some (mvI v1)] mq75 (mvDec_of cd75 rfl) rfl rfl ?_
                refine rc_goto (t := 12) mq75 (mvDec_of cd75 rfl) rfl ?_
                exact H
              · replace H := H.2 hc
                refine rc_iconst mq75 (mvDec_of cd75 rfl) (by decide) ?_
                refine rc_goto (t := 140) mq75 (mvDec_of cd75 rfl) rfl ?_
                refine rc_istore [some (mvR 4), some (mvI l1), some (mvI (mw (l2 + 1))), some (mvI (mw (l3 + 1))), some (mvI 1), some (mvI l5), some (mvI v1)] mq75 (mvDec_of cd75 rfl) rfl ?_
                refine rc_iinc [some (mvR 4), some (mvI l1), some (mvI (mw (l2 + 1))), some (mvI (mw (l3 + 1))), some (mvI 1), some (mvI (mw (l5 + 1))), some (mvI v1)] mq75 (mvDec_of cd75 rfl) rfl rfl ?_
                refine rc_goto (t := 12) mq75 (mvDec_of cd75 rfl) rfl ?_
                exact H
            · replace H := H.2 hc
              refine rc_iload mq75 (mvDec_of cd75 rfl) rfl ?_
              exact rc_iret mq75 (mvDec_of cd75 rfl) ⟨_, _, rfl, rfl, H⟩
        · replace H := H.2 hc
          refine rc_iload mq75 (mvDec_of cd75 rfl) rfl ?_
          refine rc_bipush mq75 (mvDec_of cd75 rfl) (by decide) ?_
          refine rc_icmp_eq (t := 106) mq75 (mvDec_of cd75 rfl) rfl (fun hc => ?_) (fun hc => ?_)
          · replace H := H.1 hc
            refine rc_iload_n mq75 (mvDec_of cd75 rfl) rfl ?_
            refine rc_bipush mq75 (mvDec_of cd75 rfl) (by decide) ?_
            refine rc_icmp_eq (t := 118) mq75 (mvDec_of cd75 rfl) rfl (fun hc => ?_) (fun hc => ?_)
            · replace H := H.1 hc
              refine rc_iload mq75 (mvDec_of cd75 rfl) rfl ?_
              exact rc_iret mq75 (mvDec_of cd75 rfl) ⟨_, _, rfl, rfl, H⟩
            · replace H := H.2 hc
              refine rc_iload_n mq75 (mvDec_of cd75 rfl) rfl ?_
              refine rc_bipush mq75 (mvDec_of cd75 rfl) (by decide) ?_
              refine rc_icmp_ne (t := 121) mq75 (mvDec_of cd75 rfl) rfl (fun hc => ?_) (fun hc => ?_)
              · replace H := H.1 hc
                refine rc_iinc [some (mvR 4), some (mvI l1), some (mvI (mw (l2 + 1))), some (mvI l3), some (mvI l4), some (mvI l5), some (mvI v1)] mq75 (mvDec_of cd75 rfl) rfl rfl ?_
                refine rc_iinc [some (mvR 4), some (mvI l1), some (mvI (mw (l2 + 1))), some (mvI (mw (l3 + 1))), some (mvI l4), some (mvI l5), some (mvI v1)] mq75 (mvDec_of cd75 rfl) rfl rfl ?_
                refine rc_iload mq75 (mvDec_of cd75 rfl) rfl ?_
                refine rc_callS [mvI v1] [] [some (mvI v1)] mq75 (mvDec_of cd75 rfl) lk_1_19 mq7 (by decide) rfl rfl (Nat.le_of_ble_eq_true rfl) (Nat.le_of_ble_eq_true rfl) (by decide) rfl (ri_bind H (fun r7 h6 H => ?_))
                refine rc_if_ne (t := 139) mq75 (mvDec_of cd75 rfl) rfl (fun hc => ?_) (fun hc => ?_)
                · replace H := H.1 hc
                  refine rc_iconst mq75 (mvDec_of cd75 rfl) (by decide) ?_
                  refine rc_istore [some (mvR 4), some (mvI l1), some (mvI (mw (l2 + 1))), some (mvI (mw (l3 + 1))), some (mvI 0), some (mvI l5), some (mvI v1)] mq75 (mvDec_of cd75 rfl) rfl ?_
                  refine rc_iinc [some (mvR 4), some (mvI l1), some (mvI (mw (l2 + 1))), some (mvI (mw (l3 + 1))), some (mvI 0), some (mvI (mw (l5 + 1))), some (mvI v1)] mq75 (mvDec_of cd75 rfl) rfl rfl ?_
                  refine rc_goto (t := 12) mq75 (mvDec_of cd75 rfl) rfl ?_
                  exact H
                · replace H := H.2 hc
                  refine rc_iconst mq75 (mvDec_of cd75 rfl) (by decide) ?_
                  refine rc_goto (t := 140) mq75 (mvDec_of cd75 rfl) rfl ?_
                  refine rc_istore [some (mvR 4), some (mvI l1), some (mvI (mw (l2 + 1))), some (mvI (mw (l3 + 1))), some (mvI 1), some (mvI l5), some (mvI v1)] mq75 (mvDec_of cd75 rfl) rfl ?_
                  refine rc_iinc [some (mvR 4), some (mvI l1), some (mvI (mw (l2 + 1))), some (mvI (mw (l3 + 1))), some (mvI 1), some (mvI (mw (l5 + 1))), some (mvI v1)] mq75 (mvDec_of cd75 rfl) rfl rfl ?_
                  refine rc_goto (t := 12) mq75 (mvDec_of cd75 rfl) rfl ?_
                  exact H
              · replace H := H.2 hc
                refine rc_iload mq75 (mvDec_of cd75 rfl) rfl ?_
                exact rc_iret mq75 (mvDec_of cd75 rfl) ⟨_, _, rfl, rfl, H⟩
          · replace H := H.2 hc
            refine rc_iload mq75 (mvDec_of cd75 rfl) rfl ?_
            refine rc_bipush mq75 (mvDec_of cd75 rfl) (by decide) ?_
            refine rc_icmp_eq (t := 106) mq75 (mvDec_of cd75 rfl) rfl (fun hc => ?_) (fun hc => ?_)
            · replace H := H.1 hc
              refine rc_iload_n mq75 (mvDec_of cd75 rfl) rfl ?_
              refine rc_bipush mq75 (mvDec_of cd75 rfl) (by decide) ?_
              refine rc_icmp_eq (t := 118) mq75 (mvDec_of cd75 rfl) rfl (fun hc => ?_) (fun hc => ?_)
              · replace H := H.1 hc
                refine rc_iload mq75 (mvDec_of cd75 rfl) rfl ?_
                exact rc_iret mq75 (mvDec_of cd75 rfl) ⟨_, _, rfl, rfl, H⟩
              · replace H := H.2 hc
                refine rc_iload_n mq75 (mvDec_of cd75 rfl) rfl ?_
                refine rc_bipush mq75 (mvDec_of cd75 rfl) (by decide) ?_
                refine rc_icmp_ne (t := 121) mq75 (mvDec_of cd75 rfl) rfl (fun hc => ?_) (fun hc => ?_)
                · replace H := H.1 hc
                  refine rc_iinc [some (mvR 4), some (mvI l1), some (mvI (mw (l2 + 1))), some (mvI l3), some (mvI l4), some (mvI l5), some (mvI v1)] mq75 (mvDec_of cd75 rfl) rfl rfl ?_
                  refine rc_iinc [some (mvR 4), some (mvI l1), some (mvI (mw (l2 + 1))), some (mvI (mw (l3 + 1))), some (mvI l4), some (mvI l5), some (mvI v1)] mq75 (mvDec_of cd75 rfl) rfl rfl ?_
                  refine rc_iload mq75 (mvDec_of cd75 rfl) rfl ?_
                  refine rc_callS [mvI v1] [] [some (mvI v1)] mq75 (mvDec_of cd75 rfl) lk_1_19 mq7 (by decide) rfl rfl (Nat.le_of_ble_eq_true rfl) (Nat.le_of_ble_eq_true rfl) (by decide) rfl (ri_bind H (fun r9 h8 H => ?_))
                  refine rc_if_ne (t := 139) mq75 (mvDec_of cd75 rfl) rfl (fun hc => ?_) (fun hc => ?_)
                  · replace H := H.1 hc
                    refine rc_iconst mq75 (mvDec_of cd75 rfl) (by decide) ?_
                    refine rc_istore [some (mvR 4), some (mvI l1), some (mvI (mw (l2 + 1))), some (mvI (mw (l3 + 1))), some (mvI 0), some (mvI l5), some (mvI v1)] mq75 (mvDec_of cd75 rfl) rfl ?_
                    refine rc_iinc [some (mvR 4), some (mvI l1), some (mvI (mw (l2 + 1))), some (mvI (mw (l3 + 1))), some (mvI 0), some (mvI (mw (l5 + 1))), some (mvI v1)] mq75 (mvDec_of cd75 rfl) rfl rfl ?_
                    refine rc_goto (t := 12) mq75 (mvDec_of cd75 rfl) rfl ?_
                    exact H
                  · replace H := H.2 hc
                    refine rc_iconst mq75 (mvDec_of cd75 rfl) (by decide) ?_
                    refine rc_goto (t := 140) mq75 (mvDec_of cd75 rfl) rfl ?_
                    refine rc_istore [some (mvR 4), some (mvI l1), some (mvI (mw (l2 + 1))), some (mvI (mw (l3 + 1))), some (mvI 1), some (mvI l5), some (mvI v1)] mq75 (mvDec_of cd75 rfl) rfl ?_
                    refine rc_iinc [some (mvR 4), some (mvI l1), some (mvI (mw (l2 + 1))), some (mvI (mw (l3 + 1))), some (mvI 1), some (mvI (mw (l5 + 1))), some (mvI v1)] mq75 (mvDec_of cd75 rfl) rfl rfl ?_
                    refine rc_goto (t := 12) mq75 (mvDec_of cd75 rfl) rfl ?_
                    exact H
                · replace H := H.2 hc
                  refine rc_iload mq75 (mvDec_of cd75 rfl) rfl ?_
                  exact rc_iret mq75 (mvDec_of cd75 rfl) ⟨_, _, rfl, rfl, H⟩
            · replace H := H.2 hc
              refine rc_iload mq75 (mvDec_of cd75 rfl) rfl ?_
              exact rc_iret mq75 (mvDec_of cd75 rfl) ⟨_, _, rfl, rfl, H⟩
      · replace H := H.2 hc
        refine rc_iload_n mq75 (mvDec_of cd75 rfl) rfl ?_
        refine rc_iconst mq75 (mvDec_of cd75 rfl) (by decide) ?_
        refine rc_icmp_ne (t := 73) mq75 (mvDec_of cd75 rfl) rfl (fun hc => ?_) (fun hc => ?_)
        · replace H := H.1 hc
          refine rc_iinc [some (mvR 4), some (mvI (mw (l1 + 1))), some (mvI l2), some (mvI l3), some (mvI l4), some (mvI l5), some (mvI v1)] mq75 (mvDec_of cd75 rfl) rfl rfl ?_
          refine rc_iconst mq75 (mvDec_of cd75 rfl) (by decide) ?_
          refine rc_istore_n [some (mvR 4), some (mvI (mw (l1 + 1))), some (mvI 0), some (mvI l3), some (mvI l4), some (mvI l5), some (mvI v1)] mq75 (mvDec_of cd75 rfl) rfl ?_
          refine rc_goto (t := 142) mq75 (mvDec_of cd75 rfl) rfl ?_
          refine rc_iinc [some (mvR 4), some (mvI (mw (l1 + 1))), some (mvI 0), some (mvI l3), some (mvI l4), some (mvI (mw (l5 + 1))), some (mvI v1)] mq75 (mvDec_of cd75 rfl) rfl rfl ?_
          refine rc_goto (t := 12) mq75 (mvDec_of cd75 rfl) rfl ?_
          exact H
        · replace H := H.2 hc
          refine rc_iload mq75 (mvDec_of cd75 rfl) rfl ?_
          exact rc_iret mq75 (mvDec_of cd75 rfl) ⟨_, _, rfl, rfl, H⟩
    · replace H := H.2 hc
      refine rc_iload mq75 (mvDec_of cd75 rfl) rfl ?_
      refine rc_bipush mq75 (mvDec_of cd75 rfl) (by decide) ?_
      refine rc_icmp_lt (t := 49) mq75 (mvDec_of cd75 rfl) rfl (fun hc => ?_) (fun hc => ?_)
      · replace H := H.1 hc
        refine rc_iload mq75 (mvDec_of cd75 rfl) rfl ?_
        exact rc_iret mq75 (mvDec_of cd75 rfl) ⟨_, _, rfl, rfl, H⟩
      · replace H := H.2 hc
        refine rc_iload mq75 (mvDec_of cd75 rfl) rfl ?_
        refine rc_bipush mq75 (mvDec_of cd75 rfl) (by decide) ?_
        refine rc_icmp_le (t := 52) mq75 (mvDec_of cd75 rfl) rfl (fun hc => ?_) (fun hc => ?_)
        · replace H := H.1 hc
          refine rc_iconst mq75 (mvDec_of cd75 rfl) (by decide) ?_
          refine rc_istore [some (mvR 4), some (mvI l1), some (mvI l2), some (mvI l3), some (mvI 0), some (mvI l5), some (mvI v1)] mq75 (mvDec_of cd75 rfl) rfl ?_
          refine rc_goto (t := 142) mq75 (mvDec_of cd75 rfl) rfl ?_
          refine rc_iinc [some (mvR 4), some (mvI l1), some (mvI l2), some (mvI l3), some (mvI 0), some (mvI (mw (l5 + 1))), some (mvI v1)] mq75 (mvDec_of cd75 rfl) rfl rfl ?_
          refine rc_goto (t := 12) mq75 (mvDec_of cd75 rfl) rfl ?_
          exact H
        · replace H := H.2 hc
          refine rc_iload mq75 (mvDec_of cd75 rfl) rfl ?_
          exact rc_iret mq75 (mvDec_of cd75 rfl) ⟨_, _, rfl, rfl, H⟩
abbrev PG_readInto (g : Nat → Nat → Nat) (h : Nat → Int → Int) (e : Nat) (K : Int → (Nat → Int → Int) → Prop) : Prop := RI 148 0 [some (mvR 4), some (mvR e), none, none, none, none, none] [] g h K
abbrev PG_readInto_33 (g : Nat → Nat → Nat) (h : Nat → Int → Int) (e : Nat) (u2 : Option Int) (l3 : Int) (l4 : Int) (u5 : Option Int) (u6 : Option Int) (K : Int → (Nat → Int → Int) → Prop) : Prop := RI 148 33 [some (mvR 4), some (mvR e), u2.map mvI, some (mvI l3), some (mvI l4), u5.map mvI, u6.map mvI] [] g h K
theorem PG_readInto_wp {sw : Bool} {g : Nat → Nat → Nat} {h : Nat → Int → Int} {e : Nat} {K : Int → (Nat → Int → Int) → Prop} (hG : Gok sw g) (he : EvId e) (H :
  PG_countProcesses g h (fun r2 h1 =>
    PG_firstFault g h1 (fun r4 h3 =>
      ((r4 < (h3 4 1) →
        K 0 h3) ∧
      ((h3 4 1) ≤ r4 →
        ((2 ≤ r2 →
          EV_begin g h3 e r2 (fun h5 =>
            PG_readInto_33 g h5 e (some r2) 0 0 none none K)) ∧
        (r2 < 2 →
          K 0 h3))))))) : PG_readInto g h e K := by
  refine rc_aload_n mq148 (mvDec_of cd148 rfl) rfl ?_
  refine rc_callV [mvR 4] [] [some (mvR 4), none, none] mq148 (mvDec_of cd148 rfl) lk_1_23 mq6 (by decide) rfl rfl (Nat.le_of_ble_eq_true rfl) (Nat.le_of_ble_eq_true rfl) (by decide) rfl mis4 rfl (ri_bind H (fun r2 h1 H => ?_))
  refine rc_istore_n [some (mvR 4), some (mvR e), some (mvI r2), none, none, none, none] mq148 (mvDec_of cd148 rfl) rfl ?_
  refine rc_aload_n mq148 (mvDec_of cd148 rfl) rfl ?_
  refine rc_callV [mvR 4] [] [some (mvR 4), none, none, none, none, none, none] mq148 (mvDec_of cd148 rfl) lk_1_27 mq75 (by decide) rfl rfl (Nat.le_of_ble_eq_true rfl) (Nat.le_of_ble_eq_true rfl) (by decide) rfl mis4 rfl (ri_bind H (fun r4 h3 H => ?_))
  refine rc_aload_n mq148 (mvDec_of cd148 rfl) rfl ?_
  refine rc_getI 1 mq148 (mvDec_of cd148 rfl) fl_1_15 mis4 rfl (by decide) (by decide) ?_
  refine rc_icmp_lt (t := 21) mq148 (mvDec_of cd148 rfl) rfl (fun hc => ?_) (fun hc => ?_)
  · replace H := H.1 hc
    refine rc_iconst mq148 (mvDec_of cd148 rfl) (by decide) ?_
    exact rc_zret mq148 (mvDec_of cd148 rfl) (Or.inl rfl) ⟨_, _, rfl, rfl, H⟩
  · replace H := H.2 hc
    refine rc_iload_n mq148 (mvDec_of cd148 rfl) rfl ?_
    refine rc_iconst mq148 (mvDec_of cd148 rfl) (by decide) ?_
    refine rc_icmp_ge (t := 23) mq148 (mvDec_of cd148 rfl) rfl (fun hc => ?_) (fun hc => ?_)
    · replace H := H.1 hc
      refine rc_aload_n mq148 (mvDec_of cd148 rfl) rfl ?_
      refine rc_iload_n mq148 (mvDec_of cd148 rfl) rfl ?_
      refine rc_callV [mvR e, mvI r2] [] [some (mvR e), some (mvI r2)] mq148 (mvDec_of cd148 rfl) lk_1_30 mq77 (by decide) rfl rfl (Nat.le_of_ble_eq_true rfl) (Nat.le_of_ble_eq_true rfl) (by decide) rfl (miE0 he) rfl (rv_bind H (fun h5 H => ?_))
      refine rc_iconst mq148 (mvDec_of cd148 rfl) (by decide) ?_
      refine rc_istore_n [some (mvR 4), some (mvR e), some (mvI r2), some (mvI 0), none, none, none] mq148 (mvDec_of cd148 rfl) rfl ?_
      refine rc_iconst mq148 (mvDec_of cd148 rfl) (by decide) ?_
      refine rc_istore [some (mvR 4), some (mvR e), some (mvI r2), some (mvI 0), some (mvI 0), none, none] mq148 (mvDec_of cd148 rfl) rfl ?_
      exact H
    · replace H := H.2 hc
      refine rc_iconst mq148 (mvDec_of cd148 rfl) (by decide) ?_
      exact rc_zret mq148 (mvDec_of cd148 rfl) (Or.inl rfl) ⟨_, _, rfl, rfl, H⟩
theorem PG_readInto_33_wp {sw : Bool} {g : Nat → Nat → Nat} {h : Nat → Int → Int} {e : Nat} {u2 : Option Int} {l3 : Int} {l4 : Int} {u5 : Option Int} {u6 : Option Int} {K : Int → (Nat → Int → Int) → Prop} (hG : Gok sw g) (he : EvId e) (H :
  (((h 4 1) ≤ l4 →
    K 1 h) ∧
  (l4 < (h 4 1) →
    (0 ≤ l4 ∧ l4 < 36) ∧
    (∀ v1, v1 = (h 5 l4) →
    ((¬ v1 = 59 →
      PG_isDigit g h v1 (fun r3 h2 =>
        ((r3 = 0 →
          (((h2 4 1) ≤ (mw (l4 + 1)) →
            ((l3 < 0 →
              K 0 h2) ∧
            (0 ≤ l3 →
              (((h2 e 0) ≤ l3 →
                K 0 h2) ∧
              (l3 < (h2 e 0) →
                K 0 h2))))) ∧
          ((mw (l4 + 1)) < (h2 4 1) →
            (0 ≤ (mw (l4 + 1)) ∧ (mw (l4 + 1)) < 36) ∧
            (∀ v4, v4 = (mw ((h2 5 (mw (l4 + 1))) - 48)) →
            ((l3 < 0 →
              K 0 h2) ∧
            (0 ≤ l3 →
              (((h2 e 0) ≤ l3 →
                K 0 h2) ∧
              (l3 < (h2 e 0) →
                ((v4 < 0 →
                  K 0 h2) ∧
                (0 ≤ v4 →
                  (((h2 e 0) ≤ v4 →
                    K 0 h2) ∧
                  (v4 < (h2 e 0) →
                    ((l3 = v4 →
                      K 0 h2) ∧
                    (¬ l3 = v4 →
                      ((¬ v1 = 33 →
                        (0 ≤ l3 ∧ l3 < 4) ∧
                        (∀ v5, v5 = (mw ((mw (l3 * 9)) + (h2 (e + 1) l3))) →
                        (0 ≤ v5 ∧ v5 < 36) ∧
                        (∀ h6, h6 = mvUpd h2 (e + 2) v5 2 →
                        (0 ≤ v5 ∧ v5 < 36) ∧
                        (∀ h7, h7 = mvUpd h6 (e + 3) v5 v4 →
                        (0 ≤ l3 ∧ l3 < 4) ∧
                        (0 ≤ l3 ∧ l3 < 4) ∧
                        (∀ h8, h8 = mvUpd h7 (e + 1) l3 (mw ((h7 (e + 1) l3) + 1)) →
                        (∀ h9, h9 = mvUpd h8 e 1 (mw ((h8 e 1) + 1)) →
                        PG_readInto_33 g h9 e u2 l3 (mw ((mw (l4 + 1)) + 1)) (some v1) (some v4) K)))))) ∧
                      (v1 = 33 →
                        (0 ≤ l3 ∧ l3 < 4) ∧
                        (∀ v10, v10 = (mw ((mw (l3 * 9)) + (h2 (e + 1) l3))) →
                        (0 ≤ v10 ∧ v10 < 36) ∧
                        (∀ h11, h11 = mvUpd h2 (e + 2) v10 1 →
                        (0 ≤ v10 ∧ v10 < 36) ∧
                        (∀ h12, h12 = mvUpd h11 (e + 3) v10 v4 →
                        (0 ≤ l3 ∧ l3 < 4) ∧
                        (0 ≤ l3 ∧ l3 < 4) ∧
                        (∀ h13, h13 = mvUpd h12 (e + 1) l3 (mw ((h12 (e + 1) l3) + 1)) →
                        (∀ h14, h14 = mvUpd h13 e 1 (mw ((h13 e 1) + 1)) →
                        PG_readInto_33 g h14 e u2 l3 (mw ((mw (l4 + 1)) + 1)) (some v1) (some v4) K))))))))))))))))))))) ∧
        (¬ r3 = 0 →
          (0 ≤ l3 ∧ l3 < 4) ∧
          (∀ v15, v15 = (mw ((mw (l3 * 9)) + (h2 (e + 1) l3))) →
          (0 ≤ v15 ∧ v15 < 36) ∧
          (∀ h16, h16 = mvUpd h2 (e + 2) v15 0 →
          (0 ≤ v15 ∧ v15 < 36) ∧
          (∀ h17, h17 = mvUpd h16 (e + 3) v15 (mw (v1 - 48)) →
          (0 ≤ l3 ∧ l3 < 4) ∧
          (0 ≤ l3 ∧ l3 < 4) ∧
          (∀ h18, h18 = mvUpd h17 (e + 1) l3 (mw ((h17 (e + 1) l3) + 1)) →
          (∀ h19, h19 = mvUpd h18 e 1 (mw ((h18 e 1) + 1)) →
          PG_readInto_33 g h19 e u2 l3 (mw (l4 + 1)) (some v1) u6 K))))))))) ∧
    (v1 = 59 →
      PG_readInto_33 g h e u2 (mw (l3 + 1)) (mw (l4 + 1)) (some v1) u6 K)))))) : PG_readInto_33 g h e u2 l3 l4 u5 u6 K := by
  refine rc_iload mq148 (mvDec_of cd148 rfl) rfl ?_
  refine rc_aload_n mq148 (mvDec_of cd148 rfl) rfl ?_
  refine rc_getI 1 mq148 (mvDec_of cd148 rfl) fl_1_15 mis4 rfl (by decide) (by decide) ?_
  refine rc_icmp_ge (t := 151) mq148 (mvDec_of cd148 rfl) rfl (fun hc => ?_) (fun hc => ?_)
  · replace H := H.1 hc
    refine rc_iconst mq148 (mvDec_of cd148 rfl) (by decide) ?_
    exact rc_zret mq148 (mvDec_of cd148 rfl) (Or.inr rfl) ⟨_, _, rfl, rfl, H⟩
  · replace H := H.2 hc
    refine rc_aload_n mq148 (mvDec_of cd148 rfl) rfl ?_
    refine rc_getR 5 mq148 (mvDec_of cd148 rfl) fl_1_9 mis4 rfl (gr_4_0 hG) (by decide) ?_
    refine rc_iload mq148 (mvDec_of cd148 rfl) rfl ?_
    obtain ⟨⟨hb0, hb1⟩, H⟩ := H
    refine rc_iald mq148 (mvDec_of cd148 rfl) mis5 hb0 hb1 ?_
    refine rc_top (fun v1 hv => ?_)
    replace H := H v1 hv
    refine rc_istore [some (mvR 4), some (mvR e), u2.map mvI, some (mvI l3), some (mvI l4), some (mvI v1), u6.map mvI] mq148 (mvDec_of cd148 rfl) rfl ?_
    refine rc_iload mq148 (mvDec_of cd148 rfl) rfl ?_
    refine rc_bipush mq148 (mvDec_of cd148 rfl) (by decide) ?_
    refine rc_icmp_ne (t := 64) mq148 (mvDec_of cd148 rfl) rfl (fun hc => ?_) (fun hc => ?_)
    · replace H := H.1 hc
      refine rc_iload mq148 (mvDec_of cd148 rfl) rfl ?_
      refine rc_callS [mvI v1] [] [some (mvI v1)] mq148 (mvDec_of cd148 rfl) lk_1_19 mq7 (by decide) rfl rfl (Nat.le_of_ble_eq_true rfl) (Nat.le_of_ble_eq_true rfl) (by decide) rfl (ri_bind H (fun r3 h2 H => ?_))
      refine rc_if_eq (t := 86) mq148 (mvDec_of cd148 rfl) rfl (fun hc => ?_) (fun hc => ?_)
      · replace H := H.1 hc
        refine rc_iinc [some (mvR 4), some (mvR e), u2.map mvI, some (mvI l3), some (mvI (mw (l4 + 1))), some (mvI v1), u6.map mvI] mq148 (mvDec_of cd148 rfl) rfl rfl ?_
        refine rc_iload mq148 (mvDec_of cd148 rfl) rfl ?_
        refine rc_aload_n mq148 (mvDec_of cd148 rfl) rfl ?_
        refine rc_getI 1 mq148 (mvDec_of cd148 rfl) fl_1_15 mis4 rfl (by decide) (by decide) ?_
        refine rc_icmp_ge (t := 111) mq148 (mvDec_of cd148 rfl) rfl (fun hc => ?_) (fun hc => ?_)
        · replace H := H.1 hc
          refine rc_iconst mq148 (mvDec_of cd148 rfl) (by decide) ?_
          refine rc_istore [some (mvR 4), some (mvR e), u2.map mvI, some (mvI l3), some (mvI (mw (l4 + 1))), some (mvI v1), some (mvI (-1))] mq148 (mvDec_of cd148 rfl) rfl ?_
          refine rc_aload_n mq148 (mvDec_of cd148 rfl) rfl ?_
          refine rc_iload_n mq148 (mvDec_of cd148 rfl) rfl ?_
          refine rc_iload mq148 (mvDec_of cd148 rfl) rfl ?_
          refine rc_callV [mvR e, mvI l3, mvI (-1)] [] [some (mvR e), some (mvI l3), some (mvI (-1))] mq148 (mvDec_of cd148 rfl) lk_1_40 mq78 (by decide) rfl rfl (Nat.le_of_ble_eq_true rfl) (Nat.le_of_ble_eq_true rfl) (by decide) rfl (miE0 he) rfl ?_
          refine rc_aload_n mq78 (mvDec_of cd78 rfl) rfl ?_
          refine rc_iload_n mq78 (mvDec_of cd78 rfl) rfl ?_
          refine rc_callV [mvR e, mvI l3] [] [some (mvR e), some (mvI l3)] mq78 (mvDec_of cd78 rfl) lk_2_49 mq8 (by decide) rfl rfl (Nat.le_of_ble_eq_true rfl) (Nat.le_of_ble_eq_true rfl) (by decide) rfl (miE0 he) rfl ?_
          refine rc_iload_n mq8 (mvDec_of cd8 rfl) rfl ?_
          refine rc_if_lt (t := 16) mq8 (mvDec_of cd8 rfl) rfl (fun hc => ?_) (fun hc => ?_)
          · replace H := H.1 hc
            refine rc_iconst mq8 (mvDec_of cd8 rfl) (by decide) ?_
            refine rc_zret mq8 (mvDec_of cd8 rfl) (Or.inl rfl) ?_
            show Rch 78 5 [some (mvR e), some (mvI l3), some (mvI (-1))] [mvI 0] (97, g, h2) _
            refine rc_ifT (t := 25) mq78 (mvDec_of cd78 rfl) rfl rfl ?_
            refine rc_iconst mq78 (mvDec_of cd78 rfl) (by decide) ?_
            refine rc_zret mq78 (mvDec_of cd78 rfl) (Or.inl rfl) ?_
            show Rch 148 121 [some (mvR 4), some (mvR e), u2.map mvI, some (mvI l3), some (mvI (mw (l4 + 1))), some (mvI v1), some (mvI (-1))] [mvI 0] (97, g, h2) _
            refine rc_ifF (t := 126) mq148 (mvDec_of cd148 rfl) rfl rfl ?_
            refine rc_iconst mq148 (mvDec_of cd148 rfl) (by decide) ?_
            exact rc_zret mq148 (mvDec_of cd148 rfl) (Or.inl rfl) ⟨_, _, rfl, rfl, H⟩
          · replace H := H.2 hc
            refine rc_iload_n mq8 (mvDec_of cd8 rfl) rfl ?_
            refine rc_aload_n mq8 (mvDec_of cd8 rfl) rfl ?_
            refine rc_getI 0 mq8 (mvDec_of cd8 rfl) fl_2_36 (miE0 he) rfl (by decide) (by decide) ?_
            refine rc_icmp_ge (t := 16) mq8 (mvDec_of cd8 rfl) rfl (fun hc => ?_) (fun hc => ?_)
            · replace H := H.1 hc
              refine rc_iconst mq8 (mvDec_of cd8 rfl) (by decide) ?_
              refine rc_zret mq8 (mvDec_of cd8 rfl) (Or.inl rfl) ?_
              show Rch 78 5 [some (mvR e), some (mvI l3), some (mvI (-1))] [mvI 0] (97, g, h2) _
              refine rc_ifT (t := 25) mq78 (mvDec_of cd78 rfl) rfl rfl ?_
              refine rc_iconst mq78 (mvDec_of cd78 rfl) (by decide) ?_
              refine rc_zret mq78 (mvDec_of cd78 rfl) (Or.inl rfl) ?_
              show Rch 148 121 [some (mvR 4), some (mvR e), u2.map mvI, some (mvI l3), some (mvI (mw (l4 + 1))), some (mvI v1), some (mvI (-1))] [mvI 0] (97, g, h2) _
              refine rc_ifF (t := 126) mq148 (mvDec_of cd148 rfl) rfl rfl ?_
              refine rc_iconst mq148 (mvDec_of cd148 rfl) (by decide) ?_
              exact rc_zret mq148 (mvDec_of cd148 rfl) (Or.inl rfl) ⟨_, _, rfl, rfl, H⟩
            · replace H := H.2 hc
              refine rc_iconst mq8 (mvDec_of cd8 rfl) (by decide) ?_
              refine rc_goto (t := 17) mq8 (mvDec_of cd8 rfl) rfl ?_
              refine rc_zret mq8 (mvDec_of cd8 rfl) (Or.inr rfl) ?_
              show Rch 78 5 [some (mvR e), some (mvI l3), some (mvI (-1))] [mvI 1] (97, g, h2) _
              refine rc_ifF (t := 25) mq78 (mvDec_of cd78 rfl) rfl rfl ?_
              refine rc_aload_n mq78 (mvDec_of cd78 rfl) rfl ?_
              refine rc_iload_n mq78 (mvDec_of cd78 rfl) rfl ?_
              refine rc_callV [mvR e, mvI (-1)] [] [some (mvR e), some (mvI (-1))] mq78 (mvDec_of cd78 rfl) lk_2_49 mq8 (by decide) rfl rfl (Nat.le_of_ble_eq_true rfl) (Nat.le_of_ble_eq_true rfl) (by decide) rfl (miE0 he) rfl ?_
              refine rc_iload_n mq8 (mvDec_of cd8 rfl) rfl ?_
              refine rc_ifT (t := 16) mq8 (mvDec_of cd8 rfl) rfl rfl ?_
              refine rc_iconst mq8 (mvDec_of cd8 rfl) (by decide) ?_
              refine rc_zret mq8 (mvDec_of cd8 rfl) (Or.inl rfl) ?_
              show Rch 78 13 [some (mvR e), some (mvI l3), some (mvI (-1))] [mvI 0] (97, g, h2) _
              refine rc_ifT (t := 25) mq78 (mvDec_of cd78 rfl) rfl rfl ?_
              refine rc_iconst mq78 (mvDec_of cd78 rfl) (by decide) ?_
              refine rc_zret mq78 (mvDec_of cd78 rfl) (Or.inl rfl) ?_
              show Rch 148 121 [some (mvR 4), some (mvR e), u2.map mvI, some (mvI l3), some (mvI (mw (l4 + 1))), some (mvI v1), some (mvI (-1))] [mvI 0] (97, g, h2) _
              refine rc_ifF (t := 126) mq148 (mvDec_of cd148 rfl) rfl rfl ?_
              refine rc_iconst mq148 (mvDec_of cd148 rfl) (by decide) ?_
              exact rc_zret mq148 (mvDec_of cd148 rfl) (Or.inl rfl) ⟨_, _, rfl, rfl, H⟩
        · replace H := H.2 hc
          refine rc_aload_n mq148 (mvDec_of cd148 rfl) rfl ?_
          refine rc_getR 5 mq148 (mvDec_of cd148 rfl) fl_1_9 mis4 rfl (gr_4_0 hG) (by decide) ?_
          refine rc_iload mq148 (mvDec_of cd148 rfl) rfl ?_
          obtain ⟨⟨hb0, hb1⟩, H⟩ := H
          refine rc_iald mq148 (mvDec_of cd148 rfl) mis5 hb0 hb1 ?_
          refine rc_bipush mq148 (mvDec_of cd148 rfl) (by decide) ?_
          refine rc_isub mq148 (mvDec_of cd148 rfl) ?_
          refine rc_goto (t := 112) mq148 (mvDec_of cd148 rfl) rfl ?_
          refine rc_top (fun v4 hv => ?_)
          replace H := H v4 hv
          refine rc_istore [some (mvR 4), some (mvR e), u2.map mvI, some (mvI l3), some (mvI (mw (l4 + 1))), some (mvI v1), some (mvI v4)] mq148 (mvDec_of cd148 rfl) rfl ?_
          refine rc_aload_n mq148 (mvDec_of cd148 rfl) rfl ?_
          refine rc_iload_n mq148 (mvDec_of cd148 rfl) rfl ?_
          refine rc_iload mq148 (mvDec_of cd148 rfl) rfl ?_
          refine rc_callV [mvR e, mvI l3, mvI v4] [] [some (mvR e), some (mvI l3), some (mvI v4)] mq148 (mvDec_of cd148 rfl) lk_1_40 mq78 (by decide) rfl rfl (Nat.le_of_ble_eq_true rfl) (Nat.le_of_ble_eq_true rfl) (by decide) rfl (miE0 he) rfl ?_
          refine rc_aload_n mq78 (mvDec_of cd78 rfl) rfl ?_
          refine rc_iload_n mq78 (mvDec_of cd78 rfl) rfl ?_
          refine rc_callV [mvR e, mvI l3] [] [some (mvR e), some (mvI l3)] mq78 (mvDec_of cd78 rfl) lk_2_49 mq8 (by decide) rfl rfl (Nat.le_of_ble_eq_true rfl) (Nat.le_of_ble_eq_true rfl) (by decide) rfl (miE0 he) rfl ?_
          refine rc_iload_n mq8 (mvDec_of cd8 rfl) rfl ?_
          refine rc_if_lt (t := 16) mq8 (mvDec_of cd8 rfl) rfl (fun hc => ?_) (fun hc => ?_)
          · replace H := H.1 hc
            refine rc_iconst mq8 (mvDec_of cd8 rfl) (by decide) ?_
            refine rc_zret mq8 (mvDec_of cd8 rfl) (Or.inl rfl) ?_
            show Rch 78 5 [some (mvR e), some (mvI l3), some (mvI v4)] [mvI 0] (97, g, h2) _
            refine rc_ifT (t := 25) mq78 (mvDec_of cd78 rfl) rfl rfl ?_
            refine rc_iconst mq78 (mvDec_of cd78 rfl) (by decide) ?_
            refine rc_zret mq78 (mvDec_of cd78 rfl) (Or.inl rfl) ?_
            show Rch 148 121 [some (mvR 4), some (mvR e), u2.map mvI, some (mvI l3), some (mvI (mw (l4 + 1))), some (mvI v1), some (mvI v4)] [mvI 0] (97, g, h2) _
            refine rc_ifF (t := 126) mq148 (mvDec_of cd148 rfl) rfl rfl ?_
            refine rc_iconst mq148 (mvDec_of cd148 rfl) (by decide) ?_
            exact rc_zret mq148 (mvDec_of cd148 rfl) (Or.inl rfl) ⟨_, _, rfl, rfl, H⟩
          · replace H := H.2 hc
            refine rc_iload_n mq8 (mvDec_of cd8 rfl) rfl ?_
            refine rc_aload_n mq8 (mvDec_of cd8 rfl) rfl ?_
            refine rc_getI 0 mq8 (mvDec_of cd8 rfl) fl_2_36 (miE0 he) rfl (by decide) (by decide) ?_
            refine rc_icmp_ge (t := 16) mq8 (mvDec_of cd8 rfl) rfl (fun hc => ?_) (fun hc => ?_)
            · replace H := H.1 hc
              refine rc_iconst mq8 (mvDec_of cd8 rfl) (by decide) ?_
              refine rc_zret mq8 (mvDec_of cd8 rfl) (Or.inl rfl) ?_
              show Rch 78 5 [some (mvR e), some (mvI l3), some (mvI v4)] [mvI 0] (97, g, h2) _
              refine rc_ifT (t := 25) mq78 (mvDec_of cd78 rfl) rfl rfl ?_
              refine rc_iconst mq78 (mvDec_of cd78 rfl) (by decide) ?_
              refine rc_zret mq78 (mvDec_of cd78 rfl) (Or.inl rfl) ?_
              show Rch 148 121 [some (mvR 4), some (mvR e), u2.map mvI, some (mvI l3), some (mvI (mw (l4 + 1))), some (mvI v1), some (mvI v4)] [mvI 0] (97, g, h2) _
              refine rc_ifF (t := 126) mq148 (mvDec_of cd148 rfl) rfl rfl ?_
              refine rc_iconst mq148 (mvDec_of cd148 rfl) (by decide) ?_
              exact rc_zret mq148 (mvDec_of cd148 rfl) (Or.inl rfl) ⟨_, _, rfl, rfl, H⟩
            · replace H := H.2 hc
              refine rc_iconst mq8 (mvDec_of cd8 rfl) (by decide) ?_
              refine rc_goto (t := 17) mq8 (mvDec_of cd8 rfl) rfl ?_
              refine rc_zret mq8 (mvDec_of cd8 rfl) (Or.inr rfl) ?_
              show Rch 78 5 [some (mvR e), some (mvI l3), some (mvI v4)] [mvI 1] (97, g, h2) _
              refine rc_ifF (t := 25) mq78 (mvDec_of cd78 rfl) rfl rfl ?_
              refine rc_aload_n mq78 (mvDec_of cd78 rfl) rfl ?_
              refine rc_iload_n mq78 (mvDec_of cd78 rfl) rfl ?_
              refine rc_callV [mvR e, mvI v4] [] [some (mvR e), some (mvI v4)] mq78 (mvDec_of cd78 rfl) lk_2_49 mq8 (by decide) rfl rfl (Nat.le_of_ble_eq_true rfl) (Nat.le_of_ble_eq_true rfl) (by decide) rfl (miE0 he) rfl ?_
              refine rc_iload_n mq8 (mvDec_of cd8 rfl) rfl ?_
              refine rc_if_lt (t := 16) mq8 (mvDec_of cd8 rfl) rfl (fun hc => ?_) (fun hc => ?_)
              · replace H := H.1 hc
                refine rc_iconst mq8 (mvDec_of cd8 rfl) (by decide) ?_
                refine rc_zret mq8 (mvDec_of cd8 rfl) (Or.inl rfl) ?_
                show Rch 78 13 [some (mvR e), some (mvI l3), some (mvI v4)] [mvI 0] (97, g, h2) _
                refine rc_ifT (t := 25) mq78 (mvDec_of cd78 rfl) rfl rfl ?_
                refine rc_iconst mq78 (mvDec_of cd78 rfl) (by decide) ?_
                refine rc_zret mq78 (mvDec_of cd78 rfl) (Or.inl rfl) ?_
                show Rch 148 121 [some (mvR 4), some (mvR e), u2.map mvI, some (mvI l3), some (mvI (mw (l4 + 1))), some (mvI v1), some (mvI v4)] [mvI 0] (97, g, h2) _
                refine rc_ifF (t := 126) mq148 (mvDec_of cd148 rfl) rfl rfl ?_
                refine rc_iconst mq148 (mvDec_of cd148 rfl) (by decide) ?_
                exact rc_zret mq148 (mvDec_of cd148 rfl) (Or.inl rfl) ⟨_, _, rfl, rfl, H⟩
              · replace H := H.2 hc
                refine rc_iload_n mq8 (mvDec_of cd8 rfl) rfl ?_
                refine rc_aload_n mq8 (mvDec_of cd8 rfl) rfl ?_
                refine rc_getI 0 mq8 (mvDec_of cd8 rfl) fl_2_36 (miE0 he) rfl (by decide) (by decide) ?_
                refine rc_icmp_ge (t := 16) mq8 (mvDec_of cd8 rfl) rfl (fun hc => ?_) (fun hc => ?_)
                · replace H := H.1 hc
                  refine rc_iconst mq8 (mvDec_of cd8 rfl) (by decide) ?_
                  refine rc_zret mq8 (mvDec_of cd8 rfl) (Or.inl rfl) ?_
                  show Rch 78 13 [some (mvR e), some (mvI l3), some (mvI v4)] [mvI 0] (97, g, h2) _
                  refine rc_ifT (t := 25) mq78 (mvDec_of cd78 rfl) rfl rfl ?_
                  refine rc_iconst mq78 (mvDec_of cd78 rfl) (by decide) ?_
                  refine rc_zret mq78 (mvDec_of cd78 rfl) (Or.inl rfl) ?_
                  show Rch 148 121 [some (mvR 4), some (mvR e), u2.map mvI, some (mvI l3), some (mvI (mw (l4 + 1))), some (mvI v1), some (mvI v4)] [mvI 0] (97, g, h2) _
                  refine rc_ifF (t := 126) mq148 (mvDec_of cd148 rfl) rfl rfl ?_
                  refine rc_iconst mq148 (mvDec_of cd148 rfl) (by decide) ?_
                  exact rc_zret mq148 (mvDec_of cd148 rfl) (Or.inl rfl) ⟨_, _, rfl, rfl, H⟩
                · replace H := H.2 hc
                  refine rc_iconst mq8 (mvDec_of cd8 rfl) (by decide) ?_
                  refine rc_goto (t := 17) mq8 (mvDec_of cd8 rfl) rfl ?_
                  refine rc_zret mq8 (mvDec_of cd8 rfl) (Or.inr rfl) ?_
                  show Rch 78 13 [some (mvR e), some (mvI l3), some (mvI v4)] [mvI 1] (97, g, h2) _
                  refine rc_ifF (t := 25) mq78 (mvDec_of cd78 rfl) rfl rfl ?_
                  refine rc_iload_n mq78 (mvDec_of cd78 rfl) rfl ?_
                  refine rc_iload_n mq78 (mvDec_of cd78 rfl) rfl ?_
                  refine rc_icmp_eq (t := 25) mq78 (mvDec_of cd78 rfl) rfl (fun hc => ?_) (fun hc => ?_)
                  · replace H := H.1 hc
                    refine rc_iconst mq78 (mvDec_of cd78 rfl) (by decide) ?_
                    refine rc_zret mq78 (mvDec_of cd78 rfl) (Or.inl rfl) ?_
                    show Rch 148 121 [some (mvR 4), some (mvR e), u2.map mvI, some (mvI l3), some (mvI (mw (l4 + 1))), some (mvI v1), some (mvI v4)] [mvI 0] (97, g, h2) _
                    refine rc_ifF (t := 126) mq148 (mvDec_of cd148 rfl) rfl rfl ?_
                    refine rc_iconst mq148 (mvDec_of cd148 rfl) (by decide) ?_
                    exact rc_zret mq148 (mvDec_of cd148 rfl) (Or.inl rfl) ⟨_, _, rfl, rfl, H⟩
                  · replace H := H.2 hc
                    refine rc_iconst mq78 (mvDec_of cd78 rfl) (by decide) ?_
                    refine rc_goto (t := 26) mq78 (mvDec_of cd78 rfl) rfl ?_
                    refine rc_zret mq78 (mvDec_of cd78 rfl) (Or.inr rfl) ?_
                    show Rch 148 121 [some (mvR 4), some (mvR e), u2.map mvI, some (mvI l3), some (mvI (mw (l4 + 1))), some (mvI v1), some (mvI v4)] [mvI 1] (97, g, h2) _
                    refine rc_ifT (t := 126) mq148 (mvDec_of cd148 rfl) rfl rfl ?_
                    refine rc_aload_n mq148 (mvDec_of cd148 rfl) rfl ?_
                    refine rc_iload_n mq148 (mvDec_of cd148 rfl) rfl ?_
                    refine rc_iload mq148 (mvDec_of cd148 rfl) rfl ?_
                    refine rc_bipush mq148 (mvDec_of cd148 rfl) (by decide) ?_
                    refine rc_icmp_ne (t := 139) mq148 (mvDec_of cd148 rfl) rfl (fun hc => ?_) (fun hc => ?_)
                    · replace H := H.1 hc
                      refine rc_iconst mq148 (mvDec_of cd148 rfl) (by decide) ?_
                      refine rc_iload mq148 (mvDec_of cd148 rfl) rfl ?_
                      refine rc_callV [mvR e, mvI l3, mvI 2, mvI v4] [] [some (mvR e), some (mvI l3), some (mvI 2), some (mvI v4), none] mq148 (mvDec_of cd148 rfl) lk_1_36 mq10 (by decide) rfl rfl (Nat.le_of_ble_eq_true rfl) (Nat.le_of_ble_eq_true rfl) (by decide) rfl (miE0 he) rfl ?_
                      refine rc_iload_n mq10 (mvDec_of cd10 rfl) rfl ?_
                      refine rc_bipush mq10 (mvDec_of cd10 rfl) (by decide) ?_
                      refine rc_imul mq10 (mvDec_of cd10 rfl) ?_
                      refine rc_aload_n mq10 (mvDec_of cd10 rfl) rfl ?_
                      refine rc_getR (e + 1) mq10 (mvDec_of cd10 rfl) fl_2_9 (miE0 he) rfl (mgE2 he hG) (Nat.succ_ne_zero _) ?_
                      refine rc_iload_n mq10 (mvDec_of cd10 rfl) rfl ?_
                      obtain ⟨⟨hb0, hb1⟩, H⟩ := H
                      refine rc_iald mq10 (mvDec_of cd10 rfl) (miE1 he) hb0 hb1 ?_
                      refine rc_iadd mq10 (mvDec_of cd10 rfl) ?_
                      refine rc_top (fun v5 hv => ?_)
                      replace H := H v5 hv
                      refine rc_istore [some (mvR e), some (mvI l3), some (mvI 2), some (mvI v4), some (mvI v5)] mq10 (mvDec_of cd10 rfl) rfl ?_
                      refine rc_aload_n mq10 (mvDec_of cd10 rfl) rfl ?_
                      refine rc_getR (e + 2) mq10 (mvDec_of cd10 rfl) fl_2_15 (miE0 he) rfl (mgE3 he hG) (Nat.succ_ne_zero _) ?_
                      refine rc_iload mq10 (mvDec_of cd10 rfl) rfl ?_
                      refine rc_iload_n mq10 (mvDec_of cd10 rfl) rfl ?_
                      obtain ⟨⟨hb0, hb1⟩, H⟩ := H
                      refine rc_iast mq10 (mvDec_of cd10 rfl) (miE2 he) hb0 hb1 ?_
                      refine rc_heap (fun h6 hh => ?_)
                      replace H := H h6 hh
                      refine rc_aload_n mq10 (mvDec_of cd10 rfl) rfl ?_
                      refine rc_getR (e + 3) mq10 (mvDec_of cd10 rfl) fl_2_18 (miE0 he) rfl (mgE4 he hG) (Nat.succ_ne_zero _) ?_
                      refine rc_iload mq10 (mvDec_of cd10 rfl) rfl ?_
                      refine rc_iload_n mq10 (mvDec_of cd10 rfl) rfl ?_
                      obtain ⟨⟨hb0, hb1⟩, H⟩ := H
                      refine rc_iast mq10 (mvDec_of cd10 rfl) (miE3 he) hb0 hb1 ?_
                      refine rc_heap (fun h7 hh => ?_)
                      replace H := H h7 hh
                      refine rc_aload_n mq10 (mvDec_of cd10 rfl) rfl ?_
                      refine rc_getR (e + 1) mq10 (mvDec_of cd10 rfl) fl_2_9 (miE0 he) rfl (mgE2 he hG) (Nat.succ_ne_zero _) ?_
                      refine rc_iload_n mq10 (mvDec_of cd10 rfl) rfl ?_
                      refine rc_dup2 mq10 (mvDec_of cd10 rfl) rfl rfl ?_
                      obtain ⟨⟨hb0, hb1⟩, H⟩ := H
                      refine rc_iald mq10 (mvDec_of cd10 rfl) (miE1 he) hb0 hb1 ?_
                      refine rc_iconst mq10 (mvDec_of cd10 rfl) (by decide) ?_
                      refine rc_iadd mq10 (mvDec_of cd10 rfl) ?_
                      obtain ⟨⟨hb0, hb1⟩, H⟩ := H
                      refine rc_iast mq10 (mvDec_of cd10 rfl) (miE1 he) hb0 hb1 ?_
                      refine rc_heap (fun h8 hh => ?_)
                      replace H := H h8 hh
                      refine rc_aload_n mq10 (mvDec_of cd10 rfl) rfl ?_
                      refine rc_dup mq10 (mvDec_of cd10 rfl) rfl ?_
                      refine rc_getI 1 mq10 (mvDec_of cd10 rfl) fl_2_40 (miE0 he) rfl (by decide) (by decide) ?_
                      refine rc_iconst mq10 (mvDec_of cd10 rfl) (by decide) ?_
                      refine rc_iadd mq10 (mvDec_of cd10 rfl) ?_
                      refine rc_putI 1 mq10 (mvDec_of cd10 rfl) fl_2_40 (miE0 he) rfl (fun z => absurd z (by decide)) (Or.inl rfl) ?_
                      refine rc_heap (fun h9 hh => ?_)
                      replace H := H h9 hh
                      refine rc_vret mq10 (mvDec_of cd10 rfl) ?_
                      show Rch 148 145 [some (mvR 4), some (mvR e), u2.map mvI, some (mvI l3), some (mvI (mw (l4 + 1))), some (mvI v1), some (mvI v4)] [] (97, g, h9) _
                      refine rc_iinc [some (mvR 4), some (mvR e), u2.map mvI, some (mvI l3), some (mvI (mw ((mw (l4 + 1)) + 1))), some (mvI v1), some (mvI v4)] mq148 (mvDec_of cd148 rfl) rfl rfl ?_
                      refine rc_goto (t := 33) mq148 (mvDec_of cd148 rfl) rfl ?_
                      exact H
                    · replace H := H.2 hc
                      refine rc_iconst mq148 (mvDec_of cd148 rfl) (by decide) ?_
                      refine rc_goto (t := 140) mq148 (mvDec_of cd148 rfl) rfl ?_
                      refine rc_iload mq148 (mvDec_of cd148 rfl) rfl ?_
                      refine rc_callV [mvR e, mvI l3, mvI 1, mvI v4] [] [some (mvR e), some (mvI l3), some (mvI 1), some (mvI v4), none] mq148 (mvDec_of cd148 rfl) lk_1_36 mq10 (by decide) rfl rfl (Nat.le_of_ble_eq_true rfl) (Nat.le_of_ble_eq_true rfl) (by decide) rfl (miE0 he) rfl ?_
                      refine rc_iload_n mq10 (mvDec_of cd10 rfl) rfl ?_
                      refine rc_bipush mq10 (mvDec_of cd10 rfl) (by decide) ?_
                      refine rc_imul mq10 (mvDec_of cd10 rfl) ?_
                      refine rc_aload_n mq10 (mvDec_of cd10 rfl) rfl ?_
                      refine rc_getR (e + 1) mq10 (mvDec_of cd10 rfl) fl_2_9 (miE0 he) rfl (mgE2 he hG) (Nat.succ_ne_zero _) ?_
                      refine rc_iload_n mq10 (mvDec_of cd10 rfl) rfl ?_
                      obtain ⟨⟨hb0, hb1⟩, H⟩ := H
                      refine rc_iald mq10 (mvDec_of cd10 rfl) (miE1 he) hb0 hb1 ?_
                      refine rc_iadd mq10 (mvDec_of cd10 rfl) ?_
                      refine rc_top (fun v10 hv => ?_)
                      replace H := H v10 hv
                      refine rc_istore [some (mvR e), some (mvI l3), some (mvI 1), some (mvI v4), some (mvI v10)] mq10 (mvDec_of cd10 rfl) rfl ?_
                      refine rc_aload_n mq10 (mvDec_of cd10 rfl) rfl ?_
                      refine rc_getR (e + 2) mq10 (mvDec_of cd10 rfl) fl_2_15 (miE0 he) rfl (mgE3 he hG) (Nat.succ_ne_zero _) ?_
                      refine rc_iload mq10 (mvDec_of cd10 rfl) rfl ?_
                      refine rc_iload_n mq10 (mvDec_of cd10 rfl) rfl ?_
                      obtain ⟨⟨hb0, hb1⟩, H⟩ := H
                      refine rc_iast mq10 (mvDec_of cd10 rfl) (miE2 he) hb0 hb1 ?_
                      refine rc_heap (fun h11 hh => ?_)
                      replace H := H h11 hh
                      refine rc_aload_n mq10 (mvDec_of cd10 rfl) rfl ?_
                      refine rc_getR (e + 3) mq10 (mvDec_of cd10 rfl) fl_2_18 (miE0 he) rfl (mgE4 he hG) (Nat.succ_ne_zero _) ?_
                      refine rc_iload mq10 (mvDec_of cd10 rfl) rfl ?_
                      refine rc_iload_n mq10 (mvDec_of cd10 rfl) rfl ?_
                      obtain ⟨⟨hb0, hb1⟩, H⟩ := H
                      refine rc_iast mq10 (mvDec_of cd10 rfl) (miE3 he) hb0 hb1 ?_
                      refine rc_heap (fun h12 hh => ?_)
                      replace H := H h12 hh
                      refine rc_aload_n mq10 (mvDec_of cd10 rfl) rfl ?_
                      refine rc_getR (e + 1) mq10 (mvDec_of cd10 rfl) fl_2_9 (miE0 he) rfl (mgE2 he hG) (Nat.succ_ne_zero _) ?_
                      refine rc_iload_n mq10 (mvDec_of cd10 rfl) rfl ?_
                      refine rc_dup2 mq10 (mvDec_of cd10 rfl) rfl rfl ?_
                      obtain ⟨⟨hb0, hb1⟩, H⟩ := H
                      refine rc_iald mq10 (mvDec_of cd10 rfl) (miE1 he) hb0 hb1 ?_
                      refine rc_iconst mq10 (mvDec_of cd10 rfl) (by decide) ?_
                      refine rc_iadd mq10 (mvDec_of cd10 rfl) ?_
                      obtain ⟨⟨hb0, hb1⟩, H⟩ := H
                      refine rc_iast mq10 (mvDec_of cd10 rfl) (miE1 he) hb0 hb1 ?_
                      refine rc_heap (fun h13 hh => ?_)
                      replace H := H h13 hh
                      refine rc_aload_n mq10 (mvDec_of cd10 rfl) rfl ?_
                      refine rc_dup mq10 (mvDec_of cd10 rfl) rfl ?_
                      refine rc_getI 1 mq10 (mvDec_of cd10 rfl) fl_2_40 (miE0 he) rfl (by decide) (by decide) ?_
                      refine rc_iconst mq10 (mvDec_of cd10 rfl) (by decide) ?_
                      refine rc_iadd mq10 (mvDec_of cd10 rfl) ?_
                      refine rc_putI 1 mq10 (mvDec_of cd10 rfl) fl_2_40 (miE0 he) rfl (fun z => absurd z (by decide)) (Or.inl rfl) ?_
                      refine rc_heap (fun h14 hh => ?_)
                      replace H := H h14 hh
                      refine rc_vret mq10 (mvDec_of cd10 rfl) ?_
                      show Rch 148 145 [some (mvR 4), some (mvR e), u2.map mvI, some (mvI l3), some (mvI (mw (l4 + 1))), some (mvI v1), some (mvI v4)] [] (97, g, h14) _
                      refine rc_iinc [some (mvR 4), some (mvR e), u2.map mvI, some (mvI l3), some (mvI (mw ((mw (l4 + 1)) + 1))), some (mvI v1), some (mvI v4)] mq148 (mvDec_of cd148 rfl) rfl rfl ?_
                      refine rc_goto (t := 33) mq148 (mvDec_of cd148 rfl) rfl ?_
                      exact H
      · replace H := H.2 hc
        refine rc_aload_n mq148 (mvDec_of cd148 rfl) rfl ?_
        refine rc_iload_n mq148 (mvDec_of cd148 rfl) rfl ?_
        refine rc_iconst mq148 (mvDec_of cd148 rfl) (by decide) ?_
        refine rc_iload mq148 (mvDec_of cd148 rfl) rfl ?_
        refine rc_bipush mq148 (mvDec_of cd148 rfl) (by decide) ?_
        refine rc_isub mq148 (mvDec_of cd148 rfl) ?_
        refine rc_callV [mvR e, mvI l3, mvI 0, mvI (mw (v1 - 48))] [] [some (mvR e), some (mvI l3), some (mvI 0), some (mvI (mw (v1 - 48))), none] mq148 (mvDec_of cd148 rfl) lk_1_36 mq10 (by decide) rfl rfl (Nat.le_of_ble_eq_true rfl) (Nat.le_of_ble_eq_true rfl) (by decide) rfl (miE0 he) rfl ?_
        refine rc_iload_n mq10 (mvDec_of cd10 rfl) rfl ?_
        refine rc_bipush mq10 (mvDec_of cd10 rfl) (by decide) ?_
        refine rc_imul mq10 (mvDec_of cd10 rfl) ?_
        refine rc_aload_n mq10 (mvDec_of cd10 rfl) rfl ?_
        refine rc_getR (e + 1) mq10 (mvDec_of cd10 rfl) fl_2_9 (miE0 he) rfl (mgE2 he hG) (Nat.succ_ne_zero _) ?_
        refine rc_iload_n mq10 (mvDec_of cd10 rfl) rfl ?_
        obtain ⟨⟨hb0, hb1⟩, H⟩ := H
        refine rc_iald mq10 (mvDec_of cd10 rfl) (miE1 he) hb0 hb1 ?_
        refine rc_iadd mq10 (mvDec_of cd10 rfl) ?_
        refine rc_top (fun v15 hv => ?_)
        replace H := H v15 hv
        refine rc_istore [some (mvR e), some (mvI l3), some (mvI 0), some (mvI (mw (v1 - 48))), some (mvI v15)] mq10 (mvDec_of cd10 rfl) rfl ?_
        refine rc_aload_n mq10 (mvDec_of cd10 rfl) rfl ?_
        refine rc_getR (e + 2) mq10 (mvDec_of cd10 rfl) fl_2_15 (miE0 he) rfl (mgE3 he hG) (Nat.succ_ne_zero _) ?_
        refine rc_iload mq10 (mvDec_of cd10 rfl) rfl ?_
        refine rc_iload_n mq10 (mvDec_of cd10 rfl) rfl ?_
        obtain ⟨⟨hb0, hb1⟩, H⟩ := H
        refine rc_iast mq10 (mvDec_of cd10 rfl) (miE2 he) hb0 hb1 ?_
        refine rc_heap (fun h16 hh => ?_)
        replace H := H h16 hh
        refine rc_aload_n mq10 (mvDec_of cd10 rfl) rfl ?_
        refine rc_getR (e + 3) mq10 (mvDec_of cd10 rfl) fl_2_18 (miE0 he) rfl (mgE4 he hG) (Nat.succ_ne_zero _) ?_
        refine rc_iload mq10 (mvDec_of cd10 rfl) rfl ?_
        refine rc_iload_n mq10 (mvDec_of cd10 rfl) rfl ?_
        obtain ⟨⟨hb0, hb1⟩, H⟩ := H
        refine rc_iast mq10 (mvDec_of cd10 rfl) (miE3 he) hb0 hb1 ?_
        refine rc_heap (fun h17 hh => ?_)
        replace H := H h17 hh
        refine rc_aload_n mq10 (mvDec_of cd10 rfl) rfl ?_
        refine rc_getR (e + 1) mq10 (mvDec_of cd10 rfl) fl_2_9 (miE0 he) rfl (mgE2 he hG) (Nat.succ_ne_zero _) ?_
        refine rc_iload_n mq10 (mvDec_of cd10 rfl) rfl ?_
        refine rc_dup2 mq10 (mvDec_of cd10 rfl) rfl rfl ?_
        obtain ⟨⟨hb0, hb1⟩, H⟩ := H
        refine rc_iald mq10 (mvDec_of cd10 rfl) (miE1 he) hb0 hb1 ?_
        refine rc_iconst mq10 (mvDec_of cd10 rfl) (by decide) ?_
        refine rc_iadd mq10 (mvDec_of cd10 rfl) ?_
        obtain ⟨⟨hb0, hb1⟩, H⟩ := H
        refine rc_iast mq10 (mvDec_of cd10 rfl) (miE1 he) hb0 hb1 ?_
        refine rc_heap (fun h18 hh => ?_)
        replace H := H h18 hh
        refine rc_aload_n mq10 (mvDec_of cd10 rfl) rfl ?_
        refine rc_dup mq10 (mvDec_of cd10 rfl) rfl ?_
        refine rc_getI 1 mq10 (mvDec_of cd10 rfl) fl_2_40 (miE0 he) rfl (by decide) (by decide) ?_
        refine rc_iconst mq10 (mvDec_of cd10 rfl) (by decide) ?_
        refine rc_iadd mq10 (mvDec_of cd10 rfl) ?_
        refine rc_putI 1 mq10 (mvDec_of cd10 rfl) fl_2_40 (miE0 he) rfl (fun z => absurd z (by decide)) (Or.inl rfl) ?_
        refine rc_heap (fun h19 hh => ?_)
        replace H := H h19 hh
        refine rc_vret mq10 (mvDec_of cd10 rfl) ?_
        show Rch 148 83 [some (mvR 4), some (mvR e), u2.map mvI, some (mvI l3), some (mvI l4), some (mvI v1), u6.map mvI] [] (97, g, h19) _
        refine rc_goto (t := 145) mq148 (mvDec_of cd148 rfl) rfl ?_
        refine rc_iinc [some (mvR 4), some (mvR e), u2.map mvI, some (mvI l3), some (mvI (mw (l4 + 1))), some (mvI v1), u6.map mvI] mq148 (mvDec_of cd148 rfl) rfl rfl ?_
        refine rc_goto (t := 33) mq148 (mvDec_of cd148 rfl) rfl ?_
        exact H
    · replace H := H.2 hc
      refine rc_iinc [some (mvR 4), some (mvR e), u2.map mvI, some (mvI (mw (l3 + 1))), some (mvI l4), some (mvI v1), u6.map mvI] mq148 (mvDec_of cd148 rfl) rfl (by cases u2 <;> rfl) ?_
      refine rc_goto (t := 145) mq148 (mvDec_of cd148 rfl) rfl ?_
      refine rc_iinc [some (mvR 4), some (mvR e), u2.map mvI, some (mvI (mw (l3 + 1))), some (mvI (mw (l4 + 1))), some (mvI v1), u6.map mvI] mq148 (mvDec_of cd148 rfl) rfl rfl ?_
      refine rc_goto (t := 33) mq148 (mvDec_of cd148 rfl) rfl ?_
      exact H
