/-! out of the bytecode, by program: what suffices for a method (_wp), for a loop at its head (_place_wp) -/
abbrev PR_allowAll (g : Nat → Nat → Nat) (h : Nat → Int → Int)  (K : (Nat → Int → Int) → Prop) : Prop := RV 94 0 [some (mvR 31)] [] g h K
theorem PR_allowAll_wp {sw : Bool} {g : Nat → Nat → Nat} {h : Nat → Int → Int}  {K : (Nat → Int → Int) → Prop} (hG : Gok sw g)  (H :
  AR_fill g h 32 1023 (fun h1 =>
    K h1)) : PR_allowAll g h  K := by
  refine rc_aload_n mq94 (mvDec_of cd94 rfl) rfl ?_
  refine rc_getR 32 mq94 (mvDec_of cd94 rfl) fl_4_9 mis31 rfl (gr_31_2 hG) (by decide) ?_
  refine rc_sipush mq94 (mvDec_of cd94 rfl) (by decide) ?_
  refine rc_callS [mvR 32, mvI 1023] [] [some (mvR 32), some (mvI 1023), none, none] mq94 (mvDec_of cd94 rfl) lk_4_15 mq65 (by decide) rfl rfl (Nat.le_of_ble_eq_true rfl) (Nat.le_of_ble_eq_true rfl) (by decide) rfl (rv_bind H (fun h1 H => ?_))
  exact rc_vret mq94 (mvDec_of cd94 rfl) ⟨_, rfl, rfl, H⟩
abbrev PR_allowsAll (g : Nat → Nat → Nat) (h : Nat → Int → Int) (e : Nat) (x2 : Int) (K : Int → (Nat → Int → Int) → Prop) : Prop := RI 95 0 [some (mvR 31), some (mvR e), some (mvI x2), none] [] g h K
abbrev PR_allowsAll_2 (g : Nat → Nat → Nat) (h : Nat → Int → Int) (e : Nat) (l2 : Int) (l3 : Int) (K : Int → (Nat → Int → Int) → Prop) : Prop := RI 95 2 [some (mvR 31), some (mvR e), some (mvI l2), some (mvI l3)] [] g h K
theorem PR_allowsAll_wp {sw : Bool} {g : Nat → Nat → Nat} {h : Nat → Int → Int} {e : Nat} {x2 : Int} {K : Int → (Nat → Int → Int) → Prop} (hG : Gok sw g) (he : EvId e) (H :
  PR_allowsAll_2 g h e x2 0 K) : PR_allowsAll g h e x2 K := by
  refine rc_iconst mq95 (mvDec_of cd95 rfl) (by decide) ?_
  refine rc_istore_n [some (mvR 31), some (mvR e), some (mvI x2), some (mvI 0)] mq95 (mvDec_of cd95 rfl) rfl ?_
  exact H
theorem PR_allowsAll_2_wp {sw : Bool} {g : Nat → Nat → Nat} {h : Nat → Int → Int} {e : Nat} {l2 : Int} {l3 : Int} {K : Int → (Nat → Int → Int) → Prop} (hG : Gok sw g) (he : EvId e) (H :
  (((h e 0) ≤ l3 →
    K 1 h) ∧
  (l3 < (h e 0) →
    EV_valueIn g h e l2 l3 (fun r2 h1 =>
      (0 ≤ l3 ∧ l3 < 4) ∧
      (((mvAnd (mvShr (h1 32 l3) r2) 1) = 0 →
        K 0 h1) ∧
      (¬ (mvAnd (mvShr (h1 32 l3) r2) 1) = 0 →
        PR_allowsAll_2 g h1 e l2 (mw (l3 + 1)) K)))))) : PR_allowsAll_2 g h e l2 l3 K := by
  refine rc_iload_n mq95 (mvDec_of cd95 rfl) rfl ?_
  refine rc_aload_n mq95 (mvDec_of cd95 rfl) rfl ?_
  refine rc_getI 0 mq95 (mvDec_of cd95 rfl) fl_4_45 (miE0 he) rfl (by decide) (by decide) ?_
  refine rc_icmp_ge (t := 32) mq95 (mvDec_of cd95 rfl) rfl (fun hc => ?_) (fun hc => ?_)
  · replace H := H.1 hc
    refine rc_iconst mq95 (mvDec_of cd95 rfl) (by decide) ?_
    exact rc_zret mq95 (mvDec_of cd95 rfl) (Or.inr rfl) ⟨_, _, rfl, rfl, H⟩
  · replace H := H.2 hc
    refine rc_aload_n mq95 (mvDec_of cd95 rfl) rfl ?_
    refine rc_iload_n mq95 (mvDec_of cd95 rfl) rfl ?_
    refine rc_aload_n mq95 (mvDec_of cd95 rfl) rfl ?_
    refine rc_iload_n mq95 (mvDec_of cd95 rfl) rfl ?_
    refine rc_iload_n mq95 (mvDec_of cd95 rfl) rfl ?_
    refine rc_callV [mvR e, mvI l2, mvI l3] [mvI l3, mvR 31] [some (mvR e), some (mvI l2), some (mvI l3)] mq95 (mvDec_of cd95 rfl) lk_4_48 mq25 (by decide) rfl rfl (Nat.le_of_ble_eq_true rfl) (Nat.le_of_ble_eq_true rfl) (by decide) rfl (miE0 he) rfl (ri_bind H (fun r2 h1 H => ?_))
    refine rc_callV [mvR 31, mvI l3, mvI r2] [] [some (mvR 31), some (mvI l3), some (mvI r2)] mq95 (mvDec_of cd95 rfl) lk_4_52 mq28 (by decide) rfl rfl (Nat.le_of_ble_eq_true rfl) (Nat.le_of_ble_eq_true rfl) (by decide) rfl mis31 rfl ?_
    refine rc_aload_n mq28 (mvDec_of cd28 rfl) rfl ?_
    refine rc_getR 32 mq28 (mvDec_of cd28 rfl) fl_4_9 mis31 rfl (gr_31_2 hG) (by decide) ?_
    refine rc_iload_n mq28 (mvDec_of cd28 rfl) rfl ?_
    obtain ⟨⟨hb0, hb1⟩, H⟩ := H
    refine rc_iald mq28 (mvDec_of cd28 rfl) mis32 hb0 hb1 ?_
    refine rc_iload_n mq28 (mvDec_of cd28 rfl) rfl ?_
    refine rc_ishr mq28 (mvDec_of cd28 rfl) ?_
    refine rc_iconst mq28 (mvDec_of cd28 rfl) (by decide) ?_
    refine rc_iand mq28 (mvDec_of cd28 rfl) ?_
    refine rc_if_eq (t := 17) mq28 (mvDec_of cd28 rfl) rfl (fun hc => ?_) (fun hc => ?_)
    · replace H := H.1 hc
      refine rc_iconst mq28 (mvDec_of cd28 rfl) (by decide) ?_
      refine rc_zret mq28 (mvDec_of cd28 rfl) (Or.inl rfl) ?_
      show Rch 95 21 [some (mvR 31), some (mvR e), some (mvI l2), some (mvI l3)] [mvI 0] (97, g, h1) _
      refine rc_ifF (t := 26) mq95 (mvDec_of cd95 rfl) rfl rfl ?_
      refine rc_iconst mq95 (mvDec_of cd95 rfl) (by decide) ?_
      exact rc_zret mq95 (mvDec_of cd95 rfl) (Or.inl rfl) ⟨_, _, rfl, rfl, H⟩
    · replace H := H.2 hc
      refine rc_iconst mq28 (mvDec_of cd28 rfl) (by decide) ?_
      refine rc_goto (t := 18) mq28 (mvDec_of cd28 rfl) rfl ?_
      refine rc_zret mq28 (mvDec_of cd28 rfl) (Or.inr rfl) ?_
      show Rch 95 21 [some (mvR 31), some (mvR e), some (mvI l2), some (mvI l3)] [mvI 1] (97, g, h1) _
      refine rc_ifT (t := 26) mq95 (mvDec_of cd95 rfl) rfl rfl ?_
      refine rc_iinc [some (mvR 31), some (mvR e), some (mvI l2), some (mvI (mw (l3 + 1)))] mq95 (mvDec_of cd95 rfl) rfl rfl ?_
      refine rc_goto (t := 2) mq95 (mvDec_of cd95 rfl) rfl ?_
      exact H
abbrev PR_sumIn (g : Nat → Nat → Nat) (h : Nat → Int → Int) (e : Nat) (x1 : Int) (K : Int → (Nat → Int → Int) → Prop) : Prop := RI 96 0 [some (mvR e), some (mvI x1), none, none] [] g h K
abbrev PR_sumIn_4 (g : Nat → Nat → Nat) (h : Nat → Int → Int) (e : Nat) (l1 : Int) (l2 : Int) (l3 : Int) (K : Int → (Nat → Int → Int) → Prop) : Prop := RI 96 4 [some (mvR e), some (mvI l1), some (mvI l2), some (mvI l3)] [] g h K
theorem PR_sumIn_wp {sw : Bool} {g : Nat → Nat → Nat} {h : Nat → Int → Int} {e : Nat} {x1 : Int} {K : Int → (Nat → Int → Int) → Prop} (hG : Gok sw g) (he : EvId e) (H :
  PR_sumIn_4 g h e x1 0 0 K) : PR_sumIn g h e x1 K := by
  refine rc_iconst mq96 (mvDec_of cd96 rfl) (by decide) ?_
  refine rc_istore_n [some (mvR e), some (mvI x1), some (mvI 0), none] mq96 (mvDec_of cd96 rfl) rfl ?_
  refine rc_iconst mq96 (mvDec_of cd96 rfl) (by decide) ?_
  refine rc_istore_n [some (mvR e), some (mvI x1), some (mvI 0), some (mvI 0)] mq96 (mvDec_of cd96 rfl) rfl ?_
  exact H
theorem PR_sumIn_4_wp {sw : Bool} {g : Nat → Nat → Nat} {h : Nat → Int → Int} {e : Nat} {l1 : Int} {l2 : Int} {l3 : Int} {K : Int → (Nat → Int → Int) → Prop} (hG : Gok sw g) (he : EvId e) (H :
  (((h e 0) ≤ l3 →
    K l2 h) ∧
  (l3 < (h e 0) →
    EV_valueIn g h e l1 l3 (fun r2 h1 =>
      (∀ v3, v3 = (mw (l2 + r2)) →
      PR_sumIn_4 g h1 e l1 v3 (mw (l3 + 1)) K))))) : PR_sumIn_4 g h e l1 l2 l3 K := by
  refine rc_iload_n mq96 (mvDec_of cd96 rfl) rfl ?_
  refine rc_aload_n mq96 (mvDec_of cd96 rfl) rfl ?_
  refine rc_getI 0 mq96 (mvDec_of cd96 rfl) fl_4_45 (miE0 he) rfl (by decide) (by decide) ?_
  refine rc_icmp_ge (t := 27) mq96 (mvDec_of cd96 rfl) rfl (fun hc => ?_) (fun hc => ?_)
  · replace H := H.1 hc
    refine rc_iload_n mq96 (mvDec_of cd96 rfl) rfl ?_
    exact rc_iret mq96 (mvDec_of cd96 rfl) ⟨_, _, rfl, rfl, H⟩
  · replace H := H.2 hc
    refine rc_iload_n mq96 (mvDec_of cd96 rfl) rfl ?_
    refine rc_aload_n mq96 (mvDec_of cd96 rfl) rfl ?_
    refine rc_iload_n mq96 (mvDec_of cd96 rfl) rfl ?_
    refine rc_iload_n mq96 (mvDec_of cd96 rfl) rfl ?_
    refine rc_callV [mvR e, mvI l1, mvI l3] [mvI l2] [some (mvR e), some (mvI l1), some (mvI l3)] mq96 (mvDec_of cd96 rfl) lk_4_48 mq25 (by decide) rfl rfl (Nat.le_of_ble_eq_true rfl) (Nat.le_of_ble_eq_true rfl) (by decide) rfl (miE0 he) rfl (ri_bind H (fun r2 h1 H => ?_))
    refine rc_iadd mq96 (mvDec_of cd96 rfl) ?_
    refine rc_top (fun v3 hv => ?_)
    replace H := H v3 hv
    refine rc_istore_n [some (mvR e), some (mvI l1), some (mvI v3), some (mvI l3)] mq96 (mvDec_of cd96 rfl) rfl ?_
    refine rc_iinc [some (mvR e), some (mvI l1), some (mvI v3), some (mvI (mw (l3 + 1)))] mq96 (mvDec_of cd96 rfl) rfl rfl ?_
    refine rc_goto (t := 4) mq96 (mvDec_of cd96 rfl) rfl ?_
    exact H
abbrev PR_spreadIn (g : Nat → Nat → Nat) (h : Nat → Int → Int) (e : Nat) (x1 : Int) (K : Int → (Nat → Int → Int) → Prop) : Prop := RI 97 0 [some (mvR e), some (mvI x1), none, none, none, none] [] g h K
abbrev PR_spreadIn_8 (g : Nat → Nat → Nat) (h : Nat → Int → Int) (e : Nat) (l1 : Int) (l2 : Int) (l3 : Int) (l4 : Int) (u5 : Option Int) (K : Int → (Nat → Int → Int) → Prop) : Prop := RI 97 8 [some (mvR e), some (mvI l1), some (mvI l2), some (mvI l3), some (mvI l4), u5.map mvI] [] g h K
theorem PR_spreadIn_wp {sw : Bool} {g : Nat → Nat → Nat} {h : Nat → Int → Int} {e : Nat} {x1 : Int} {K : Int → (Nat → Int → Int) → Prop} (hG : Gok sw g) (he : EvId e) (H :
  PR_spreadIn_8 g h e x1 9 0 0 none K) : PR_spreadIn g h e x1 K := by
  refine rc_bipush mq97 (mvDec_of cd97 rfl) (by decide) ?_
  refine rc_istore_n [some (mvR e), some (mvI x1), some (mvI 9), none, none, none] mq97 (mvDec_of cd97 rfl) rfl ?_
  refine rc_iconst mq97 (mvDec_of cd97 rfl) (by decide) ?_
  refine rc_istore_n [some (mvR e), some (mvI x1), some (mvI 9), some (mvI 0), none, none] mq97 (mvDec_of cd97 rfl) rfl ?_
  refine rc_iconst mq97 (mvDec_of cd97 rfl) (by decide) ?_
  refine rc_istore [some (mvR e), some (mvI x1), some (mvI 9), some (mvI 0), some (mvI 0), none] mq97 (mvDec_of cd97 rfl) rfl ?_
  exact H
theorem PR_spreadIn_8_wp {sw : Bool} {g : Nat → Nat → Nat} {h : Nat → Int → Int} {e : Nat} {l1 : Int} {l2 : Int} {l3 : Int} {l4 : Int} {u5 : Option Int} {K : Int → (Nat → Int → Int) → Prop} (hG : Gok sw g) (he : EvId e) (H :
  (((h e 0) ≤ l4 →
    K (mw (l3 - l2)) h) ∧
  (l4 < (h e 0) →
    EV_valueIn g h e l1 l4 (fun r2 h1 =>
      (∀ v3, v3 = (if r2 < l2 then r2 else l2) →
      (∀ v4, v4 = (if l3 < r2 then r2 else l3) →
      PR_spreadIn_8 g h1 e l1 v3 v4 (mw (l4 + 1)) (some r2) K)))))) : PR_spreadIn_8 g h e l1 l2 l3 l4 u5 K := by
  refine rc_iload mq97 (mvDec_of cd97 rfl) rfl ?_
  refine rc_aload_n mq97 (mvDec_of cd97 rfl) rfl ?_
  refine rc_getI 0 mq97 (mvDec_of cd97 rfl) fl_4_45 (miE0 he) rfl (by decide) (by decide) ?_
  refine rc_icmp_ge (t := 46) mq97 (mvDec_of cd97 rfl) rfl (fun hc => ?_) (fun hc => ?_)
  · replace H := H.1 hc
    refine rc_iload_n mq97 (mvDec_of cd97 rfl) rfl ?_
    refine rc_iload_n mq97 (mvDec_of cd97 rfl) rfl ?_
    refine rc_isub mq97 (mvDec_of cd97 rfl) ?_
    exact rc_iret mq97 (mvDec_of cd97 rfl) ⟨_, _, rfl, rfl, H⟩
  · replace H := H.2 hc
    refine rc_aload_n mq97 (mvDec_of cd97 rfl) rfl ?_
    refine rc_iload_n mq97 (mvDec_of cd97 rfl) rfl ?_
    refine rc_iload mq97 (mvDec_of cd97 rfl) rfl ?_
    refine rc_callV [mvR e, mvI l1, mvI l4] [] [some (mvR e), some (mvI l1), some (mvI l4)] mq97 (mvDec_of cd97 rfl) lk_4_48 mq25 (by decide) rfl rfl (Nat.le_of_ble_eq_true rfl) (Nat.le_of_ble_eq_true rfl) (by decide) rfl (miE0 he) rfl (ri_bind H (fun r2 h1 H => ?_))
    refine rc_istore [some (mvR e), some (mvI l1), some (mvI l2), some (mvI l3), some (mvI l4), some (mvI r2)] mq97 (mvDec_of cd97 rfl) rfl ?_
    refine rc_iload_n mq97 (mvDec_of cd97 rfl) rfl ?_
    refine rc_iload mq97 (mvDec_of cd97 rfl) rfl ?_
    refine rc_min mq97 (mvDec_of cd97 rfl) lk_4_56 ⟨by decide, Nat.le_of_ble_eq_true rfl⟩ ?_
    refine rc_top (fun v3 hv => ?_)
    replace H := H v3 hv
    refine rc_istore_n [some (mvR e), some (mvI l1), some (mvI v3), some (mvI l3), some (mvI l4), some (mvI r2)] mq97 (mvDec_of cd97 rfl) rfl ?_
    refine rc_iload_n mq97 (mvDec_of cd97 rfl) rfl ?_
    refine rc_iload mq97 (mvDec_of cd97 rfl) rfl ?_
    refine rc_max mq97 (mvDec_of cd97 rfl) lk_4_61 ⟨by decide, Nat.le_of_ble_eq_true rfl⟩ ?_
    refine rc_top (fun v4 hv => ?_)
    replace H := H v4 hv
    refine rc_istore_n [some (mvR e), some (mvI l1), some (mvI v3), some (mvI v4), some (mvI l4), some (mvI r2)] mq97 (mvDec_of cd97 rfl) rfl ?_
    refine rc_iinc [some (mvR e), some (mvI l1), some (mvI v3), some (mvI v4), some (mvI (mw (l4 + 1))), some (mvI r2)] mq97 (mvDec_of cd97 rfl) rfl rfl ?_
    refine rc_goto (t := 8) mq97 (mvDec_of cd97 rfl) rfl ?_
    exact H
abbrev PR_holdsIn (g : Nat → Nat → Nat) (h : Nat → Int → Int) (e : Nat) (x2 : Int) (K : Int → (Nat → Int → Int) → Prop) : Prop := RI 154 0 [some (mvR 31), some (mvR e), some (mvI x2)] [] g h K
theorem PR_holdsIn_wp {sw : Bool} {g : Nat → Nat → Nat} {h : Nat → Int → Int} {e : Nat} {x2 : Int} {K : Int → (Nat → Int → Int) → Prop} (hG : Gok sw g) (he : EvId e) (H :
  ((((h 31 0) < 0 ∨ 2 < (h 31 0)) →
    PR_spreadIn g h e x2 (fun r2 h1 =>
      ((r2 < (h1 31 1) →
        K 0 h1) ∧
      ((h1 31 1) ≤ r2 →
        K 1 h1)))) ∧
  ((h 31 0) = 0 →
    PR_allowsAll g h e x2 (fun r4 h3 =>
      (r4 = 0 ∨ r4 = 1) ∧ K r4 h3)) ∧
  ((h 31 0) = 1 →
    PR_sumIn g h e x2 (fun r6 h5 =>
      ((¬ r6 = (h5 31 1) →
        K 0 h5) ∧
      (r6 = (h5 31 1) →
        K 1 h5)))) ∧
  ((h 31 0) = 2 →
    EV_underWay g h e x2 (fun r8 h7 =>
      ((¬ r8 = 0 →
        K 0 h7) ∧
      (r8 = 0 →
        K 1 h7)))))) : PR_holdsIn g h e x2 K := by
  refine rc_aload_n mq154 (mvDec_of cd154 rfl) rfl ?_
  refine rc_getI 0 mq154 (mvDec_of cd154 rfl) fl_4_21 mis31 rfl (by decide) (by decide) ?_
  have hsw : ((h 31 0) < 0 ∨ 2 < (h 31 0)) ∨ (h 31 0) = 0 ∨ (h 31 0) = 1 ∨ (h 31 0) = 2 := by omega
  rcases hsw with hsw | hsw | hsw | hsw
  · replace H := H.1 hsw
    refine rc_swD (t := 71) mq154 (mvDec_of cd154 rfl) hsw rfl ?_
    refine rc_aload_n mq154 (mvDec_of cd154 rfl) rfl ?_
    refine rc_iload_n mq154 (mvDec_of cd154 rfl) rfl ?_
    refine rc_callS [mvR e, mvI x2] [] [some (mvR e), some (mvI x2), none, none, none, none] mq154 (mvDec_of cd154 rfl) lk_4_42 mq97 (by decide) rfl rfl (Nat.le_of_ble_eq_true rfl) (Nat.le_of_ble_eq_true rfl) (by decide) rfl (ri_bind H (fun r2 h1 H => ?_))
    refine rc_aload_n mq154 (mvDec_of cd154 rfl) rfl ?_
    refine rc_getI 1 mq154 (mvDec_of cd154 rfl) fl_4_33 mis31 rfl (by decide) (by decide) ?_
    refine rc_icmp_lt (t := 87) mq154 (mvDec_of cd154 rfl) rfl (fun hc => ?_) (fun hc => ?_)
    · replace H := H.1 hc
      refine rc_iconst mq154 (mvDec_of cd154 rfl) (by decide) ?_
      exact rc_zret mq154 (mvDec_of cd154 rfl) (Or.inl rfl) ⟨_, _, rfl, rfl, H⟩
    · replace H := H.2 hc
      refine rc_iconst mq154 (mvDec_of cd154 rfl) (by decide) ?_
      refine rc_goto (t := 88) mq154 (mvDec_of cd154 rfl) rfl ?_
      exact rc_zret mq154 (mvDec_of cd154 rfl) (Or.inr rfl) ⟨_, _, rfl, rfl, H⟩
  · replace H := H.2.1 hsw
    refine rc_swI (t := 32) mq154 (mvDec_of cd154 rfl) (by omega) (by rw [hsw]; rfl) rfl ?_
    refine rc_aload_n mq154 (mvDec_of cd154 rfl) rfl ?_
    refine rc_aload_n mq154 (mvDec_of cd154 rfl) rfl ?_
    refine rc_iload_n mq154 (mvDec_of cd154 rfl) rfl ?_
    refine rc_callV [mvR 31, mvR e, mvI x2] [] [some (mvR 31), some (mvR e), some (mvI x2), none] mq154 (mvDec_of cd154 rfl) lk_4_25 mq95 (by decide) rfl rfl (Nat.le_of_ble_eq_true rfl) (Nat.le_of_ble_eq_true rfl) (by decide) rfl mis31 rfl (ri_bind H (fun r4 h3 H => ?_))
    exact rc_zret mq154 (mvDec_of cd154 rfl) H.1 ⟨_, _, rfl, rfl, H.2⟩
  · replace H := H.2.2.1 hsw
    refine rc_swI (t := 39) mq154 (mvDec_of cd154 rfl) (by omega) (by rw [hsw]; rfl) rfl ?_
    refine rc_aload_n mq154 (mvDec_of cd154 rfl) rfl ?_
    refine rc_iload_n mq154 (mvDec_of cd154 rfl) rfl ?_
    refine rc_callS [mvR e, mvI x2] [] [some (mvR e), some (mvI x2), none, none] mq154 (mvDec_of cd154 rfl) lk_4_29 mq96 (by decide) rfl rfl (Nat.le_of_ble_eq_true rfl) (Nat.le_of_ble_eq_true rfl) (by decide) rfl (ri_bind H (fun r6 h5 H => ?_))
    refine rc_aload_n mq154 (mvDec_of cd154 rfl) rfl ?_
    refine rc_getI 1 mq154 (mvDec_of cd154 rfl) fl_4_33 mis31 rfl (by decide) (by decide) ?_
    refine rc_icmp_ne (t := 55) mq154 (mvDec_of cd154 rfl) rfl (fun hc => ?_) (fun hc => ?_)
    · replace H := H.1 hc
      refine rc_iconst mq154 (mvDec_of cd154 rfl) (by decide) ?_
      exact rc_zret mq154 (mvDec_of cd154 rfl) (Or.inl rfl) ⟨_, _, rfl, rfl, H⟩
    · replace H := H.2 hc
      refine rc_iconst mq154 (mvDec_of cd154 rfl) (by decide) ?_
      refine rc_goto (t := 56) mq154 (mvDec_of cd154 rfl) rfl ?_
      exact rc_zret mq154 (mvDec_of cd154 rfl) (Or.inr rfl) ⟨_, _, rfl, rfl, H⟩
  · replace H := H.2.2.2 hsw
    refine rc_swI (t := 57) mq154 (mvDec_of cd154 rfl) (by omega) (by rw [hsw]; rfl) rfl ?_
    refine rc_aload_n mq154 (mvDec_of cd154 rfl) rfl ?_
    refine rc_iload_n mq154 (mvDec_of cd154 rfl) rfl ?_
    refine rc_callV [mvR e, mvI x2] [] [some (mvR e), some (mvI x2), none, none] mq154 (mvDec_of cd154 rfl) lk_4_36 mq85 (by decide) rfl rfl (Nat.le_of_ble_eq_true rfl) (Nat.le_of_ble_eq_true rfl) (by decide) rfl (miE0 he) rfl (ri_bind H (fun r8 h7 H => ?_))
    refine rc_if_ne (t := 69) mq154 (mvDec_of cd154 rfl) rfl (fun hc => ?_) (fun hc => ?_)
    · replace H := H.1 hc
      refine rc_iconst mq154 (mvDec_of cd154 rfl) (by decide) ?_
      exact rc_zret mq154 (mvDec_of cd154 rfl) (Or.inl rfl) ⟨_, _, rfl, rfl, H⟩
    · replace H := H.2 hc
      refine rc_iconst mq154 (mvDec_of cd154 rfl) (by decide) ?_
      refine rc_goto (t := 70) mq154 (mvDec_of cd154 rfl) rfl ?_
      exact rc_zret mq154 (mvDec_of cd154 rfl) (Or.inr rfl) ⟨_, _, rfl, rfl, H⟩
