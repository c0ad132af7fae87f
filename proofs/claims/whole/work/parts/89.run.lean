/-! run of the class -/
abbrev RG (j pc : Nat) (L : mvL) (S : List mvV) (g : Nat → Nat → Nat) (h : Nat → Int → Int) (K : Int → (Nat → Nat → Nat) → (Nat → Int → Int) → Prop) : Prop := Rch j pc L S (97, g, h) (fun r σ' => ∃ (x : Int) (g' : Nat → Nat → Nat) (h' : Nat → Int → Int), r = some (mvI x) ∧ σ' = (97, g', h') ∧ K x g' h')
abbrev RC_run_27 (g : Nat → Nat → Nat) (h : Nat → Int → Int) (u1 : Option Int) (K : Int → (Nat → Nat → Nat) → (Nat → Int → Int) → Prop) : Prop := RG 216 27 [some (mvR 3), u1.map mvI] [] g h K
theorem RC_run_wp {sw : Bool} {g : Nat → Nat → Nat} {h : Nat → Int → Int} {K : Int → (Nat → Nat → Nat) → (Nat → Int → Int) → Prop} (hG : Gok sw g) (H :
  PG_readInto g h (evD sw) (fun r2 h1 =>
    ((r2 = 0 →
      K (-103) g h1) ∧
    (¬ r2 = 0 →
      EV_link g h1 (evD sw) (fun r4 h3 =>
        ((¬ r4 = 0 →
          RC_run_27 g h3 none K) ∧
        (r4 = 0 →
          K (-103) g h3))))))) : RG 216 0 [some (mvR 3), none] [] g h K := by
  refine rc_aload_n mq216 (mvDec_of cd216 rfl) rfl ?_
  refine rc_getR 4 mq216 (mvDec_of cd216 rfl) fl_0_12 mis3 rfl (gr_3_0 hG) (by decide) ?_
  refine rc_aload_n mq216 (mvDec_of cd216 rfl) rfl ?_
  refine rc_getR (evD sw) mq216 (mvDec_of cd216 rfl) fl_0_23 mis3 rfl (gr_3_2 hG) (evD_ne sw) ?_
  refine rc_callV [mvR 4, mvR (evD sw)] [] [some (mvR 4), some (mvR (evD sw)), none, none, none, none, none] mq216 (mvDec_of cd216 rfl) lk_0_87 mq148 (by decide) rfl rfl (Nat.le_of_ble_eq_true rfl) (Nat.le_of_ble_eq_true rfl) (by decide) rfl mis4 rfl (ri_bind H (fun r2 h1 H => ?_))
  refine rc_if_eq (t := 24) mq216 (mvDec_of cd216 rfl) rfl (fun hc => ?_) (fun hc => ?_)
  · replace H := H.1 hc
    refine rc_bipush mq216 (mvDec_of cd216 rfl) (by decide) ?_
    exact rc_iret mq216 (mvDec_of cd216 rfl) ⟨_, _, _, rfl, rfl, H⟩
  · replace H := H.2 hc
    refine rc_aload_n mq216 (mvDec_of cd216 rfl) rfl ?_
    refine rc_getR (evD sw) mq216 (mvDec_of cd216 rfl) fl_0_23 mis3 rfl (gr_3_2 hG) (evD_ne sw) ?_
    refine rc_callV [mvR (evD sw)] [] [some (mvR (evD sw)), none] mq216 (mvDec_of cd216 rfl) lk_0_91 mq207 (by decide) rfl rfl (Nat.le_of_ble_eq_true rfl) (Nat.le_of_ble_eq_true rfl) (by decide) rfl (miE0 (evD_id sw)) rfl (ri_bind H (fun r4 h3 H => ?_))
    refine rc_if_ne (t := 27) mq216 (mvDec_of cd216 rfl) rfl (fun hc => ?_) (fun hc => ?_)
    · replace H := H.1 hc
      exact H
    · replace H := H.2 hc
      refine rc_bipush mq216 (mvDec_of cd216 rfl) (by decide) ?_
      exact rc_iret mq216 (mvDec_of cd216 rfl) ⟨_, _, _, rfl, rfl, H⟩
theorem RC_run_45_wp {sw : Bool} {g : Nat → Nat → Nat} {h : Nat → Int → Int} {e : Nat} {K : Int → (Nat → Int → Int) → Prop} (hG : Gok sw g) (H :
  (∀ h1, h1 = mvUpd h 4 1 0 →
  PR_allowAll g h1 (fun h2 =>
    (∀ h3, h3 = mvUpd h2 3 10 (mw ((h2 3 10) + 1)) →
    (∀ h4, h4 = mvUpd h3 61 0 (-1) →
    (∀ h5, h5 = mvUpd h4 63 0 0 →
    (∀ h6, h6 = mvUpd h5 24 0 0 →
    (∀ h7, h7 = mvUpd h6 33 0 0 →
    (∀ h8, h8 = mvUpd h7 51 0 0 →
    (∀ h9, h9 = mvUpd h8 58 0 0 →
    K (h9 (evO sw) 0) h9)))))))))) : RI 216 45 [some (mvR 3), some (mvR e)] [] g h K := by
  refine rc_aload_n mq216 (mvDec_of cd216 rfl) rfl ?_
  refine rc_getR 4 mq216 (mvDec_of cd216 rfl) fl_0_12 mis3 rfl (gr_3_0 hG) (by decide) ?_
  refine rc_iconst mq216 (mvDec_of cd216 rfl) (by decide) ?_
  refine rc_putI 1 mq216 (mvDec_of cd216 rfl) fl_0_75 mis4 rfl (fun z => absurd z (by decide)) (Or.inl rfl) ?_
  refine rc_heap (fun h1 hh => ?_)
  replace H := H h1 hh
  refine rc_aload_n mq216 (mvDec_of cd216 rfl) rfl ?_
  refine rc_getR 31 mq216 (mvDec_of cd216 rfl) fl_0_36 mis3 rfl (gr_3_4 hG) (by decide) ?_
  refine rc_callV [mvR 31] [] [some (mvR 31)] mq216 (mvDec_of cd216 rfl) lk_0_95 mq94 (by decide) rfl rfl (Nat.le_of_ble_eq_true rfl) (Nat.le_of_ble_eq_true rfl) (by decide) rfl mis31 rfl (rv_bind H (fun h2 H => ?_))
  refine rc_aload_n mq216 (mvDec_of cd216 rfl) rfl ?_
  refine rc_dup mq216 (mvDec_of cd216 rfl) rfl ?_
  refine rc_getI 10 mq216 (mvDec_of cd216 rfl) fl_0_98 mis3 rfl (by decide) (by decide) ?_
  refine rc_iconst mq216 (mvDec_of cd216 rfl) (by decide) ?_
  refine rc_iadd mq216 (mvDec_of cd216 rfl) ?_
  refine rc_putI 10 mq216 (mvDec_of cd216 rfl) fl_0_98 mis3 rfl (fun z => absurd z (by decide)) (Or.inl rfl) ?_
  refine rc_heap (fun h3 hh => ?_)
  replace H := H h3 hh
  refine rc_aload_n mq216 (mvDec_of cd216 rfl) rfl ?_
  refine rc_callV [mvR 3] [] [some (mvR 3)] mq216 (mvDec_of cd216 rfl) lk_0_101 mq147 (by decide) rfl rfl (Nat.le_of_ble_eq_true rfl) (Nat.le_of_ble_eq_true rfl) (by decide) rfl mis3 rfl ?_
  refine rc_aload_n mq147 (mvDec_of cd147 rfl) rfl ?_
  refine rc_getR 61 mq147 (mvDec_of cd147 rfl) fl_0_64 mis3 rfl (gr_3_8 hG) (by decide) ?_
  refine rc_iconst mq147 (mvDec_of cd147 rfl) (by decide) ?_
  refine rc_putI 0 mq147 (mvDec_of cd147 rfl) fl_0_248 mis61 rfl (fun z => absurd z (by decide)) (Or.inl rfl) ?_
  refine rc_heap (fun h4 hh => ?_)
  replace H := H h4 hh
  refine rc_aload_n mq147 (mvDec_of cd147 rfl) rfl ?_
  refine rc_getR 63 mq147 (mvDec_of cd147 rfl) fl_0_71 mis3 rfl (gr_3_9 hG) (by decide) ?_
  refine rc_iconst mq147 (mvDec_of cd147 rfl) (by decide) ?_
  refine rc_putI 0 mq147 (mvDec_of cd147 rfl) fl_0_240 mis63 rfl (fun z => absurd z (by decide)) (Or.inr ⟨rfl, Or.inl rfl⟩) ?_
  refine rc_heap (fun h5 hh => ?_)
  replace H := H h5 hh
  refine rc_aload_n mq147 (mvDec_of cd147 rfl) rfl ?_
  refine rc_getR 24 mq147 (mvDec_of cd147 rfl) fl_0_29 mis3 rfl (gr_3_3 hG) (by decide) ?_
  refine rc_iconst mq147 (mvDec_of cd147 rfl) (by decide) ?_
  refine rc_putI 0 mq147 (mvDec_of cd147 rfl) fl_0_298 mis24 rfl (fun z => absurd z (by decide)) (Or.inr ⟨rfl, Or.inl rfl⟩) ?_
  refine rc_heap (fun h6 hh => ?_)
  replace H := H h6 hh
  refine rc_aload_n mq147 (mvDec_of cd147 rfl) rfl ?_
  refine rc_callV [mvR 3] [] [some (mvR 3)] mq147 (mvDec_of cd147 rfl) lk_0_199 mq73 (by decide) rfl rfl (Nat.le_of_ble_eq_true rfl) (Nat.le_of_ble_eq_true rfl) (by decide) rfl mis3 rfl ?_
  refine rc_aload_n mq73 (mvDec_of cd73 rfl) rfl ?_
  refine rc_getR 33 mq73 (mvDec_of cd73 rfl) fl_0_43 mis3 rfl (gr_3_5 hG) (by decide) ?_
  refine rc_iconst mq73 (mvDec_of cd73 rfl) (by decide) ?_
  refine rc_putI 0 mq73 (mvDec_of cd73 rfl) fl_0_301 mis33 rfl (fun z => absurd z (by decide)) (Or.inr ⟨rfl, Or.inl rfl⟩) ?_
  refine rc_heap (fun h7 hh => ?_)
  replace H := H h7 hh
  refine rc_aload_n mq73 (mvDec_of cd73 rfl) rfl ?_
  refine rc_getR 41 mq73 (mvDec_of cd73 rfl) fl_0_57 mis3 rfl (gr_3_7 hG) (by decide) ?_
  refine rc_callV [mvR 41] [] [some (mvR 41)] mq73 (mvDec_of cd73 rfl) lk_0_302 mq35 (by decide) rfl rfl (Nat.le_of_ble_eq_true rfl) (Nat.le_of_ble_eq_true rfl) (by decide) rfl mis41 rfl ?_
  refine rc_aload_n mq35 (mvDec_of cd35 rfl) rfl ?_
  refine rc_getR 51 mq35 (mvDec_of cd35 rfl) fl_7_21 mis41 rfl (gr_41_1 hG) (by decide) ?_
  refine rc_iconst mq35 (mvDec_of cd35 rfl) (by decide) ?_
  refine rc_putI 0 mq35 (mvDec_of cd35 rfl) fl_7_32 mis51 rfl (fun z => absurd z (by decide)) (Or.inr ⟨rfl, Or.inl rfl⟩) ?_
  refine rc_heap (fun h8 hh => ?_)
  replace H := H h8 hh
  refine rc_aload_n mq35 (mvDec_of cd35 rfl) rfl ?_
  refine rc_getR 58 mq35 (mvDec_of cd35 rfl) fl_7_28 mis41 rfl (gr_41_2 hG) (by decide) ?_
  refine rc_iconst mq35 (mvDec_of cd35 rfl) (by decide) ?_
  refine rc_putI 0 mq35 (mvDec_of cd35 rfl) fl_7_36 mis58 rfl (fun z => absurd z (by decide)) (Or.inr ⟨rfl, Or.inl rfl⟩) ?_
  refine rc_heap (fun h9 hh => ?_)
  replace H := H h9 hh
  refine rc_vret mq35 (mvDec_of cd35 rfl) ?_
  show Rch 73 15 [some (mvR 3)] [] (97, g, h9) _
  refine rc_vret mq73 (mvDec_of cd73 rfl) ?_
  show Rch 147 28 [some (mvR 3)] [] (97, g, h9) _
  refine rc_vret mq147 (mvDec_of cd147 rfl) ?_
  show Rch 216 74 [some (mvR 3), some (mvR e)] [] (97, g, h9) _
  refine rc_aload_n mq216 (mvDec_of cd216 rfl) rfl ?_
  refine rc_getR (evO sw) mq216 (mvDec_of cd216 rfl) fl_0_19 mis3 rfl (gr_3_1 hG) (evO_ne sw) ?_
  refine rc_getI 0 mq216 (mvDec_of cd216 rfl) fl_0_104 (miE0 (evO_id sw)) rfl (by decide) (by decide) ?_
  exact rc_iret mq216 (mvDec_of cd216 rfl) ⟨_, _, rfl, rfl, H⟩
theorem Gok.swap {sw : Bool} {g : Nat → Nat → Nat} (hG : Gok sw g) : Gok (!sw) (mvUpg (mvUpg g 3 1 (evD sw)) 3 2 (evO sw)) := by
  have key : ∀ z ∈ mvRefs, ¬ (z.1.1 = 3 ∧ z.1.2 = 1) ∧ ¬ (z.1.1 = 3 ∧ z.1.2 = 2) := by decide
  refine ⟨fun z hz => ?_, ?_, ?_⟩
  · obtain ⟨a, b⟩ := key z hz
    unfold mvUpg
    rw [if_neg b, if_neg a]
    exact hG.1 z hz
  · cases sw <;> rfl
  · cases sw <;> rfl
theorem RC_run_27_wp {sw : Bool} {g : Nat → Nat → Nat} {h : Nat → Int → Int} {K : Int → (Nat → Nat → Nat) → (Nat → Int → Int) → Prop} (hG : Gok sw g) (H : ∀ g', Gok (!sw) g' → RI 216 45 [some (mvR 3), some (mvR (evO sw))] [] g' h (fun x h' => K x g' h')) : RC_run_27 g h none K := by
  refine rc_aload_n mq216 (mvDec_of cd216 rfl) rfl ?_
  refine rc_getR (evO sw) mq216 (mvDec_of cd216 rfl) fl_0_19 mis3 rfl (gr_3_1 hG) (evO_ne sw) ?_
  refine rc_astore_n [some (mvR 3), some (mvR (evO sw))] mq216 (mvDec_of cd216 rfl) rfl ?_
  refine rc_aload_n mq216 (mvDec_of cd216 rfl) rfl ?_
  refine rc_aload_n mq216 (mvDec_of cd216 rfl) rfl ?_
  refine rc_getR (evD sw) mq216 (mvDec_of cd216 rfl) fl_0_23 mis3 rfl (gr_3_2 hG) (evD_ne sw) ?_
  refine rc_putR mq216 (mvDec_of cd216 rfl) fl_0_19 mis3 (fun z => absurd z (by decide)) ⟨rfl, evD_ne sw⟩ ?_
  refine rc_aload_n mq216 (mvDec_of cd216 rfl) rfl ?_
  refine rc_aload_n mq216 (mvDec_of cd216 rfl) rfl ?_
  refine rc_putR mq216 (mvDec_of cd216 rfl) fl_0_23 mis3 (fun z => absurd z (by decide)) ⟨rfl, evO_ne sw⟩ ?_
  refine rc_mono (H _ hG.swap) (fun r σ' h => ?_)
  obtain ⟨x, h', a, b, c⟩ := h
  exact ⟨x, _, h', a, b, c⟩
