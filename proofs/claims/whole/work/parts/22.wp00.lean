/-! out of the bytecode, by program: what suffices for a method (_wp), for a loop at its head (_place_wp) -/
abbrev AR_fill (g : Nat → Nat → Nat) (h : Nat → Int → Int) (b0 : Nat) (x1 : Int) (K : (Nat → Int → Int) → Prop) : Prop := RV 65 0 [some (mvR b0), some (mvI x1), none, none] [] g h K
abbrev AR_fill_5 (g : Nat → Nat → Nat) (h : Nat → Int → Int) (b0 : Nat) (l1 : Int) (l2 : Int) (l3 : Int) (K : (Nat → Int → Int) → Prop) : Prop := RV 65 5 [some (mvR b0), some (mvI l1), some (mvI l2), some (mvI l3)] [] g h K
theorem AR_fill_wp {sw : Bool} {g : Nat → Nat → Nat} {h : Nat → Int → Int} {b0 n0 : Nat} {x1 : Int} {K : (Nat → Int → Int) → Prop} (hG : Gok sw g)  (ia0 : mvIs 97 b0 = (1, 0, n0)) (H :
  (∀ v1, v1 = ((n0 : Int)) →
  AR_fill_5 g h b0 x1 0 v1 K)) : AR_fill g h b0 x1 K := by
  refine rc_iconst mq65 (mvDec_of cd65 rfl) (by decide) ?_
  refine rc_istore_n [some (mvR b0), some (mvI x1), some (mvI 0), none] mq65 (mvDec_of cd65 rfl) rfl ?_
  refine rc_aload_n mq65 (mvDec_of cd65 rfl) rfl ?_
  refine rc_alen mq65 (mvDec_of cd65 rfl) ia0 ?_
  refine rc_top (fun v1 hv => ?_)
  replace H := H v1 hv
  refine rc_istore_n [some (mvR b0), some (mvI x1), some (mvI 0), some (mvI v1)] mq65 (mvDec_of cd65 rfl) rfl ?_
  exact H
theorem AR_fill_5_wp {sw : Bool} {g : Nat → Nat → Nat} {h : Nat → Int → Int} {b0 n0 : Nat} {l1 : Int} {l2 : Int} {l3 : Int} {K : (Nat → Int → Int) → Prop} (hG : Gok sw g)  (ia0 : mvIs 97 b0 = (1, 0, n0)) (H :
  ((l3 ≤ l2 →
    K h) ∧
  (l2 < l3 →
    (0 ≤ l2 ∧ l2 < (n0 : Int)) ∧
    (∀ h1, h1 = mvUpd h b0 l2 l1 →
    AR_fill_5 g h1 b0 l1 (mw (l2 + 1)) l3 K)))) : AR_fill_5 g h b0 l1 l2 l3 K := by
  refine rc_iload_n mq65 (mvDec_of cd65 rfl) rfl ?_
  refine rc_iload_n mq65 (mvDec_of cd65 rfl) rfl ?_
  refine rc_icmp_ge (t := 20) mq65 (mvDec_of cd65 rfl) rfl (fun hc => ?_) (fun hc => ?_)
  · replace H := H.1 hc
    exact rc_vret mq65 (mvDec_of cd65 rfl) ⟨_, rfl, rfl, H⟩
  · replace H := H.2 hc
    refine rc_aload_n mq65 (mvDec_of cd65 rfl) rfl ?_
    refine rc_iload_n mq65 (mvDec_of cd65 rfl) rfl ?_
    refine rc_iload_n mq65 (mvDec_of cd65 rfl) rfl ?_
    obtain ⟨⟨hb0, hb1⟩, H⟩ := H
    refine rc_iast mq65 (mvDec_of cd65 rfl) ia0 hb0 hb1 ?_
    refine rc_heap (fun h1 hh => ?_)
    replace H := H h1 hh
    refine rc_iinc [some (mvR b0), some (mvI l1), some (mvI (mw (l2 + 1))), some (mvI l3)] mq65 (mvDec_of cd65 rfl) rfl rfl ?_
    refine rc_goto (t := 5) mq65 (mvDec_of cd65 rfl) rfl ?_
    exact H
