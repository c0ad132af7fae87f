/-! out of the bytecode, by program: what suffices for a method (_wp), for a loop at its head (_place_wp) -/
abbrev IG_bitCount (g : Nat → Nat → Nat) (h : Nat → Int → Int) (x0 : Int) (K : Int → (Nat → Int → Int) → Prop) : Prop := RI 66 0 [some (mvI x0)] [] g h K
theorem IG_bitCount_wp {sw : Bool} {g : Nat → Nat → Nat} {h : Nat → Int → Int} {x0 : Int} {K : Int → (Nat → Int → Int) → Prop} (hG : Gok sw g)  (H :
  (∀ v1, v1 = (mw (x0 - (mvAnd (mvUshr x0 1) 1431655765))) →
  (∀ v2, v2 = (mw ((mvAnd v1 858993459) + (mvAnd (mvUshr v1 2) 858993459))) →
  (∀ v3, v3 = (mvAnd (mw (v2 + (mvUshr v2 4))) 252645135) →
  (∀ v4, v4 = (mw (v3 + (mvUshr v3 8))) →
  (∀ v5, v5 = (mw (v4 + (mvUshr v4 16))) →
  K (mvAnd v5 63) h)))))) : IG_bitCount g h x0 K := by
  refine rc_iload_n mq66 (mvDec_of cd66 rfl) rfl ?_
  refine rc_iload_n mq66 (mvDec_of cd66 rfl) rfl ?_
  refine rc_iconst mq66 (mvDec_of cd66 rfl) (by decide) ?_
  refine rc_iushr mq66 (mvDec_of cd66 rfl) ?_
  refine rc_ldcw mq66 (mvDec_of cd66 rfl) rfl ?_
  refine rc_iand mq66 (mvDec_of cd66 rfl) ?_
  refine rc_isub mq66 (mvDec_of cd66 rfl) ?_
  refine rc_top (fun v1 hv => ?_)
  replace H := H v1 hv
  refine rc_istore_n [some (mvI v1)] mq66 (mvDec_of cd66 rfl) rfl ?_
  refine rc_iload_n mq66 (mvDec_of cd66 rfl) rfl ?_
  refine rc_ldcw mq66 (mvDec_of cd66 rfl) rfl ?_
  refine rc_iand mq66 (mvDec_of cd66 rfl) ?_
  refine rc_iload_n mq66 (mvDec_of cd66 rfl) rfl ?_
  refine rc_iconst mq66 (mvDec_of cd66 rfl) (by decide) ?_
  refine rc_iushr mq66 (mvDec_of cd66 rfl) ?_
  refine rc_ldcw mq66 (mvDec_of cd66 rfl) rfl ?_
  refine rc_iand mq66 (mvDec_of cd66 rfl) ?_
  refine rc_iadd mq66 (mvDec_of cd66 rfl) ?_
  refine rc_top (fun v2 hv => ?_)
  replace H := H v2 hv
  refine rc_istore_n [some (mvI v2)] mq66 (mvDec_of cd66 rfl) rfl ?_
  refine rc_iload_n mq66 (mvDec_of cd66 rfl) rfl ?_
  refine rc_iload_n mq66 (mvDec_of cd66 rfl) rfl ?_
  refine rc_iconst mq66 (mvDec_of cd66 rfl) (by decide) ?_
  refine rc_iushr mq66 (mvDec_of cd66 rfl) ?_
  refine rc_iadd mq66 (mvDec_of cd66 rfl) ?_
  refine rc_ldcw mq66 (mvDec_of cd66 rfl) rfl ?_
  refine rc_iand mq66 (mvDec_of cd66 rfl) ?_
  refine rc_top (fun v3 hv => ?_)
  replace H := H v3 hv
  refine rc_istore_n [some (mvI v3)] mq66 (mvDec_of cd66 rfl) rfl ?_
  refine rc_iload_n mq66 (mvDec_of cd66 rfl) rfl ?_
  refine rc_iload_n mq66 (mvDec_of cd66 rfl) rfl ?_
  refine rc_bipush mq66 (mvDec_of cd66 rfl) (by decide) ?_
  refine rc_iushr mq66 (mvDec_of cd66 rfl) ?_
  refine rc_iadd mq66 (mvDec_of cd66 rfl) ?_
  refine rc_top (fun v4 hv => ?_)
  replace H := H v4 hv
  refine rc_istore_n [some (mvI v4)] mq66 (mvDec_of cd66 rfl) rfl ?_
  refine rc_iload_n mq66 (mvDec_of cd66 rfl) rfl ?_
  refine rc_iload_n mq66 (mvDec_of cd66 rfl) rfl ?_
  refine rc_bipush mq66 (mvDec_of cd66 rfl) (by decide) ?_
  refine rc_iushr mq66 (mvDec_of cd66 rfl) ?_
  refine rc_iadd mq66 (mvDec_of cd66 rfl) ?_
  refine rc_top (fun v5 hv => ?_)
  replace H := H v5 hv
  refine rc_istore_n [some (mvI v5)] mq66 (mvDec_of cd66 rfl) rfl ?_
  refine rc_iload_n mq66 (mvDec_of cd66 rfl) rfl ?_
  refine rc_bipush mq66 (mvDec_of cd66 rfl) (by decide) ?_
  refine rc_iand mq66 (mvDec_of cd66 rfl) ?_
  exact rc_iret mq66 (mvDec_of cd66 rfl) ⟨_, _, rfl, rfl, H⟩
