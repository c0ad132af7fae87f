/-! out of the bytecode, by program: what suffices for a method (_wp), for a loop at its head (_place_wp) -/
abbrev RC_levelOf (g : Nat → Nat → Nat) (h : Nat → Int → Int) (x0 : Int) (K : Int → (Nat → Int → Int) → Prop) : Prop := RI 4 0 [some (mvI x0)] [] g h K
theorem RC_levelOf_wp {sw : Bool} {g : Nat → Nat → Nat} {h : Nat → Int → Int} {x0 : Int} {K : Int → (Nat → Int → Int) → Prop} (hG : Gok sw g)  (H :
  K (mw ((mw ((mw ((mw (x0.tdiv 1000)) + ((mw (x0.tdiv 100)).tmod 10))) + ((mw (x0.tdiv 10)).tmod 10))) + (x0.tmod 10))) h) : RC_levelOf g h x0 K := by
  refine rc_iload_n mq4 (mvDec_of cd4 rfl) rfl ?_
  refine rc_sipush mq4 (mvDec_of cd4 rfl) (by decide) ?_
  refine rc_idiv mq4 (mvDec_of cd4 rfl) (by decide) ?_
  refine rc_iload_n mq4 (mvDec_of cd4 rfl) rfl ?_
  refine rc_bipush mq4 (mvDec_of cd4 rfl) (by decide) ?_
  refine rc_idiv mq4 (mvDec_of cd4 rfl) (by decide) ?_
  refine rc_bipush mq4 (mvDec_of cd4 rfl) (by decide) ?_
  refine rc_irem mq4 (mvDec_of cd4 rfl) (by decide) ?_
  refine rc_iadd mq4 (mvDec_of cd4 rfl) ?_
  refine rc_iload_n mq4 (mvDec_of cd4 rfl) rfl ?_
  refine rc_bipush mq4 (mvDec_of cd4 rfl) (by decide) ?_
  refine rc_idiv mq4 (mvDec_of cd4 rfl) (by decide) ?_
  refine rc_bipush mq4 (mvDec_of cd4 rfl) (by decide) ?_
  refine rc_irem mq4 (mvDec_of cd4 rfl) (by decide) ?_
  refine rc_iadd mq4 (mvDec_of cd4 rfl) ?_
  refine rc_iload_n mq4 (mvDec_of cd4 rfl) rfl ?_
  refine rc_bipush mq4 (mvDec_of cd4 rfl) (by decide) ?_
  refine rc_irem mq4 (mvDec_of cd4 rfl) (by decide) ?_
  refine rc_iadd mq4 (mvDec_of cd4 rfl) ?_
  exact rc_iret mq4 (mvDec_of cd4 rfl) ⟨_, _, rfl, rfl, H⟩
