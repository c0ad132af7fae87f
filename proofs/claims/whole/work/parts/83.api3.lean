/-! cuts: the model; value, under, meet and join -/
section AP
variable {sw : Bool} {g : Nat → Nat → Nat} {h : Nat → Int → Int} {A : Sta} {K : Int → (Nat → Int → Int) → Prop}
theorem MD_cutNow_spec (hG : Gok sw g) {C : Cmp} {w : Wsh} {c : Int → Int} (E : MdOk h C) (Wh : MdW h w) (At0 : At h C c) (hi : In C c) {y : Int} (y0 : 0 ≤ y) (y5 : y ≤ 5) (hk : 2 ≤ y → Cons C c) (k : ∀ h', (∀ b, ¬ (81 ≤ b ∧ b ≤ 87) → h' b = h b) → K (if y = 0 then pick (Cons C c) 1 0 else if y = 1 then lev c else cutP C w c y) h') : MD_cutNow g h y K := by
  have V := E.2.2.1
  have W := V.1
  have hn := E.2.2.2.2
  have n := NP_le W
  have ir := ixc_r hi
  have ei := ctI_ixc W hi
  refine MD_cutNow_wp hG (MD_indexNow_spec hG E.1 W At0 hi ?_)
  unfold cutP at k
  refine ⟨fun z => ?_, fun z => ?_, fun z => ?_, fun z => ?_, fun z => ?_, fun z => ?_⟩
  · refine MD_wayPart_wp hG (MD_layCuts_spec hG E Wh (fun h1 F L => ?_))
    have k := k h1 F
    rw [if_neg (by omega), if_neg (by omega), if_neg (by omega), if_neg (by omega), if_neg (by omega)] at k
    refine ⟨fun _ => ⟨⟨ir.1, by omega⟩, ⟨ir.1, by omega⟩, ?_⟩, fun z3 => absurd z3 (by omega)⟩
    obtain ⟨-, -, d4, d5, -, -⟩ := L _ ir.1 ir.2
    rw [d4, d5, ei]
    exact k
  · have k := k h (fun _ _ => rfl)
    rw [if_pos z] at k
    refine MD_isConsistent_spec hG E At0 hi (fun a => ⟨fun z => absurd z (by decide), fun _ => ?_⟩) (fun a => ⟨fun _ => ?_, fun z => absurd rfl z⟩)
    · rw [pick_t a] at k; exact k
    · rw [pick_f a] at k; exact k
  · have k := k h (fun _ _ => rfl)
    rw [if_neg (by omega), if_pos z] at k
    exact MD_levelNow_spec hG E.1 W At0 hi k
  · have k := k h (fun _ _ => rfl)
    rw [if_neg (by omega), if_neg (by omega), if_pos z] at k
    refine MD_holds_spec hG E Wh At0 hi (hk (by omega)) (fun a => ⟨fun z => absurd z (by decide), fun _ => ?_⟩) (fun a => ⟨fun _ => ?_, fun z => absurd rfl z⟩)
    · rw [pick_t a] at k; exact k
    · rw [pick_f a] at k; exact k
  · refine MD_wayPart_wp hG (MD_layCuts_spec hG E Wh (fun h1 F L => ⟨fun n3 => absurd z n3, fun _ => ?_⟩))
    have E1 : MdOk h1 C := E.keep (by rw [F 68 (by omega)]) (fun b b1 b2 => F b (by omega))
    refine MD_nextBits_spec hG E1.1 V hn (fun j j0 j1 => (L j j0 j1).1) ir.1 ir.2 (by rw [ei]; exact hk (by omega)) (fun h2 F2 => ?_)
    have k := k h2 (fun b nb => (F2 b (by omega)).trans (F b nb))
    rw [if_neg (by omega), if_neg (by omega), if_neg (by omega), if_pos z] at k
    rw [ei]
    exact k
  · have k := k h (fun _ _ => rfl)
    rw [if_neg (by omega), if_neg (by omega), if_neg (by omega), if_neg (by omega), if_pos z] at k
    exact MD_underAll_spec hG E At0 hi (hk (by omega)) k
theorem MD_cut_spec (hG : Gok sw g) (P : StP A) (I : InvM h A) {x y : Int} (hx : mv32 x) (k : KM h (aCut A x y, A) K) : MD_cut g h x y K := by
  have R := I.2.1
  have W := P.1
  have hN := W.2.1
  have hN0 := W.1
  unfold aCut at k
  have kq : ∀ h', (∀ b, ¬ (81 ≤ b ∧ b ≤ 87) → h' b = h b) → K (aCut A x y) h' := fun h' F => k h' (fun b hb => F b (by omega)) (I.mod2 (fun b b1 b2 => F b (by omega)) (fun i hi => by rw [F 68 (by omega)]))
  unfold aCut at kq
  refine MD_cut_wp hG ?_
  rw [R.1]
  refine ⟨fun z => ?_, fun n0 => ?_⟩
  · rw [pick_t (by omega)] at k; exact I.same k
  have E := I.ev n0
  rw [pick_f (by omega)] at kq
  refine MD_takesTold_spec hG R W (by omega) hx (fun ic h1 F1 A1 => ⟨fun _ => ?_, fun z => absurd z (by decide)⟩) (fun ic h1 F1 _ => ⟨fun z => absurd rfl z, fun _ => ?_⟩)
  · rw [pick_t ic] at kq
    obtain ⟨hi, ex⟩ := ic.cut W (by omega)
    have F1' : ∀ b, ¬ (81 ≤ b ∧ b ≤ 87) → h1 b = h b := fun b nb => F1 b (by omega)
    have E1 : MdOk h1 (sC A) := E.keep (by rw [F1 68 (by omega)]) (fun b b1 b2 => F1 b (by omega))
    have W1 : MdW h1 (sW A) := I.2.2.2.1.keep (by rw [F1 68 (by omega)]) (by rw [F1 68 (by omega)]) (F1 74 (by omega))
    refine ⟨fun z => ?_, fun y0 => ⟨fun z => ?_, fun y5 => ⟨fun y1 => ?_, fun y2 => ?_⟩⟩⟩
    · have kq := kq h1 F1'
      rw [pick_f (by omega)] at kq; exact kq
    · have kq := kq h1 F1'
      rw [pick_f (by omega)] at kq; exact kq
    · refine MD_cutNow_spec hG E1 W1 A1 hi y0 y5 (fun z => by omega) (fun h2 F2 => ?_)
      have kq := kq h2 (fun b nb => (F2 b nb).trans (F1' b nb))
      rw [pick_t ⟨y0, y5⟩] at kq
      by_cases e0 : y = 0
      · rw [if_pos e0] at kq ⊢; exact kq
      · rw [if_neg e0, if_pos (by omega)] at kq ⊢; exact kq
    · refine MD_isConsistent_spec hG E1 A1 hi (fun hk => ⟨fun _ => MD_cutNow_spec hG E1 W1 A1 hi y0 y5 (fun _ => hk) (fun h2 F2 => ?_), fun z => absurd z (by decide)⟩) (fun hk => ⟨fun z => absurd rfl z, fun _ => ?_⟩)
      · have kq := kq h2 (fun b nb => (F2 b nb).trans (F1' b nb))
        rw [pick_t ⟨y0, y5⟩, if_neg (by omega), if_neg (by omega), pick_t hk] at kq
        rw [if_neg (by omega), if_neg (by omega)]
        exact kq
      · have kq := kq h1 F1'
        rw [pick_t ⟨y0, y5⟩, if_neg (by omega), if_neg (by omega), pick_f hk] at kq; exact kq
  · have kq := kq h1 (fun b nb => F1 b (by omega))
    rw [pick_f ic] at kq; exact kq
theorem RC_value_spec (hG : Gok sw g) (P : StP A) (I : InvC sw h A) {x p : Int} (hx : mv32 x) (k : KC sw h (aValue A x p, A) K) : RC_value g h x p K := by
  obtain ⟨eo, he⟩ := evO_r sw
  have R := I.2.1
  have W := P.1
  have hN := W.2.1
  have hN0 := W.1
  unfold aValue at k
  have eN := R.1
  refine RC_value_wp hG ?_
  rw [R.1]
  refine ⟨fun z => ?_, fun n0 => ?_⟩
  · rw [pick_t (by omega)] at k; exact I.same k
  have E := I.ev n0
  rw [pick_f (by omega)] at k
  have bad : ¬ (IsC (sC A) x ∧ isP A p) → K (-101) h := fun n => by rw [pick_f n] at k; exact I.same k
  refine EV_isCut_spec hG he R W (by omega) hx.2 (fun ic => ⟨fun z => absurd z (by decide), fun _ => ⟨fun z => bad (fun y => by have := y.2.1; omega), fun p0 => ⟨fun z => bad (fun y => by have := y.2.2; omega), fun p1 => ?_⟩⟩⟩) (fun ic => ⟨fun _ => bad (fun y => ic y.1), fun z => absurd rfl z⟩)
  rw [pick_t ⟨ic, p0, by omega⟩] at k
  obtain ⟨hi, ex⟩ := ic.cut W (by omega)
  generalize hc : cutOf (sC A) x = c at *
  rw [← ex]
  exact EV_valueIn_spec hG he E hi p0 (by omega) (I.same k)
theorem MD_value_spec (hG : Gok sw g) (P : StP A) (I : InvM h A) {x p : Int} (hx : mv32 x) (k : KM h (aValue A x p, A) K) : MD_value g h x p K := by
  have R := I.2.1
  have W := P.1
  have hN := W.2.1
  have hN0 := W.1
  have kq : ∀ h', (∀ b, ¬ b = 81 → h' b = h b) → K (aValue A x p) h' := fun h' F => k h' (fun b hb => F b (by omega)) (I.mod2 (fun b b1 b2 => F b (by omega)) (fun i hi => by rw [F 68 (by omega)]))
  unfold aValue at kq
  refine MD_value_wp hG ?_
  rw [R.1]
  refine ⟨fun z => ?_, fun n0 => ?_⟩
  · have kq := kq h (fun _ _ => rfl)
    rw [pick_t (by omega)] at kq; exact kq
  rw [pick_f (by omega)] at kq
  refine MD_takesTold_spec hG R W (by omega) hx (fun ic h1 F1 A1 => ⟨fun z => absurd z (by decide), fun _ => ?_⟩) (fun ic h1 F1 _ => ⟨fun _ => ?_, fun z => absurd rfl z⟩)
  · have kq := kq h1 F1
    have R1 : MdR h1 (sC A) := R.keep (by rw [F1 68 (by omega)]) (F1 69 (by omega)) (F1 70 (by omega)) (F1 71 (by omega))
    have bad : ¬ (IsC (sC A) x ∧ isP A p) → K (-101) h1 := fun n => by rw [pick_f n] at kq; exact kq
    rw [R1.1, mwi (z := cN (sC A) - 1) (by omega) (by omega)]
    refine ⟨fun z => bad (fun y => by have := y.2.1; omega), fun p0 => ⟨fun z => bad (fun y => by have := y.2.2; omega), fun p1 => ⟨⟨p0, by omega⟩, ?_⟩⟩⟩
    rw [pick_t ⟨ic, p0, by omega⟩] at kq
    obtain ⟨hi, -⟩ := ic.cut W (by omega)
    rw [A1 p p0 (by omega)]
    exact MD_valueOf_spec hG R1 W p0 (by omega) (hi p).1 (hi p).2 kq
  · have kq := kq h1 F1
    rw [pick_f (fun y => ic y.1)] at kq; exact kq
theorem RC_under_spec (hG : Gok sw g) (P : StP A) (I : InvC sw h A) {x p q : Int} (hx : mv32 x) (k : KC sw h (aUnder A x p q, A) K) : RC_under g h x p q K := by
  obtain ⟨eo, he⟩ := evO_r sw
  have R := I.2.1
  have W := P.1
  have hN := W.2.1
  have hN0 := W.1
  unfold aUnder at k
  have eN := R.1
  refine RC_under_wp hG ?_
  rw [R.1]
  refine ⟨fun z => ?_, fun n0 => ?_⟩
  · rw [pick_t (by omega)] at k; exact I.same k
  have E := I.ev n0
  rw [pick_f (by omega)] at k
  have bad : ¬ (IsC (sC A) x ∧ isQ A p q) → K (-101) h := fun n => by rw [pick_f n] at k; exact I.same k
  refine EV_isCut_spec hG he R W (by omega) hx.2 (fun ic => ⟨fun z => absurd z (by decide), fun _ => ⟨fun z => bad (fun y => by have := y.2.1.1; omega), fun p0 => ⟨fun z => bad (fun y => by have := y.2.1.2; omega), fun p1 => ⟨fun z => bad (fun y => by have := y.2.2.1.1; omega), fun q0 => ⟨fun z => bad (fun y => by have := y.2.2.1.2; omega), fun q1 => ⟨fun z => bad (fun y => y.2.2.2 z), fun ne => ?_⟩⟩⟩⟩⟩⟩) (fun ic => ⟨fun _ => bad (fun y => ic y.1), fun z => absurd rfl z⟩)
  rw [pick_t ⟨ic, ⟨p0, by omega⟩, ⟨q0, by omega⟩, ne⟩] at k
  obtain ⟨hi, ex⟩ := ic.cut W (by omega)
  generalize hc : cutOf (sC A) x = c at *
  rw [← ex]
  refine EV_isConsistent_spec hG he E hi (fun hk => ⟨fun _ => ?_, fun z => absurd z (by decide)⟩) (fun hk => ⟨fun z => absurd rfl z, fun _ => ?_⟩)
  · rw [pick_t hk] at k
    exact EV_underWayBetween_spec hG he E hi p0 (by omega) q0 (by omega) (I.same k)
  · rw [pick_f hk] at k; exact I.same k
theorem MD_under_spec (hG : Gok sw g) (P : StP A) (I : InvM h A) {x p q : Int} (hx : mv32 x) (k : KM h (aUnder A x p q, A) K) : MD_under g h x p q K := by
  have R := I.2.1
  have W := P.1
  have hN := W.2.1
  have hN0 := W.1
  have kq : ∀ h', (∀ b, ¬ b = 81 → h' b = h b) → K (aUnder A x p q) h' := fun h' F => k h' (fun b hb => F b (by omega)) (I.mod2 (fun b b1 b2 => F b (by omega)) (fun i hi => by rw [F 68 (by omega)]))
  unfold aUnder at kq
  refine MD_under_wp hG ?_
  rw [R.1]
  refine ⟨fun z => ?_, fun n0 => ?_⟩
  · have kq := kq h (fun _ _ => rfl)
    rw [pick_t (by omega)] at kq; exact kq
  rw [pick_f (by omega)] at kq
  refine MD_takesTold_spec hG R W (by omega) hx (fun ic h1 F1 A1 => ⟨fun z => absurd z (by decide), fun _ => ?_⟩) (fun ic h1 F1 _ => ⟨fun _ => ?_, fun z => absurd rfl z⟩)
  · have kq := kq h1 F1
    have E1 : MdOk h1 (sC A) := (I.ev n0).keep (by rw [F1 68 (by omega)]) (fun b b1 b2 => F1 b (by omega))
    have bad : ¬ (IsC (sC A) x ∧ isQ A p q) → K (-101) h1 := fun n => by rw [pick_f n] at kq; exact kq
    rw [E1.1.1, mwi (z := cN (sC A) - 1) (by omega) (by omega)]
    refine ⟨fun z => bad (fun y => by have := y.2.1.1; omega), fun p0 => ⟨fun z => bad (fun y => by have := y.2.1.2; omega), fun p1 => ⟨fun z => bad (fun y => by have := y.2.2.1.1; omega), fun q0 => ⟨fun z => bad (fun y => by have := y.2.2.1.2; omega), fun q1 => ⟨fun ne => ?_, fun z => bad (fun y => y.2.2.2 z)⟩⟩⟩⟩⟩
    rw [pick_t ⟨ic, ⟨p0, by omega⟩, ⟨q0, by omega⟩, ne⟩] at kq
    obtain ⟨hi, -⟩ := ic.cut W (by omega)
    refine MD_isConsistent_spec hG E1 A1 hi (fun hk => ⟨fun z => absurd z (by decide), fun _ => ?_⟩) (fun hk => ⟨fun _ => ?_, fun z => absurd rfl z⟩)
    · rw [pick_t hk] at kq
      exact MD_underOf_spec hG E1 A1 hi p0 (by omega) q0 (by omega) kq
    · rw [pick_f hk] at kq; exact kq
  · have kq := kq h1 F1
    rw [pick_f (fun y => ic y.1)] at kq; exact kq
/-- the way that both meet and join take -/
theorem RC_mix (hG : Gok sw g) (P : StP A) (I : InvC sw h A) {x y z : Int} (hx : mv32 x) (hy : mv32 y) (k : KC sw h (aMix A x y z, A) K) : ((h (evO sw) 0) ≤ 0 → K (-103) h) ∧ (0 < (h (evO sw) 0) → EV_isCut g h (evO sw) x (fun r2 h1 => ((r2 = 0 → K (-101) h1) ∧ (¬ r2 = 0 → EV_isCut g h1 (evO sw) y (fun r4 h3 => ((¬ r4 = 0 → EV_isConsistent g h3 (evO sw) x (fun r6 h5 => ((r6 = 0 → K (-103) h5) ∧ (¬ r6 = 0 → EV_isConsistent g h5 (evO sw) y (fun r8 h7 => ((r8 = 0 → K (-103) h7) ∧ (¬ r8 = 0 → EV_combine g h7 (evO sw) x y z (fun r10 h9 => K r10 h9)))))))) ∧ (r4 = 0 → K (-101) h3))))))) := by
  obtain ⟨eo, he⟩ := evO_r sw
  have R := I.2.1
  have W := P.1
  have hN := W.2.1
  have hN0 := W.1
  unfold aMix at k
  rw [R.1]
  refine ⟨fun z => ?_, fun n0 => ?_⟩
  · rw [pick_t (by omega)] at k; exact I.same k
  have E := I.ev n0
  rw [pick_f (by omega)] at k
  have bad : ¬ (IsC (sC A) x ∧ IsC (sC A) y) → K (-101) h := fun n => by rw [pick_f n] at k; exact I.same k
  refine EV_isCut_spec hG he R W (by omega) hx.2 (fun ic => ⟨fun z => absurd z (by decide), fun _ => EV_isCut_spec hG he R W (by omega) hy.2 (fun id => ⟨fun _ => ?_, fun z => absurd z (by decide)⟩) (fun id => ⟨fun z => absurd rfl z, fun _ => bad (fun y => id y.2)⟩)⟩) (fun ic => ⟨fun _ => bad (fun y => ic y.1), fun z => absurd rfl z⟩)
  rw [pick_t ⟨ic, id⟩] at k
  obtain ⟨hi, ex⟩ := ic.cut W (by omega)
  obtain ⟨hj, ey⟩ := id.cut W (by omega)
  generalize hc : cutOf (sC A) x = c at *
  generalize hd : cutOf (sC A) y = d at *
  rw [← ex, ← ey]
  refine EV_isConsistent_spec hG he E hi (fun hk => ⟨fun z => absurd z (by decide), fun _ => EV_isConsistent_spec hG he E hj (fun hl => ⟨fun z => absurd z (by decide), fun _ => ?_⟩) (fun hl => ⟨fun _ => ?_, fun z => absurd rfl z⟩)⟩) (fun hk => ⟨fun _ => ?_, fun z => absurd rfl z⟩)
  · rw [pick_t ⟨hk, hl⟩] at k
    exact EV_combine_spec hG he E hi hj (I.same k)
  · rw [pick_f (fun z => hl z.2)] at k; exact I.same k
  · rw [pick_f (fun z => hk z.1)] at k; exact I.same k
theorem RC_meet_spec (hG : Gok sw g) (P : StP A) (I : InvC sw h A) {x y : Int} (hx : mv32 x) (hy : mv32 y) (k : KC sw h (aMix A x y 0, A) K) : RC_meet g h x y K := RC_meet_wp hG (RC_mix hG P I hx hy k)
theorem RC_join_spec (hG : Gok sw g) (P : StP A) (I : InvC sw h A) {x y : Int} (hx : mv32 x) (hy : mv32 y) (k : KC sw h (aMix A x y 1, A) K) : RC_join g h x y K := RC_join_wp hG (RC_mix hG P I hx hy k)
theorem MD_mixed_spec (hG : Gok sw g) (P : StP A) (I : InvM h A) {x y z : Int} (hz : z = 0 ∨ z = 1) (hx : mv32 x) (hy : mv32 y) (k : KM h (aMix A x y z, A) K) : MD_mixed g h x y z K := by
  have R := I.2.1
  have W := P.1
  have hN := W.2.1
  have hN0 := W.1
  have kq : ∀ h', (∀ b, ¬ b = 81 → ¬ b = 88 → h' b = h b) → K (aMix A x y z) h' := fun h' F => k h' (fun b hb => F b (by omega) (by omega)) (I.mod2 (fun b b1 b2 => F b (by omega) (by omega)) (fun i hi => by rw [F 68 (by omega) (by omega)]))
  unfold aMix at kq
  refine MD_mixed_wp hG ?_
  rw [R.1]
  refine ⟨fun z => ?_, fun n0 => ?_⟩
  · have kq := kq h (fun _ _ _ => rfl)
    rw [pick_t (by omega)] at kq; exact kq
  have E := I.ev n0
  have kE : ∀ h' : Nat → Int → Int, (∀ b, ¬ b = 81 → ¬ b = 88 → h' b = h b) → MdOk h' (sC A) := fun h' F => E.keep (by rw [F 68 (by omega) (by omega)]) (fun b b1 b2 => F b (by omega) (by omega))
  rw [pick_f (by omega)] at kq
  -- the second cut, and what comes of both
  have second : ∀ (h' : Nat → Int → Int) u a b, (∀ b, ¬ b = 81 → ¬ b = 88 → h' b = h b) → (a = 0 ∨ a = 1) → (a = 1 → IsC (sC A) x) → (a = 0 → ¬ IsC (sC A) x) → (IsC (sC A) x → ((b = 0 ∧ ¬ Cons (sC A) (cutOf (sC A) x)) ∨ (¬ b = 0 ∧ Cons (sC A) (cutOf (sC A) x))) ∧ ∀ p, 0 ≤ p → p < cN (sC A) → h' 88 p = cutOf (sC A) x p) → MD_mixed_26 g h' u y z a b 4 K := by
    intro h' u a b F a01 a1 a0 hb
    refine MD_mixed_26_wp hG ⟨fun _ => MD_takesTold_spec hG (kE h' F).1 W (by omega) hy (fun id h1 F1 A1 => ⟨fun z => absurd z (by decide), fun _ => ?_⟩) (fun id h1 F1 _ => ⟨fun _ => ?_, fun z => absurd rfl z⟩), fun z => absurd z (by decide)⟩
    · have F1' : ∀ b, ¬ b = 81 → ¬ b = 88 → h1 b = h b := fun b n1 n2 => (F1 b n1).trans (F b n1 n2)
      refine ⟨fun ne => ?_, fun e0 => ?_⟩
      · have ic := a1 (by omega)
        obtain ⟨hb1, hb2⟩ := hb ic
        rw [pick_t ⟨ic, id⟩] at kq
        obtain ⟨hi, ex⟩ := ic.cut W (by omega)
        obtain ⟨hj, ey⟩ := id.cut W (by omega)
        generalize hc : cutOf (sC A) x = c at *
        generalize hd : cutOf (sC A) y = d at *
        refine ⟨fun b0 => ?_, fun b1 => ?_⟩
        · have kq := kq h1 F1'
          rw [pick_f (fun q => by
            rcases hb1 with w | w
            · exact w.2 q.1
            · exact w.1 b0)] at kq; exact kq
        · have hk : Cons (sC A) c := by
            rcases hb1 with w | w
            · exact absurd w.1 b1
            · exact w.2
          refine MD_isConsistent_spec hG (kE h1 F1') A1 hj (fun hl => ⟨fun _ => ?_, fun z => absurd z (by decide)⟩) (fun hl => ⟨fun z => absurd rfl z, fun _ => ?_⟩)
          · rw [pick_t ⟨hk, hl⟩] at kq
            generalize hm : (fun p => if z = 0 then min (c p) (d p) else max (c p) (d p)) = m at kq
            have em : ∀ p, m p = if z = 0 then min (c p) (d p) else max (c p) (d p) := fun p => by rw [← hm]
            have mD : Dg 4 m := fun p _ _ => by
              have a := hi p; have b := hj p; have s := W.sz p
              rw [em]; split <;> omega
            have loop : ∀ p : Int, p ≤ cN (sC A) → 0 ≤ p → ∀ (h2 : Nat → Int → Int) u1 u2 u3 u4, (∀ b, ¬ b = 81 → h2 b = h1 b) → (∀ q, 0 ≤ q → q < p → h2 81 q = m q) → (∀ q, p ≤ q → q < cN (sC A) → h2 81 q = d q) → MD_mixed_86 g h2 u1 u2 z u3 u4 p K := by
              refine up_ind ?_ ?_
              · intro _ h2 u1 u2 u3 u4 F2 D1 _
                have F2' : ∀ b, ¬ b = 81 → ¬ b = 88 → h2 b = h b := fun b n1 n2 => (F2 b n1).trans (F1' b n1 n2)
                exact MD_mixed_86_wp hG ⟨fun _ => MD_toldNow_spec hG (kE h2 F2').1 W (by omega) (c := m) (fun q q0 q1 => D1 q q0 q1) mD (kq h2 F2'), fun w => absurd w (by rw [(kE h2 F2').1.1]; omega)⟩
              · intro p hp ih p0 h2 u1 u2 u3 u4 F2 D1 D2
                have F2' : ∀ b, ¬ b = 81 → ¬ b = 88 → h2 b = h b := fun b n1 n2 => (F2 b n1).trans (F1' b n1 n2)
                have e88 : h2 88 p = c p := by rw [F2 88 (by omega), F1 88 (by omega)]; exact hb2 p p0 hp
                have e81 := D2 p (Int.le_refl _) hp
                have fin : ∀ v, v = m p → MD_mixed_86 g (mvUpd h2 81 p v) u1 u2 z u3 u4 (p + 1) K := fun v hv => by
                  refine ih (by omega) _ u1 u2 u3 u4 (fun b nb => by rw [upd_ob nb]; exact F2 b nb) (fun q q0 q1 => ?_) (fun q q0 q1 => ?_)
                  · by_cases e : q = p
                    · rw [e, upd_at]; exact hv
                    · rw [upd_ix e]; exact D1 q q0 (by omega)
                  · rw [upd_ix (by omega)]; exact D2 q (by omega) q1
                refine MD_mixed_86_wp hG ⟨fun w => absurd w (by rw [(kE h2 F2').1.1]; omega), fun _ => ?_⟩
                simp (disch := omega) only [bd, forall_eq, e88, e81, mwi]
                have mp := em p
                refine ⟨fun l => ⟨fun n => fin _ ?_, fun e => fin _ ?_⟩, fun l => ⟨fun n => fin _ ?_, fun e => fin _ ?_⟩⟩
                · rw [mp, if_neg (by omega)]; omega
                · rw [mp, if_pos e.symm]; omega
                · rw [mp, if_pos (by omega)]; omega
                · rw [mp, if_neg (by omega)]; omega
            exact loop 0 hN0 (Int.le_refl _) h1 _ _ _ _ (fun _ _ => rfl) (fun q q0 q1 => by omega) (fun q q0 q1 => A1 q q0 q1)
          · have kq := kq h1 F1'
            rw [pick_f (fun z => hl z.2)] at kq; exact kq
      · have kq := kq h1 F1'
        rw [pick_f (fun q => a0 e0 q.1)] at kq; exact kq
    · have kq := kq h1 (fun b n1 n2 => (F1 b n1).trans (F b n1 n2))
      rw [pick_f (fun q => id q.2)] at kq; exact kq
  have copy : ∀ p : Int, p ≤ 4 → 0 ≤ p → ∀ (h' : Nat → Int → Int) u a b, (∀ b, ¬ b = 81 → ¬ b = 88 → h' b = h b) → (a = 0 ∨ a = 1) → (a = 1 → IsC (sC A) x) → (a = 0 → ¬ IsC (sC A) x) → (IsC (sC A) x → ((b = 0 ∧ ¬ Cons (sC A) (cutOf (sC A) x)) ∨ (¬ b = 0 ∧ Cons (sC A) (cutOf (sC A) x))) ∧ (∀ q, 0 ≤ q → q < cN (sC A) → h' 81 q = cutOf (sC A) x q) ∧ ∀ q, 0 ≤ q → q < p → q < cN (sC A) → h' 88 q = cutOf (sC A) x q) → MD_mixed_26 g h' u y z a b p K := by
    refine up_ind ?_ ?_
    · intro _ h' u a b F a01 a1 a0 hb
      exact second h' u a b F a01 a1 a0 (fun ic => ⟨(hb ic).1, fun q q0 q1 => (hb ic).2.2 q q0 (by omega) q1⟩)
    · intro p hp ih p0 h' u a b F a01 a1 a0 hb
      refine MD_mixed_26_wp hG ⟨fun w => absurd w (by omega), fun _ => ?_⟩
      simp (disch := omega) only [bd, forall_eq, mwi]
      refine ih (by omega) _ u a b (fun b n1 n2 => by rw [upd_ob n2]; exact F b n1 n2) a01 a1 a0 (fun ic => ?_)
      obtain ⟨b1, b2, b3⟩ := hb ic
      refine ⟨b1, fun q q0 q1 => by rw [upd_ob (by omega)]; exact b2 q q0 q1, fun q q0 q1 q2 => ?_⟩
      by_cases e : q = p
      · rw [e, upd_at]; rw [e] at q2; exact b2 p p0 q2
      · rw [upd_ix e]; exact b3 q q0 (by omega) q2
  refine MD_takesTold_spec hG R W (by omega) hx (fun ic h1 F1 A1 => ?_) (fun ic h1 F1 B1 => ?_)
  · have F1' : ∀ b, ¬ b = 81 → ¬ b = 88 → h1 b = h b := fun b n1 n2 => F1 b n1
    obtain ⟨hi, ex⟩ := ic.cut W (by omega)
    refine MD_isConsistent_spec hG (kE h1 F1') A1 hi (fun hk => ?_) (fun hk => ?_)
    · exact copy 0 (by omega) (Int.le_refl _) h1 _ 1 1 F1' (Or.inr rfl) (fun _ => ic) (fun w => absurd w (by decide)) (fun _ => ⟨Or.inr ⟨by decide, hk⟩, fun q q0 q1 => A1 q q0 q1, fun q q0 q1 => by omega⟩)
    · exact copy 0 (by omega) (Int.le_refl _) h1 _ 1 0 F1' (Or.inr rfl) (fun _ => ic) (fun w => absurd w (by decide)) (fun _ => ⟨Or.inl ⟨rfl, hk⟩, fun q q0 q1 => A1 q q0 q1, fun q q0 q1 => by omega⟩)
  · have F1' : ∀ b, ¬ b = 81 → ¬ b = 88 → h1 b = h b := fun b n1 n2 => F1 b n1
    refine MD_isConsistent_raw hG (kE h1 F1').1 W B1 (fun _ => ?_) (fun _ => ?_)
    · exact copy 0 (by omega) (Int.le_refl _) h1 _ 0 1 F1' (Or.inl rfl) (fun w => absurd w (by decide)) (fun _ => ic) (fun w => absurd w ic)
    · exact copy 0 (by omega) (Int.le_refl _) h1 _ 0 0 F1' (Or.inl rfl) (fun w => absurd w (by decide)) (fun _ => ic) (fun w => absurd w ic)
theorem MD_meet_spec (hG : Gok sw g) (P : StP A) (I : InvM h A) {x y : Int} (hx : mv32 x) (hy : mv32 y) (k : KM h (aMix A x y 0, A) K) : MD_meet g h x y K := MD_meet_wp hG (MD_mixed_spec hG P I (Or.inl rfl) hx hy k)
theorem MD_join_spec (hG : Gok sw g) (P : StP A) (I : InvM h A) {x y : Int} (hx : mv32 x) (hy : mv32 y) (k : KM h (aMix A x y 1, A) K) : MD_join g h x y K := MD_join_wp hG (MD_mixed_spec hG P I (Or.inr rfl) hx hy k)
end AP
