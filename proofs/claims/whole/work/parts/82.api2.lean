/-! back, event, order; cuts -/
noncomputable def cutP (C : Cmp) (w : Wsh) (c : Int → Int) (y : Int) : Int := if y = 2 then pick (Hold C w c) 1 0 else if y = 3 then fol C c else if y = 4 then uw C c (cN C) else mw (npc C c * pv C (ixc C c))
noncomputable def aCut (A : Sta) (x y : Int) : Int := pick (cN (sC A) = 0) (-103) (pick (IsC (sC A) x) (pick (0 ≤ y ∧ y ≤ 5) (if y = 0 then pick (Cons (sC A) (cutOf (sC A) x)) 1 0 else if y = 1 then lev (cutOf (sC A) x) else pick (Cons (sC A) (cutOf (sC A) x)) (cutP (sC A) (sW A) (cutOf (sC A) x) y) (-103)) (-102)) (-101))
noncomputable def aValue (A : Sta) (x p : Int) : Int := pick (cN (sC A) = 0) (-103) (pick (IsC (sC A) x ∧ isP A p) (vl (sC A) p (cutOf (sC A) x p)) (-101))
noncomputable def aUnder (A : Sta) (x p q : Int) : Int := pick (cN (sC A) = 0) (-103) (pick (IsC (sC A) x ∧ isQ A p q) (pick (Cons (sC A) (cutOf (sC A) x)) (ub (sC A) (cutOf (sC A) x) p q (cutOf (sC A) x p)) (-103)) (-101))
noncomputable def aMix (A : Sta) (x y z : Int) : Int := pick (cN (sC A) = 0) (-103) (pick (IsC (sC A) x ∧ IsC (sC A) y) (pick (Cons (sC A) (cutOf (sC A) x) ∧ Cons (sC A) (cutOf (sC A) y)) (en (cN (sC A)) (fun p => if z = 0 then min (cutOf (sC A) x p) (cutOf (sC A) y p) else max (cutOf (sC A) x p) (cutOf (sC A) y p))) (-103)) (-101))
section AP
variable {sw : Bool} {g : Nat → Nat → Nat} {h : Nat → Int → Int} {A : Sta} {K : Int → (Nat → Int → Int) → Prop}
theorem RC_back_spec (hG : Gok sw g) (P : StP A) (I : InvC sw h A) {p : Int} (k : KC sw h (fBack A p) K) : RC_back g h p K := by
  obtain ⟨eo, he⟩ := evO_r sw
  have R := I.2.1
  unfold fBack at k
  refine RC_back_wp hG ⟨fun z => ?_, fun p0 => ?_⟩
  · rw [pick_f (fun y => by have := y.1; omega)] at k; exact I.same k
  rw [R.1]
  refine ⟨fun z => ?_, fun p1 => ?_⟩
  · rw [pick_f (fun y => by have := y.2; omega)] at k; exact I.same k
  have hp : isP A p := ⟨p0, p1⟩
  obtain ⟨V, n2⟩ := P.val hp
  have W := V.1
  have hN := W.2.1
  have hs := W.sz p
  have hT := cT_r W
  have E := I.ev (by omega)
  rw [pick_t hp] at k
  refine EV_canDropLast_spec hG he E p0 p1 (fun s0 hd => ⟨fun _ => ?_, fun z => absurd z (by decide)⟩) (fun n => ⟨fun z => absurd rfl z, fun _ => ?_⟩)
  · rw [pick_t ⟨s0, hd⟩] at k
    have V' := delE_Valid V p0 p1 s0 hd
    have e1 := E.1.2.2.1 p p0 (by omega)
    have e2 := E.1.2.1
    have tp : 0 < cT (sC A) := by
      have a0 := W.sz 0; have a1 := W.sz 1; have a2 := W.sz 2; have a3 := W.sz 3
      unfold cT
      rcases (show p = 0 ∨ p = 1 ∨ p = 2 ∨ p = 3 by omega) with rfl | rfl | rfl | rfl <;> omega
    simp (disch := omega) only [e1, e2, bd, forall_eq, upd_ob, mwi]
    have R' : EvR (evO sw) (mvUpd (mvUpd h (evO sw + 1) p (cS (sC A) p - 1)) (evO sw) 1 (cT (sC A) - 1)) (delE (sC A) p) := by
      refine ⟨by rw [upd_ix (by omega), upd_ob (by omega)]; exact R.1, by rw [upd_at, delE_T p0 (by omega)], fun q q0 q1 => ?_, fun q i q0 q1 i0 i1 => ?_⟩
      · rw [upd_ob (by omega), delE_S]
        by_cases e : q = p
        · rw [e, upd_at, if_pos rfl]
        · rw [upd_ix e, if_neg e]; exact R.2.2.1 q q0 q1
      · rw [delE_S] at i1
        rw [upd_ob (by omega), upd_ob (by omega), upd_ob (by omega), upd_ob (by omega)]
        refine R.2.2.2 q i q0 q1 i0 ?_
        split at i1 <;> omega
    refine EV_link_spec hG he R' V'.1 (by show 1 ≤ cN (sC A); omega) (I.2.2.2.1.keep (by rw [upd_ob (by omega), upd_ob (by omega)])) (fun _ h6 E6 F6 => ?_) (fun n => absurd V' n)
    have F6' : ∀ b, ¬ (evO sw ≤ b ∧ b ≤ evO sw + 8) → h6 b = h b := fun b nb => by rw [F6 b (by omega), upd_ob (by omega), upd_ob (by omega)]
    have s6 : h6 (evO sw + 1) p = cS (sC A) p - 1 := by
      have := E6.1.2.2.1 p p0 (by omega)
      rw [delE_S, if_pos rfl] at this
      exact this
    rw [s6]
    refine k _ (fun b nb => by rw [upd_ob (by omega), upd_ob (by omega), upd_ob (by omega), upd_ob (by omega), upd_ob (by omega), upd_ob (by omega)]; exact F6' b (by omega)) (I.comp (fun b hb => by rw [upd_ob (by omega), upd_ob (by omega), upd_ob (by omega), upd_ob (by omega), upd_ob (by omega), upd_ob (by omega)]; exact F6' b (by omega)) (E6.keep (fun b hb => by rw [upd_ob (by omega), upd_ob (by omega), upd_ob (by omega), upd_ob (by omega), upd_ob (by omega), upd_ob (by omega)])) ?_ ?_ ?_ ?_ ?_ ?_)
    · rw [upd_ob (by omega), upd_ob (by omega), upd_ob (by omega), upd_at]
    · rw [upd_ob (by omega), upd_ob (by omega), upd_at]
    · rw [upd_ob (by omega), upd_at]
    · rw [upd_at]
    · rw [upd_ob (by omega), upd_ob (by omega), upd_ob (by omega), upd_ob (by omega), upd_ob (by omega), upd_at]
    · rw [upd_ob (by omega), upd_ob (by omega), upd_ob (by omega), upd_ob (by omega), upd_at]
  · rw [pick_f n] at k; exact I.same k
theorem MD_back_spec (hG : Gok sw g) (P : StP A) (I : InvM h A) {p : Int} (k : KM h (fBack A p) K) : MD_back g h p K := by
  have R := I.2.1
  have W := P.1
  have hN := W.2.1
  have hN0 := W.1
  unfold fBack at k
  refine MD_back_wp hG ⟨fun z => ?_, fun p0 => ?_⟩
  · rw [pick_f (fun y => by have := y.1; omega)] at k; exact I.same k
  rw [R.1, mwi (z := cN (sC A) - 1) (by omega) (by omega)]
  refine ⟨fun z => ?_, fun p1 => ?_⟩
  · rw [pick_f (fun y => by have := y.2; omega)] at k; exact I.same k
  have hp : isP A p := ⟨p0, by omega⟩
  obtain ⟨V, n2⟩ := P.val hp
  have hs := W.sz p
  have E := I.ev (by omega)
  rw [pick_t hp] at k
  have go : 0 < cS (sC A) p → ¬ (cK (sC A) p (cS (sC A) p - 1) = 1 ∧ ¬ cPt (sC A) p (cS (sC A) p - 1) = -1) → MD_changes g (mvUpd h 69 p (cS (sC A) p - 1)) (fun h3 => K (h3 69 p) h3) := fun s0 hd => by
    rw [pick_t ⟨s0, hd⟩] at k
    have V' := delE_Valid V p0 hp.2 s0 hd
    have R' : MdR (mvUpd h 69 p (cS (sC A) p - 1)) (delE (sC A) p) := by
      refine ⟨by rw [upd_ob (by omega)]; exact R.1, fun q q0 q1 => ?_, fun q i q0 q1 i0 i1 => ?_⟩
      · rw [delE_S]
        by_cases e : q = p
        · rw [e, upd_at, if_pos rfl]
        · rw [upd_ix e, if_neg e]; exact R.2.1 q q0 q1
      · rw [delE_S] at i1
        rw [upd_ob (by omega), upd_ob (by omega)]
        refine R.2.2 q i q0 q1 i0 ?_
        split at i1 <;> omega
    refine MD_changes_spec hG R' V' (by show 1 ≤ cN (sC A); omega) (fun h4 F4 G4 z1 z2 E4 => ?_)
    have s4 : h4 69 p = cS (sC A) p - 1 := by rw [E4.1.2.1 p p0 (by omega), delE_S, if_pos rfl]
    rw [s4]
    exact k h4 (fun b hb => by rw [F4 b (by omega) (by omega) (by omega), upd_ob (by omega)]) (I.comp (fun b b1 b2 => by rw [F4 b (by omega) (by omega) (by omega), upd_ob (by omega)]) (fun i hi => by rw [G4 i (by omega) (by omega), upd_ob (by omega)]) E4 z1 z2)
  simp (disch := omega) only [R.2.1, bd, forall_eq, mwi]
  refine ⟨fun z => ?_, fun s0 => ?_⟩
  · rw [pick_f (fun y => by omega)] at k; exact I.same k
  have r1 := (R.2.2 p (cS (sC A) p - 1) p0 hp.2 (by omega) (by omega)).1
  have r3 := E.2.1.1 p (cS (sC A) p - 1) p0 hp.2 (by omega) (by omega)
  simp (disch := omega) only [R.2.1, bd, forall_eq, mwi]
  rw [show 9 * p + cS (sC A) p - 1 = 9 * p + (cS (sC A) p - 1) by omega, r1, r3]
  refine ⟨fun n => go (by omega) (fun y => n y.1), fun y1 => ⟨fun y2 => go (by omega) (fun y => y.2 y2), fun y2 => ?_⟩⟩
  rw [pick_f (fun y => y.2 ⟨y1, y2⟩)] at k; exact I.same k
theorem fBack_P (P : StP A) {p : Int} : StP (fBack A p).2 := by
  unfold fBack
  rcases Classical.em (isP A p) with a | a
  · rw [pick_t a]
    obtain ⟨V, n2⟩ := P.val a
    rcases Classical.em (0 < cS (sC A) p ∧ ¬ (cK (sC A) p (cS (sC A) p - 1) = 1 ∧ ¬ cPt (sC A) p (cS (sC A) p - 1) = -1)) with b | b
    · rw [pick_t b]; exact newS_P P (delE_Valid V a.1 a.2 b.1 b.2) n2
    · rw [pick_f b]; exact P
  · rw [pick_f a]; exact P
theorem RC_event_spec (hG : Gok sw g) (P : StP A) (I : InvC sw h A) {p m x : Int} (k : KC sw h (fEvent A p m x) K) : RC_event g h p m x K := by
  obtain ⟨eo, he⟩ := evO_r sw
  have R := I.2.1
  have hN := P.1.2.1
  unfold fEvent at k
  have bad : ¬ isE A p m → K (-101) h := fun n => by rw [pick_f n] at k; exact I.same k
  refine RC_event_wp hG ⟨fun z => bad (fun y => by have := y.1.1; omega), fun p0 => ?_⟩
  rw [R.1]
  refine ⟨fun z => bad (fun y => by have := y.1.2; omega), fun p1 => ⟨fun z => bad (fun y => by have := y.2.1; omega), fun m0 => ⟨⟨p0, by omega⟩, ?_⟩⟩⟩
  rw [R.2.2.1 p p0 (by omega)]
  refine ⟨fun z => bad (fun y => by have := y.2.2; omega), fun m1 => ?_⟩
  have hE : isE A p m := ⟨⟨p0, p1⟩, m0, m1⟩
  rw [pick_t hE] at k
  refine ⟨fun z => ?_, fun x0 => ⟨fun x1 => ?_, fun z => ?_⟩⟩
  · rw [pick_f (by omega)] at k; exact I.same k
  · rw [pick_t ⟨x0, x1⟩] at k
    exact EV_property_spec hG he (I.ev (by omega)) p0 p1 m0 m1 x0 x1 (I.same k)
  · rw [pick_f (by omega)] at k; exact I.same k
theorem MD_event_spec (hG : Gok sw g) (P : StP A) (I : InvM h A) {p m x : Int} (k : KM h (fEvent A p m x) K) : MD_event g h p m x K := by
  have R := I.2.1
  have hN := P.1.2.1
  have hN0 := P.1.1
  have hs := P.1.sz p
  unfold fEvent at k
  have bad : ¬ isE A p m → K (-101) h := fun n => by rw [pick_f n] at k; exact I.same k
  refine MD_event_wp hG ⟨fun z => bad (fun y => by have := y.1.1; omega), fun p0 => ?_⟩
  rw [R.1, mwi (z := cN (sC A) - 1) (by omega) (by omega)]
  refine ⟨fun z => bad (fun y => by have := y.1.2; omega), fun p1 => ⟨⟨p0, by omega⟩, fun z => bad (fun y => by have := y.2.1; omega), fun m0 => ?_⟩⟩
  rw [R.2.1 p p0 (by omega), mwi (z := cS (sC A) p - 1) (by omega) (by omega)]
  refine ⟨fun z => bad (fun y => by have := y.2.2; omega), fun m1 => ?_⟩
  have hE : isE A p m := ⟨⟨p0, by omega⟩, m0, by omega⟩
  rw [pick_t hE] at k
  refine ⟨fun z => ?_, fun x0 => ⟨fun z => ?_, fun x1 => ?_⟩⟩
  · rw [pick_f (by omega)] at k; exact I.same k
  · rw [pick_f (by omega)] at k; exact I.same k
  · rw [pick_t ⟨x0, x1⟩] at k
    exact MD_eventNow_spec hG (I.ev (by omega)) p0 (by omega) m0 (by omega) x0 x1 (I.same k)
theorem RC_order_spec (hG : Gok sw g) (P : StP A) (I : InvC sw h A) {p i q m : Int} (k : KC sw h (fOrder A p i q m) K) : RC_order g h p i q m K := by
  obtain ⟨eo, he⟩ := evO_r sw
  have R := I.2.1
  have W := P.1
  have hN := W.2.1
  unfold fOrder at k
  have bad : ¬ (isE A p i ∧ isE A q m) → K (-101) h := fun n => by rw [pick_f n] at k; exact I.same k
  refine RC_order_wp hG ⟨fun z => bad (fun y => by have := y.1.1.1; omega), fun p0 => ?_⟩
  rw [R.1]
  refine ⟨fun z => bad (fun y => by have := y.1.1.2; omega), fun p1 => ⟨fun z => bad (fun y => by have := y.1.2.1; omega), fun i0 => ⟨⟨p0, by omega⟩, ?_⟩⟩⟩
  rw [R.2.2.1 p p0 (by omega)]
  refine ⟨fun z => bad (fun y => by have := y.1.2.2; omega), fun i1 => ⟨fun z => bad (fun y => by have := y.2.1.1; omega), fun q0 => ⟨fun z => bad (fun y => by have := y.2.1.2; omega), fun q1 => ⟨fun z => bad (fun y => by have := y.2.2.1; omega), fun m0 => ⟨⟨q0, by omega⟩, ?_⟩⟩⟩⟩⟩
  rw [R.2.2.1 q q0 (by omega)]
  refine ⟨fun z => bad (fun y => by have := y.2.2.2; omega), fun m1 => ?_⟩
  have hE : isE A p i ∧ isE A q m := ⟨⟨⟨p0, p1⟩, i0, i1⟩, ⟨q0, q1⟩, m0, m1⟩
  rw [pick_t hE] at k
  have E := I.ev (by omega)
  have sp := W.sz p
  have sq := W.sz q
  have v1 := E.2.1.2.1 q m p q0 q1 m0 m1 p0 p1
  have v2 := E.2.1.2.1 p i q p0 p1 i0 i1 q0 q1
  have iV := E.2.2.2.1
  have e1 : mw (mw (mw (mw (q * 9) + m) * 4) + p) = 4 * (9 * q + m) + p := by rw [row9 q0 (by omega) m0 (by omega)]; exact row4 (by omega) (by omega) p0 (by omega)
  have e2 : mw (mw (mw (mw (p * 9) + i) * 4) + q) = 4 * (9 * p + i) + q := by rw [row9 p0 (by omega) i0 (by omega)]; exact row4 (by omega) (by omega) q0 (by omega)
  rw [e1, e2, v1, v2]
  unfold aOrd at k
  refine ⟨fun ne => ⟨fun _ => ⟨⟨by omega, by omega⟩, fun a => ⟨fun _ => ⟨⟨by omega, by omega⟩, fun b => ?_, fun b => ?_⟩, fun z => absurd z.symm ne⟩, fun a => ?_⟩, fun z => absurd z ne⟩, fun eq => ⟨fun ne2 => ⟨fun z => absurd eq z, fun _ => ⟨fun a => ⟨fun z => absurd eq.symm z, fun _ => ⟨fun b => absurd (by omega) ne2, fun b => ?_⟩⟩, fun a => ?_⟩⟩, fun eq2 => ?_⟩⟩
  · rw [pick_f (fun y => ne y.1), pick_f (fun y => by have := y.1; omega), pick_f (fun y => by have := y.1; omega)] at k; exact I.same k
  · rw [pick_f (fun y => ne y.1), pick_f (fun y => by have := y.1; omega), pick_t ⟨b, fun y => ne y.1.symm⟩] at k; exact I.same k
  · rw [pick_f (fun y => ne y.1), pick_t ⟨a, fun y => ne y.1⟩] at k; exact I.same k
  · subst eq
    rw [iV.own p0 p1 m0 m1] at v1
    rw [iV.own p0 p1 i0 i1] at v2
    have o1 := iV.own p0 p1 m0 m1
    have o2 := iV.own p0 p1 i0 i1
    rw [pick_f (fun y => ne2 y.2), pick_f (fun y => by have := y.1; omega), pick_t ⟨by omega, fun y => ne2 y.2.symm⟩] at k; exact I.same k
  · subst eq
    have o1 := iV.own p0 p1 m0 m1
    rw [pick_f (fun y => ne2 y.2), pick_t ⟨by omega, fun y => ne2 y.2⟩] at k; exact I.same k
  · rw [pick_t ⟨eq, eq2⟩] at k; exact I.same k
theorem MD_order_spec (hG : Gok sw g) (P : StP A) (I : InvM h A) {p i q m : Int} (k : KM h (fOrder A p i q m) K) : MD_order g h p i q m K := by
  have R := I.2.1
  have W := P.1
  have hN := W.2.1
  have hN0 := W.1
  have sp := W.sz p
  have sq := W.sz q
  unfold fOrder at k
  have bad : ¬ (isE A p i ∧ isE A q m) → K (-101) h := fun n => by rw [pick_f n] at k; exact I.same k
  refine MD_order_wp hG ⟨fun z => bad (fun y => by have := y.1.1.1; omega), fun p0 => ?_⟩
  rw [R.1, mwi (z := cN (sC A) - 1) (by omega) (by omega)]
  refine ⟨fun z => bad (fun y => by have := y.1.1.2; omega), fun p1 => ⟨⟨p0, by omega⟩, fun z => bad (fun y => by have := y.1.2.1; omega), fun i0 => ?_⟩⟩
  rw [R.2.1 p p0 (by omega), mwi (z := cS (sC A) p - 1) (by omega) (by omega)]
  refine ⟨fun z => bad (fun y => by have := y.1.2.2; omega), fun i1 => ⟨fun z => bad (fun y => by have := y.2.1.1; omega), fun q0 => ⟨fun z => bad (fun y => by have := y.2.1.2; omega), fun q1 => ⟨⟨q0, by omega⟩, fun z => bad (fun y => by have := y.2.2.1; omega), fun m0 => ?_⟩⟩⟩⟩
  rw [R.2.1 q q0 (by omega), mwi (z := cS (sC A) q - 1) (by omega) (by omega)]
  refine ⟨fun z => bad (fun y => by have := y.2.2.2; omega), fun m1 => ?_⟩
  have hE : isE A p i ∧ isE A q m := ⟨⟨⟨p0, by omega⟩, i0, by omega⟩, ⟨q0, by omega⟩, m0, by omega⟩
  rw [pick_t hE] at k
  exact MD_orderNow_spec hG (I.ev (by omega)) p0 (by omega) i0 (by omega) q0 (by omega) m0 (by omega) (I.same k)
/-- the lattice is built, the search settled: only caches change -/
theorem InvC.lat (hG : Gok sw g) (I : InvC sw h A) (hn : 0 < cN (sC A)) {K : (Nat → Int → Int) → Prop} (k : ∀ h', FrC h h' → InvC sw h' A → LtOk 24 h' (sC A) → K h') : LT_build g h 24 (evO sw) K := by
  obtain ⟨eo, he⟩ := evO_r sw
  have I0 := I
  obtain ⟨I1, I2, I3, I4, I5, I6, I7, I8, I9, I10, I11⟩ := I
  refine LT_build_spec hG (Or.inl rfl) he (I0.ev hn) I6 (fun h' F L => k h' (fun b nb => F b (by omega)) (I0.mod (fun b b1 b2 b3 => F b (by omega)) (Or.inr L) ?_ (I8.keep (F 1 (by omega)) (fun b b1 b2 => F b (by omega)))) L)
  rcases I7 with z | z
  · exact Or.inl (by rw [F 33 (by omega)]; exact z)
  · exact Or.inr (z.keep (fun b b1 b2 => F b (by omega)))
theorem RC_settle_spec (hG : Gok sw g) (I : InvC sw h A) (hn : 0 < cN (sC A)) {K : (Nat → Int → Int) → Prop} (k : ∀ h', FrC h h' → InvC sw h' A → LtOk 24 h' (sC A) → SeOk 33 h' (sC A) (sW A) → K h') : RC_settleSearch g h K := by
  obtain ⟨eo, he⟩ := evO_r sw
  refine RC_settleSearch_wp hG (I.lat hG hn (fun h1 F1 I1 L1 => ?_))
  have J := I1
  obtain ⟨J1, J2, J3, J4, J5, J6, J7, J8, J9, J10, J11⟩ := I1
  refine SE_build_spec hG (s := 33) (a := 24) (Or.inl rfl) (Or.inl rfl) he (J.ev hn) L1 J5 J7 (fun h2 F2 S2 => k h2 (fun b nb => by rw [F2 b (by omega), F1 b nb]) (J.mod (fun b b1 b2 b3 => F2 b (by omega)) ?_ (Or.inr S2) (J8.keep (F2 1 (by omega)) (fun b b1 b2 => F2 b (by omega)))) (L1.keep (fun b b1 b2 => F2 b (by omega))) S2)
  exact Or.inr (L1.keep (fun b b1 b2 => F2 b (by omega)))
theorem RC_cutProperty_spec (hG : Gok sw g) (I : InvC sw h A) (hn : 0 < cN (sC A)) {c : Int → Int} (hi : In (sC A) c) {y : Int} (y2 : 2 ≤ y) (y5 : y ≤ 5) (L : y = 5 → LtOk 24 h (sC A)) (k : K (cutP (sC A) (sW A) c y) h) : RC_cutProperty g h (en (cN (sC A)) c) y K := by
  obtain ⟨eo, he⟩ := evO_r sw
  have E := I.ev hn
  have W := E.2.2.1.1
  unfold cutP at k
  refine RC_cutProperty_wp hG ⟨fun z => ?_, fun z => ?_, fun z => ?_, fun z => ?_⟩
  · rw [if_neg (by omega), if_neg (by omega), if_neg (by omega)] at k
    exact LT_pathsThrough_spec hG (Or.inl rfl) he E (L (by omega)) hi k
  · rw [if_pos z] at k
    refine PR_holdsIn_spec hG he E I.2.2.2.2.1 hi (fun a => ⟨fun z => absurd z (by decide), fun _ => ?_⟩) (fun a => ⟨fun _ => ?_, fun z => absurd rfl z⟩)
    · rw [pick_t a] at k; exact k
    · rw [pick_f a] at k; exact k
  · rw [if_neg (by omega), if_pos z] at k
    exact EV_followers_spec hG he E.1 W E.2.1.1 E.paired E.2.2.2.2.1 E.2.2.2.2.2 hi k
  · rw [if_neg (by omega), if_neg (by omega), if_pos z] at k
    exact EV_underWay_spec hG he E hi k
theorem RC_cut_spec (hG : Gok sw g) (P : StP A) (I : InvC sw h A) {x y : Int} (hx : mv32 x) (k : KC sw h (aCut A x y, A) K) : RC_cut g h x y K := by
  obtain ⟨eo, he⟩ := evO_r sw
  have R := I.2.1
  have W := P.1
  have hN := W.2.1
  have hN0 := W.1
  unfold aCut at k
  refine RC_cut_wp hG ?_
  rw [R.1]
  refine ⟨fun z => ?_, fun n0 => ?_⟩
  · rw [pick_t (by omega)] at k; exact I.same k
  have E := I.ev n0
  rw [pick_f (by omega)] at k
  refine EV_isCut_spec hG he R W (by omega) hx.2 (fun ic => ⟨fun _ => ?_, fun z => absurd z (by decide)⟩) (fun ic => ⟨fun z => absurd rfl z, fun _ => ?_⟩)
  · rw [pick_t ic] at k
    obtain ⟨hi, ex⟩ := ic.cut W (by omega)
    refine ⟨fun z => ?_, fun y0 => ⟨fun y1 => ?_, fun z => ?_⟩⟩
    · rw [pick_f (by omega)] at k; exact I.same k
    · rw [pick_t ⟨y0, y1⟩] at k
      generalize hc : cutOf (sC A) x = c at *
      rw [← ex]
      refine ⟨fun n0' => ⟨fun n1' => ?_, fun e1 => ?_⟩, fun e0 => ?_⟩
      · rw [if_neg n0', if_neg n1'] at k
        refine EV_isConsistent_spec hG he E hi (fun hk => ⟨fun _ => ⟨fun n5 => ?_, fun e5 => ?_⟩, fun z => absurd z (by decide)⟩) (fun hk => ⟨fun z => absurd rfl z, fun _ => ?_⟩)
        · rw [pick_t hk] at k
          exact RC_cutProperty_spec hG I n0 hi (by omega) y1 (fun z => absurd z n5) (I.same k)
        · rw [pick_t hk] at k
          exact I.lat hG n0 (fun h1 F1 I1 L1 => RC_cutProperty_spec hG I1 n0 hi (by omega) y1 (fun _ => L1) (k h1 F1 I1))
        · rw [pick_f hk] at k; exact I.same k
      · rw [if_neg n0', if_pos e1] at k
        exact RC_levelOf_spec hG W (by omega) hi (I.same k)
      · rw [if_pos e0] at k
        refine EV_isConsistent_spec hG he E hi (fun hk => ⟨fun z => absurd z (by decide), fun _ => ?_⟩) (fun hk => ⟨fun _ => ?_, fun z => absurd rfl z⟩)
        · rw [pick_t hk] at k; exact I.same k
        · rw [pick_f hk] at k; exact I.same k
    · rw [pick_f (by omega)] at k; exact I.same k
  · rw [pick_f ic] at k; exact I.same k
end AP
