/-! events are added and removed; what is told of them -/
abbrev newS (A : Sta) (C' : Cmp) : Sta := (C', sW A, (sn A, scd A), (srn A, ssh A), (-1, sst A), (0, scu A, sfo A, sla A))
def isP (A : Sta) (p : Int) : Prop := 0 ≤ p ∧ p < cN (sC A)
def isE (A : Sta) (p k : Int) : Prop := isP A p ∧ 0 ≤ k ∧ k < cS (sC A) p
def isF (A : Sta) (p : Int) : Prop := cS (sC A) p = 9 ∨ cT (sC A) = 16
def isQ (A : Sta) (p q : Int) : Prop := isP A p ∧ isP A q ∧ ¬ p = q
def fGrow (A : Sta) (p k d : Int) : Int × Sta := (cS (sC A) p + 1, newS A (addE (sC A) p k d))
noncomputable def fLocal (A : Sta) (p v : Int) : Int × Sta := pick (isP A p) (pick (0 ≤ v ∧ v ≤ 9) (pick (isF A p) (-104, A) (fGrow A p 0 v)) (-102, A)) (-101, A)
noncomputable def fSend (A : Sta) (p q : Int) : Int × Sta := pick (isQ A p q) (pick (isF A p) (-104, A) (fGrow A p 1 q)) (-101, A)
noncomputable def fRecv (A : Sta) (p q : Int) : Int × Sta := pick (isQ A p q) (pick (cOf (sC A) p 2 q (cS (sC A) p) < cOf (sC A) q 1 p (cS (sC A) q)) (pick (isF A p) (-104, A) (fGrow A p 2 q)) (-103, A)) (-101, A)
noncomputable def fBack (A : Sta) (p : Int) : Int × Sta := pick (isP A p) (pick (0 < cS (sC A) p ∧ ¬ (cK (sC A) p (cS (sC A) p - 1) = 1 ∧ ¬ cPt (sC A) p (cS (sC A) p - 1) = -1)) (cS (sC A) p - 1, newS A (delE (sC A) p)) (-103, A)) (-101, A)
noncomputable def fEvent (A : Sta) (p k x : Int) : Int × Sta := pick (isE A p k) (pick (0 ≤ x ∧ x ≤ 6) (evProp (sC A) p k x, A) (-102, A)) (-101, A)
noncomputable def fOrder (A : Sta) (p k q m : Int) : Int × Sta := pick (isE A p k ∧ isE A q m) (aOrd (sC A) p k q m, A) (-101, A)
section AP
variable {sw : Bool} {g : Nat → Nat → Nat} {h : Nat → Int → Int} {A : Sta} {K : Int → (Nat → Int → Int) → Prop}
theorem InvC.comp (I : InvC sw h A) {h' : Nat → Int → Int} {C' : Cmp} (F : ∀ b, b = 1 ∨ b = 3 ∨ b = 4 ∨ b = 5 ∨ b = 31 ∨ b = 32 → h' b = h b) (E : EvOk (evO sw) h' C') (z1 : h' 24 0 = 0) (z2 : h' 33 0 = 0) (z3 : h' 51 0 = 0) (z4 : h' 58 0 = 0) (z5 : h' 61 0 = -1) (z6 : h' 63 0 = 0) : InvC sw h' (newS A C') := by
  obtain ⟨I1, I2, I3, I4, I5, I6, I7, I8, I9, I10, I11⟩ := I
  exact ⟨by rw [F 4 (by omega), F 5 (by omega)]; exact I1, E.1, Or.inr E, I4.keep (F 1 (by omega)), I5.keep (F 31 (by omega)) (F 32 (by omega)), Or.inl z1, Or.inl z2, Or.inl ⟨z4, z3⟩, ⟨z5, fun i i0 i1 => by
    have i1 : i < -1 := i1
    omega⟩, ⟨z6, fun n => absurd rfl n⟩, by rw [F 3 (by omega)]; exact I11⟩
theorem InvM.comp (I : InvM h A) {h' : Nat → Int → Int} {C' : Cmp} (F : ∀ b, 74 ≤ b → b ≤ 76 → h' b = h b) (G : ∀ i, i = 7 ∨ i = 8 ∨ i = 9 ∨ i = 16 ∨ i = 17 → h' 68 i = h 68 i) (E : MdOk h' C') (z1 : h' 68 10 = 0) (z2 : h' 68 12 = 0) : InvM h' (newS A C') := by
  obtain ⟨I1, I2, I3, I4, I5, I6, I7⟩ := I
  exact ⟨by rw [G 17 (by omega), F 76 (by omega) (by omega)]; exact I1, E.1, Or.inr E, I4.keep (G 7 (by omega)) (G 8 (by omega)) (F 74 (by omega) (by omega)), ⟨⟨fun _ => rfl, fun _ => z1⟩, fun i i0 i1 => by
    have i1 : i < -1 := i1
    omega⟩, ⟨⟨fun _ => rfl, fun _ => z2⟩, fun n => absurd rfl n⟩, by rw [G 9 (by omega), G 16 (by omega)]; exact I7⟩
theorem newS_P (P : StP A) {C' : Cmp} (V : Valid C') (n2 : 2 ≤ cN C') : StP (newS A C') := ⟨V.1, Or.inr ⟨V, n2⟩, P.2.2.1, Or.inl rfl, Or.inl rfl⟩
theorem StP.val (P : StP A) {p : Int} (hp : isP A p) : Valid (sC A) ∧ 2 ≤ cN (sC A) := by
  rcases P.2.1 with z | z
  · have := hp.1; have := hp.2; omega
  · exact z
theorem InvC.ev (I : InvC sw h A) (hn : 0 < cN (sC A)) : EvOk (evO sw) h (sC A) := by
  rcases I.2.2.1 with z | z
  · omega
  · exact z
theorem InvM.ev (I : InvM h A) (hn : 0 < cN (sC A)) : MdOk h (sC A) := by
  rcases I.2.2.1 with z | z
  · omega
  · exact z
theorem RC_grow_spec (hG : Gok sw g) (P : StP A) (I : InvC sw h A) {p x d : Int} (hp : isP A p) (hf : ¬ isF A p) (hk : (x = 0 ∧ 0 ≤ d ∧ d ≤ 9) ∨ ((x = 1 ∨ x = 2) ∧ 0 ≤ d ∧ d < cN (sC A) ∧ ¬ d = p)) (hr : x = 2 → cOf (sC A) p 2 d (cS (sC A) p) < cOf (sC A) d 1 p (cS (sC A) d)) (k : KC sw h (fGrow A p x d) K) : RC_grow g h p x d K := by
  obtain ⟨V, n2⟩ := P.val hp
  have W := V.1
  have hN := W.2.1
  obtain ⟨p0, p1⟩ := hp
  obtain ⟨eo, he⟩ := evO_r sw
  have E := I.ev (by omega)
  have hs := W.sz p
  have hT := cT_r W
  have h9 : cS (sC A) p < 9 := by
    have : ¬ cS (sC A) p = 9 := fun z => hf (Or.inl z)
    omega
  have h16 : cT (sC A) < 16 := by
    have : ¬ cT (sC A) = 16 := fun z => hf (Or.inr z)
    omega
  have V' := addE_Valid V p0 p1 h9 h16 hk hr
  have e1 := E.1.2.2.1 p p0 (by omega)
  have e2 := E.1.2.1
  refine RC_grow_wp hG ?_
  simp (disch := omega) only [e1, e2, m9, bd, forall_eq, upd_ob, mwi]
  have D := (E.1.dr W).add (fun q => W.sz q) (k := x) (d := d) p0 (by omega) h9
  have R' : EvR (evO sw) (mvUpd (mvUpd (mvUpd (mvUpd h (evO sw + 2) (9 * p + cS (sC A) p) x) (evO sw + 3) (9 * p + cS (sC A) p) d) (evO sw + 1) p (cS (sC A) p + 1)) (evO sw) 1 (cT (sC A) + 1)) (addE (sC A) p x d) := DrR.ev (C := addE (sC A) p x d) D hN
  refine EV_link_spec hG he R' V'.1 (by show 1 ≤ cN (sC A); omega) (I.2.2.2.1.keep (by rw [upd_ob (by omega), upd_ob (by omega), upd_ob (by omega), upd_ob (by omega)])) (fun _ h6 E6 F6 => ?_) (fun n => absurd V' n)
  have F6' : ∀ b, ¬ (evO sw ≤ b ∧ b ≤ evO sw + 8) → h6 b = h b := fun b nb => by rw [F6 b (by omega), upd_ob (by omega), upd_ob (by omega), upd_ob (by omega), upd_ob (by omega)]
  have s6 : h6 (evO sw + 1) p = cS (sC A) p + 1 := by
    have := E6.1.2.2.1 p p0 (by omega)
    rw [addE_S, if_pos rfl] at this
    exact this
  rw [s6]
  refine k _ (fun b nb => by rw [upd_ob (by omega), upd_ob (by omega), upd_ob (by omega), upd_ob (by omega), upd_ob (by omega), upd_ob (by omega)]; exact F6' b (by omega)) (I.comp (fun b hb => by rw [upd_ob (by omega), upd_ob (by omega), upd_ob (by omega), upd_ob (by omega), upd_ob (by omega), upd_ob (by omega)]; exact F6' b (by omega)) (E6.keep (fun b hb => by rw [upd_ob (by omega), upd_ob (by omega), upd_ob (by omega), upd_ob (by omega), upd_ob (by omega), upd_ob (by omega)])) ?_ ?_ ?_ ?_ ?_ ?_)
  · rw [upd_ob (by omega), upd_ob (by omega), upd_ob (by omega), upd_at]
  · rw [upd_ob (by omega), upd_ob (by omega), upd_at]
  · rw [upd_ob (by omega), upd_at]
  · rw [upd_at]
  · rw [upd_ob (by omega), upd_ob (by omega), upd_ob (by omega), upd_ob (by omega), upd_ob (by omega), upd_at]
  · rw [upd_ob (by omega), upd_ob (by omega), upd_ob (by omega), upd_ob (by omega), upd_at]
theorem MD_comes_spec (hG : Gok sw g) (P : StP A) (I : InvM h A) {p x d : Int} (hp : isP A p) (hf : ¬ isF A p) (hk : (x = 0 ∧ 0 ≤ d ∧ d ≤ 9) ∨ ((x = 1 ∨ x = 2) ∧ 0 ≤ d ∧ d < cN (sC A) ∧ ¬ d = p)) (hr : x = 2 → cOf (sC A) p 2 d (cS (sC A) p) < cOf (sC A) d 1 p (cS (sC A) d)) (k : KM h (fGrow A p x d) K) : MD_comes g h p x d K := by
  obtain ⟨V, n2⟩ := P.val hp
  have W := V.1
  have hN := W.2.1
  obtain ⟨p0, p1⟩ := hp
  have E := I.ev (by omega)
  have hs := W.sz p
  have hT := cT_r W
  have h9 : cS (sC A) p < 9 := by
    have : ¬ cS (sC A) p = 9 := fun z => hf (Or.inl z)
    omega
  have h16 : cT (sC A) < 16 := by
    have : ¬ cT (sC A) = 16 := fun z => hf (Or.inr z)
    omega
  have V' := addE_Valid V p0 p1 h9 h16 hk hr
  have R := E.1
  refine MD_comes_wp hG ?_
  simp (disch := omega) only [R.2.1, bd, forall_eq, upd_ob, mwi]
  have R' : MdR (mvUpd (mvUpd (mvUpd h 70 (9 * p + cS (sC A) p) x) 71 (9 * p + cS (sC A) p) d) 69 p (cS (sC A) p + 1)) (addE (sC A) p x d) := by
    refine ⟨by rw [upd_ob (by omega), upd_ob (by omega), upd_ob (by omega)]; exact R.1, fun q q0 q1 => ?_, fun q i q0 q1 i0 i1 => ?_⟩
    · rw [addE_S]
      by_cases e : q = p
      · rw [e, upd_at, if_pos rfl]
      · rw [upd_ix e, if_neg e, upd_ob (by omega), upd_ob (by omega)]; exact R.2.1 q q0 q1
    · rw [addE_N] at q1
      rw [addE_S] at i1
      have sq := W.sz q
      rw [upd_ob (b := 70) (by omega), upd_ob (b := 70) (by omega), upd_ob (b := 71) (by omega), addE_K, addE_D]
      by_cases en : q = p ∧ i = cS (sC A) p
      · rw [if_pos en, if_pos en, en.1, en.2, upd_at, upd_at]
        exact ⟨rfl, rfl⟩
      · rw [if_neg en, if_neg en]
        have i2 : i < cS (sC A) q := by
          by_cases eq : q = p
          · rw [if_pos eq] at i1
            have : ¬ i = cS (sC A) p := fun z => en ⟨eq, z⟩
            rw [← eq] at this
            omega
          · rw [if_neg eq] at i1; exact i1
        rw [upd_ix (fun z => en (by omega)), upd_ix (fun z => en (by omega)), upd_ob (by omega)]
        exact R.2.2 q i q0 q1 i0 i2
  refine MD_changes_spec hG R' V' (by show 1 ≤ cN (sC A); omega) (fun h4 F4 G4 z1 z2 E4 => ?_)
  have s4 : h4 69 p = cS (sC A) p + 1 := by rw [E4.1.2.1 p p0 (by omega), addE_S, if_pos rfl]
  rw [s4]
  exact k h4 (fun b hb => by rw [F4 b (by omega) (by omega) (by omega), upd_ob (by omega), upd_ob (by omega), upd_ob (by omega)]) (I.comp (fun b b1 b2 => by rw [F4 b (by omega) (by omega) (by omega), upd_ob (by omega), upd_ob (by omega), upd_ob (by omega)]) (fun i hi => by rw [G4 i (by omega) (by omega), upd_ob (by omega), upd_ob (by omega), upd_ob (by omega)]) E4 z1 z2)
theorem grow_P (P : StP A) {p x d : Int} (hp : isP A p) (hf : ¬ isF A p) (hk : (x = 0 ∧ 0 ≤ d ∧ d ≤ 9) ∨ ((x = 1 ∨ x = 2) ∧ 0 ≤ d ∧ d < cN (sC A) ∧ ¬ d = p)) (hr : x = 2 → cOf (sC A) p 2 d (cS (sC A) p) < cOf (sC A) d 1 p (cS (sC A) d)) : StP (fGrow A p x d).2 := by
  obtain ⟨V, n2⟩ := P.val hp
  have hs := V.1.sz p
  have hT := cT_r V.1
  have a : ¬ cS (sC A) p = 9 := fun z => hf (Or.inl z)
  have b : ¬ cT (sC A) = 16 := fun z => hf (Or.inr z)
  exact newS_P P (addE_Valid V hp.1 hp.2 (by omega) (by omega) hk hr) n2
theorem RC_local_spec (hG : Gok sw g) (P : StP A) (I : InvC sw h A) {p v : Int} (k : KC sw h (fLocal A p v) K) : RC_local g h p v K := by
  have R := I.2.1
  unfold fLocal at k
  refine RC_local_wp hG ⟨fun z => ?_, fun p0 => ?_⟩
  · rw [pick_f (fun y => by have := y.1; omega)] at k; exact I.same k
  rw [R.1]
  refine ⟨fun z => ?_, fun p1 => ?_⟩
  · rw [pick_f (fun y => by have := y.2; omega)] at k; exact I.same k
  have hp : isP A p := ⟨p0, p1⟩
  have hN := P.1.2.1
  have hs := P.1.sz p
  have hT := P.1.2.2.2.2.1
  rw [pick_t hp] at k
  refine ⟨fun z => ?_, fun v0 => ⟨fun v1 => ⟨⟨p0, by omega⟩, ?_⟩, fun z => ?_⟩⟩
  · rw [pick_f (by omega)] at k; exact I.same k
  · rw [pick_t ⟨v0, v1⟩] at k
    rw [R.2.2.1 p p0 (by omega), R.2.1]
    refine ⟨fun z => ?_, fun z => ⟨fun z2 => ?_, fun z2 => ?_⟩⟩
    · rw [pick_t (show isF A p from Or.inl (by omega))] at k; exact I.same k
    · rw [pick_t (show isF A p from Or.inr (by omega))] at k; exact I.same k
    · have nf : ¬ isF A p := fun y => by rcases y with y | y <;> omega
      rw [pick_f nf] at k
      exact RC_grow_spec hG P I hp nf (Or.inl ⟨rfl, v0, v1⟩) (fun y => absurd y (by decide)) k
  · rw [pick_f (by omega)] at k; exact I.same k
theorem MD_local_spec (hG : Gok sw g) (P : StP A) (I : InvM h A) {p v : Int} (k : KM h (fLocal A p v) K) : MD_local g h p v K := by
  have R := I.2.1
  have W := P.1
  have hN := W.2.1
  have hN0 := W.1
  unfold fLocal at k
  refine MD_local_wp hG ⟨fun z => ?_, fun p0 => ?_⟩
  · rw [pick_f (fun y => by have := y.1; omega)] at k; exact I.same k
  rw [R.1, mwi (z := cN (sC A) - 1) (by omega) (by omega)]
  refine ⟨fun z => ?_, fun p1 => ⟨fun z => ?_, fun v0 => ⟨fun z => ?_, fun v1 => ?_⟩⟩⟩
  · rw [pick_f (fun y => by have := y.2; omega)] at k; exact I.same k
  · rw [pick_t ⟨p0, by omega⟩, pick_f (by omega)] at k; exact I.same k
  · rw [pick_t ⟨p0, by omega⟩, pick_f (by omega)] at k; exact I.same k
  · have hp : isP A p := ⟨p0, by omega⟩
    rw [pick_t hp, pick_t ⟨v0, v1⟩] at k
    refine MD_isFull_spec hG R W p0 (by omega) (fun f => ⟨fun z => absurd z (by decide), fun _ => ?_⟩) (fun f => ⟨fun _ => ?_, fun z => absurd rfl z⟩)
    · rw [pick_t (show isF A p from f)] at k; exact I.same k
    · rw [pick_f (show ¬ isF A p from f)] at k
      exact MD_comes_spec hG P I hp f (Or.inl ⟨rfl, v0, v1⟩) (fun y => absurd y (by decide)) k
theorem fLocal_P (P : StP A) {p v : Int} : StP (fLocal A p v).2 := by
  unfold fLocal
  rcases Classical.em (isP A p) with a | a
  · rw [pick_t a]
    rcases Classical.em (0 ≤ v ∧ v ≤ 9) with b | b
    · rw [pick_t b]
      rcases Classical.em (isF A p) with c | c
      · rw [pick_t c]; exact P
      · rw [pick_f c]; exact grow_P P a c (Or.inl ⟨rfl, b⟩) (fun y => absurd y (by decide))
    · rw [pick_f b]; exact P
  · rw [pick_f a]; exact P
theorem RC_send_spec (hG : Gok sw g) (P : StP A) (I : InvC sw h A) {p q : Int} (k : KC sw h (fSend A p q) K) : RC_send g h p q K := by
  have R := I.2.1
  have hN := P.1.2.1
  have hs := P.1.sz p
  have hT := P.1.2.2.2.2.1
  unfold fSend at k
  have bad : ¬ isQ A p q → K (-101) h := fun n => by rw [pick_f n] at k; exact I.same k
  refine RC_send_wp hG ⟨fun z => bad (fun y => by have := y.1.1; omega), fun p0 => ?_⟩
  rw [R.1]
  refine ⟨fun z => bad (fun y => by have := y.1.2; omega), fun p1 => ⟨fun z => bad (fun y => by have := y.2.1.1; omega), fun q0 => ⟨fun z => bad (fun y => by have := y.2.1.2; omega), fun q1 => ⟨fun z => bad (fun y => y.2.2 z), fun ne => ⟨⟨p0, by omega⟩, ?_⟩⟩⟩⟩⟩
  have hq : isQ A p q := ⟨⟨p0, p1⟩, ⟨q0, q1⟩, ne⟩
  rw [pick_t hq] at k
  rw [R.2.2.1 p p0 (by omega), R.2.1]
  refine ⟨fun z => ?_, fun z => ⟨fun z2 => ?_, fun z2 => ?_⟩⟩
  · rw [pick_t (show isF A p from Or.inl (by omega))] at k; exact I.same k
  · rw [pick_t (show isF A p from Or.inr (by omega))] at k; exact I.same k
  · have nf : ¬ isF A p := fun y => by rcases y with y | y <;> omega
    rw [pick_f nf] at k
    exact RC_grow_spec hG P I hq.1 nf (Or.inr ⟨Or.inl rfl, q0, q1, fun y => ne y.symm⟩) (fun y => absurd y (by decide)) k
theorem MD_send_spec (hG : Gok sw g) (P : StP A) (I : InvM h A) {p q : Int} (k : KM h (fSend A p q) K) : MD_send g h p q K := by
  have R := I.2.1
  have W := P.1
  have hN := W.2.1
  have hN0 := W.1
  unfold fSend at k
  have bad : ¬ isQ A p q → K (-101) h := fun n => by rw [pick_f n] at k; exact I.same k
  refine MD_send_wp hG ⟨fun z => bad (fun y => by have := y.1.1; omega), fun p0 => ?_⟩
  rw [R.1, mwi (z := cN (sC A) - 1) (by omega) (by omega)]
  refine ⟨fun z => bad (fun y => by have := y.1.2; omega), fun p1 => ⟨fun z => bad (fun y => by have := y.2.1.1; omega), fun q0 => ⟨fun z => bad (fun y => by have := y.2.1.2; omega), fun q1 => ⟨fun ne => ?_, fun z => bad (fun y => y.2.2 z)⟩⟩⟩⟩
  have hq : isQ A p q := ⟨⟨p0, by omega⟩, ⟨q0, by omega⟩, ne⟩
  rw [pick_t hq] at k
  refine MD_isFull_spec hG R W p0 (by omega) (fun f => ⟨fun z => absurd z (by decide), fun _ => ?_⟩) (fun f => ⟨fun _ => ?_, fun z => absurd rfl z⟩)
  · rw [pick_t (show isF A p from f)] at k; exact I.same k
  · rw [pick_f (show ¬ isF A p from f)] at k
    exact MD_comes_spec hG P I hq.1 f (Or.inr ⟨Or.inl rfl, q0, by omega, fun y => ne y.symm⟩) (fun y => absurd y (by decide)) k
theorem fSend_P (P : StP A) {p q : Int} : StP (fSend A p q).2 := by
  unfold fSend
  rcases Classical.em (isQ A p q) with a | a
  · rw [pick_t a]
    rcases Classical.em (isF A p) with c | c
    · rw [pick_t c]; exact P
    · rw [pick_f c]; exact grow_P P a.1 c (Or.inr ⟨Or.inl rfl, a.2.1.1, a.2.1.2, fun y => a.2.2 y.symm⟩) (fun y => absurd y (by decide))
  · rw [pick_f a]; exact P
theorem RC_receive_spec (hG : Gok sw g) (P : StP A) (I : InvC sw h A) {p q : Int} (k : KC sw h (fRecv A p q) K) : RC_receive g h p q K := by
  have R := I.2.1
  have hN := P.1.2.1
  have hs := P.1.sz p
  have hT := P.1.2.2.2.2.1
  obtain ⟨eo, he⟩ := evO_r sw
  unfold fRecv at k
  have bad : ¬ isQ A p q → K (-101) h := fun n => by rw [pick_f n] at k; exact I.same k
  refine RC_receive_wp hG ⟨fun z => bad (fun y => by have := y.1.1; omega), fun p0 => ?_⟩
  rw [R.1]
  refine ⟨fun z => bad (fun y => by have := y.1.2; omega), fun p1 => ⟨fun z => bad (fun y => by have := y.2.1.1; omega), fun q0 => ⟨fun z => bad (fun y => by have := y.2.1.2; omega), fun q1 => ⟨fun z => bad (fun y => y.2.2 z), fun ne => ?_⟩⟩⟩⟩
  have hq : isQ A p q := ⟨⟨p0, p1⟩, ⟨q0, q1⟩, ne⟩
  rw [pick_t hq] at k
  refine EV_hasFreeSend_spec hG he (I.ev (by omega)) q0 q1 p0 p1 (fun lt => ⟨fun _ => ⟨⟨p0, by omega⟩, ?_⟩, fun z => absurd z (by decide)⟩) (fun le => ⟨fun z => absurd rfl z, fun _ => ?_⟩)
  · rw [pick_t lt] at k
    rw [R.2.2.1 p p0 (by omega), R.2.1]
    refine ⟨fun z => ?_, fun z => ⟨fun z2 => ?_, fun z2 => ?_⟩⟩
    · rw [pick_t (show isF A p from Or.inl (by omega))] at k; exact I.same k
    · rw [pick_t (show isF A p from Or.inr (by omega))] at k; exact I.same k
    · have nf : ¬ isF A p := fun y => by rcases y with y | y <;> omega
      rw [pick_f nf] at k
      exact RC_grow_spec hG P I hq.1 nf (Or.inr ⟨Or.inr rfl, q0, q1, fun y => ne y.symm⟩) (fun _ => lt) k
  · rw [pick_f (by omega)] at k; exact I.same k
theorem MD_receive_spec (hG : Gok sw g) (P : StP A) (I : InvM h A) {p q : Int} (k : KM h (fRecv A p q) K) : MD_receive g h p q K := by
  have R := I.2.1
  have W := P.1
  have hN := W.2.1
  have hN0 := W.1
  unfold fRecv at k
  have bad : ¬ isQ A p q → K (-101) h := fun n => by rw [pick_f n] at k; exact I.same k
  refine MD_receive_wp hG ⟨fun z => bad (fun y => by have := y.1.1; omega), fun p0 => ?_⟩
  rw [R.1, mwi (z := cN (sC A) - 1) (by omega) (by omega)]
  refine ⟨fun z => bad (fun y => by have := y.1.2; omega), fun p1 => ⟨fun z => bad (fun y => by have := y.2.1.1; omega), fun q0 => ⟨fun z => bad (fun y => by have := y.2.1.2; omega), fun q1 => ⟨fun ne => ⟨⟨q0, by omega⟩, ?_⟩, fun z => bad (fun y => y.2.2 z)⟩⟩⟩⟩
  have hq : isQ A p q := ⟨⟨p0, by omega⟩, ⟨q0, by omega⟩, ne⟩
  obtain ⟨V, n2⟩ := P.val hq.1
  have sp := W.sz p
  have sq := W.sz q
  have fl := full_le V p0 hq.1.2 q0 hq.2.1.2
  rw [pick_t hq] at k
  rw [R.2.1 q q0 (by omega)]
  refine MD_of_spec hG q0 (by omega) sq.1 sq.2 (R.of q0 hq.2.1.2 (Int.le_refl _)) ⟨⟨p0, by omega⟩, ?_⟩
  rw [R.2.1 p p0 (by omega)]
  refine MD_of_spec hG p0 (by omega) sp.1 sp.2 (R.of p0 hq.1.2 (Int.le_refl _)) ⟨fun ne2 => ?_, fun eq2 => ?_⟩
  · rw [pick_t (by omega)] at k
    refine MD_isFull_spec hG R W p0 hq.1.2 (fun f => ⟨fun z => absurd z (by decide), fun _ => ?_⟩) (fun f => ⟨fun _ => ?_, fun z => absurd rfl z⟩)
    · rw [pick_t (show isF A p from f)] at k; exact I.same k
    · rw [pick_f (show ¬ isF A p from f)] at k
      exact MD_comes_spec hG P I hq.1 f (Or.inr ⟨Or.inr rfl, q0, hq.2.1.2, fun y => ne y.symm⟩) (fun _ => by omega) k
  · rw [pick_f (by omega)] at k; exact I.same k
theorem fRecv_P (P : StP A) {p q : Int} : StP (fRecv A p q).2 := by
  unfold fRecv
  rcases Classical.em (isQ A p q) with a | a
  · rw [pick_t a]
    rcases Classical.em (cOf (sC A) p 2 q (cS (sC A) p) < cOf (sC A) q 1 p (cS (sC A) q)) with b | b
    · rw [pick_t b]
      rcases Classical.em (isF A p) with c | c
      · rw [pick_t c]; exact P
      · rw [pick_f c]; exact grow_P P a.1 c (Or.inr ⟨Or.inr rfl, a.2.1.1, a.2.1.2, fun y => a.2.2 y.symm⟩) (fun _ => b)
    · rw [pick_f b]; exact P
  · rw [pick_f a]; exact P
end AP
