/-! the lattice, the wish, what holds -/
noncomputable def aLattice (A : Sta) (x : Int) : Int := pick (0 ≤ x ∧ x ≤ 4) (pick (cN (sC A) = 0) (-103) (latP (sC A) x)) (-102)
noncomputable def aLev (A : Sta) (l x : Int) : Int := pick (cN (sC A) = 0) (-103) (aLevel (sC A) l x)
noncomputable def fWish (A : Sta) (a b : Int) : Int × Sta := pick ((0 ≤ a ∧ a ≤ 3) ∧ 0 ≤ b ∧ b ≤ 36) ((sW A).1, (sC A, (a, b, (sW A).2.2), A.2.2)) (-102, A)
noncomputable def fAllow (A : Sta) (p v : Int) : Int × Sta := pick (isP A p) (pick (0 ≤ v ∧ v ≤ 1023) ((sW A).2.2 p, (sC A, ((sW A).1, (sW A).2.1, fun q => if q = p then v else (sW A).2.2 q), A.2.2)) (-102, A)) (-101, A)
noncomputable def aWished (A : Sta) (x : Int) : Int := pick (0 ≤ x ∧ x ≤ 3) (pick (cN (sC A) = 0) (-103) (seaP (sC A) (sW A) x)) (-102)
noncomputable def aAround (A : Sta) (s : Int) : Int := pick (cN (sC A) = 0) (-103) (pick (av (sC A) (sW A) (fun _ => 0) ∧ 0 ≤ s ∧ s < cT (sC A)) (gst (sC A) (sW A) (pthC (sC A) (sW A) s)) (-101))
def isA (A : Sta) : Prop := ¬ cN (sC A) = 0 ∧ (sW A).1 = 0
noncomputable def aLeast (A : Sta) : Int := pick (isA A) (lowV (sC A) (sW A)) (-103)
noncomputable def aStrong (A : Sta) : Int := pick (isA A) (pick (str (sC A) (sW A)) 1 0) (-103)
noncomputable def aInterval (A : Sta) (p i x : Int) : Int := pick (isA A) (pick (isP A p ∧ 0 ≤ i ∧ i < nIv (sC A) (sW A) p (cS (sC A) p + 1)) (pick (0 ≤ x ∧ x ≤ 1) (if x = 0 then bgn (sC A) (sW A) p i else endv (sC A) (sW A) p i) (-102)) (-101)) (-103)
noncomputable def aLean (A : Sta) (x : Int) : Int := pick (0 ≤ x ∧ x ≤ 3) (pick (isA A) (leanV (sC A) (sW A) x) (-103)) (-102)
section AP
variable {sw : Bool} {g : Nat → Nat → Nat} {h : Nat → Int → Int} {A : Sta} {K : Int → (Nat → Int → Int) → Prop}
theorem InvM.q87 (I : InvM h A) {h' : Nat → Int → Int} (F : ∀ b, ¬ (81 ≤ b ∧ b ≤ 90) → h' b = h b) : FrM h h' ∧ InvM h' A := ⟨fun b hb => F b (by omega), I.mod2 (fun b b1 b2 => F b (by omega)) (fun i hi => by rw [F 68 (by omega)])⟩
theorem RC_lattice_spec (hG : Gok sw g) (P : StP A) (I : InvC sw h A) {x : Int} (k : KC sw h (aLattice A x, A) K) : RC_lattice g h x K := by
  have R := I.2.1
  have hN0 := P.1.1
  unfold aLattice at k
  refine RC_lattice_wp hG ⟨fun z => ?_, fun x0 => ⟨fun x1 => ?_, fun z => ?_⟩⟩
  · rw [pick_f (by omega)] at k; exact I.same k
  · rw [pick_t ⟨x0, x1⟩] at k
    rw [R.1]
    refine ⟨fun z => ?_, fun n0 => I.lat hG n0 (fun h1 F1 I1 L1 => LT_property_spec hG (Or.inl rfl) P.1 L1 ?_)⟩
    · rw [pick_t (by omega)] at k; exact I.same k
    · rw [pick_f (by omega)] at k; exact k h1 F1 I1
  · rw [pick_f (by omega)] at k; exact I.same k
theorem MD_lattice_spec (hG : Gok sw g) (P : StP A) (I : InvM h A) {x : Int} (k : KM h (aLattice A x, A) K) : MD_lattice g h x K := by
  have R := I.2.1
  have hN0 := P.1.1
  unfold aLattice at k
  refine MD_lattice_wp hG ⟨fun z => ?_, fun x0 => ⟨fun z => ?_, fun x1 => ?_⟩⟩
  · rw [pick_f (by omega)] at k; exact I.same k
  · rw [pick_f (by omega)] at k; exact I.same k
  · rw [pick_t ⟨x0, x1⟩] at k
    rw [R.1]
    refine ⟨fun z => ?_, fun n0 => MD_latticeNow_spec hG (I.ev n0) I.2.2.2.1 x0 x1 (fun h1 F1 => ?_)⟩
    · rw [pick_t (by omega)] at k; exact I.same k
    · rw [pick_f (by omega)] at k
      obtain ⟨a, b⟩ := I.q87 (h' := h1) (fun b nb => F1 b (by omega))
      exact k h1 a b
theorem RC_level_spec (hG : Gok sw g) (P : StP A) (I : InvC sw h A) {l x : Int} (k : KC sw h (aLev A l x, A) K) : RC_level g h l x K := by
  obtain ⟨eo, he⟩ := evO_r sw
  have R := I.2.1
  have W := P.1
  have hN0 := W.1
  have hT := cT_r W
  have n := NP_le W
  unfold aLev at k
  refine RC_level_wp hG ?_
  rw [R.1]
  refine ⟨fun z => ?_, fun n0 => I.lat hG n0 (fun h1 F1 I1 L1 => ?_)⟩
  · rw [pick_t (by omega)] at k; exact I.same k
  rw [pick_f (by omega)] at k
  have k := k h1 F1 I1
  unfold aLevel at k
  rw [I1.2.1.2.1]
  have none : (l < 0 ∨ cT (sC A) < l) → lc (sC A) l (NP (sC A)) = 0 := fun hl => cntI_none (fun j j0 j1 z => by
    have a := lev_nn (ctI_in W j0 j1)
    have b := lev_le (ctI_in W j0 j1)
    have c := z.2
    omega)
  refine ⟨fun z => ?_, fun l0 => ⟨fun l1 => ⟨fun z => ?_, fun x0 => ?_⟩, fun z => ?_⟩⟩
  · rw [pick_f (fun y => by have := none (Or.inl z); omega)] at k; exact k
  · rw [pick_f (fun y => by omega)] at k; exact k
  · have lz := lv_size W L1 (l := l) l0 (by omega)
    have s1 := L1.2.2.2.2.2.2.1 l l0 (by omega)
    rw [lz, mwi (z := l + 1) (by omega) (by omega)]
    have hb := bl_r W l
    have hb2 := bl_r W (l + 1)
    have hbs := bl_s W (l := l)
    refine ⟨⟨by omega, by omega⟩, ⟨l0, by omega⟩, fun lt => ?_, fun ge => ?_⟩
    · obtain ⟨j0, j1, j2, j3⟩ := cutJ_ok W x0 lt
      have er : rk (sC A) (cutJ (sC A) l x) = bl (sC A) l + x := by
        unfold rk
        rw [j2.2, j3]
      have es := L1.2.2.2.2.2.2.2 _ j0 j1 j2.1
      rw [er] at es
      have es : h1 28 (bl (sC A) l + x) = cutJ (sC A) l x := es
      have s1 : h1 25 l = bl (sC A) l := s1
      rw [s1, mwi (z := bl (sC A) l + x) (by omega) (by omega), es]
      have ez : h1 27 (cutJ (sC A) l x) = en (cN (sC A)) (ctI (sC A) (cutJ (sC A) l x)) := L1.2.2.1.2.2 _ j0 j1
      rw [ez]
      rw [pick_t ⟨x0, lt⟩] at k
      exact ⟨⟨l0, by omega⟩, ⟨by omega, by omega⟩, ⟨j0, by omega⟩, k⟩
    · rw [pick_f (fun y => by omega)] at k; exact k
  · rw [pick_f (fun y => by have := none (Or.inr z); omega)] at k; exact k
theorem MD_level_spec (hG : Gok sw g) (P : StP A) (I : InvM h A) {l x : Int} (hx : mv32 x) (k : KM h (aLev A l x, A) K) : MD_level g h l x K := by
  have R := I.2.1
  have hN0 := P.1.1
  unfold aLev at k
  refine MD_level_wp hG ?_
  rw [R.1]
  refine ⟨fun z => ?_, fun n0 => MD_levelAt_spec hG (I.ev n0) I.2.2.2.1 hx (fun h1 F1 => ?_)⟩
  · rw [pick_t (by omega)] at k; exact I.same k
  · rw [pick_f (by omega)] at k
    obtain ⟨a, b⟩ := I.q87 (h' := h1) (fun b nb => F1 b (by omega))
    exact k h1 a b
theorem InvC.wish (I : InvC sw h A) {h' : Nat → Int → Int} {w' : Wsh} (F : ∀ b, ¬ b = 31 → ¬ b = 32 → ¬ b = 33 → ¬ b = 51 → ¬ b = 58 → h' b = h b) (Q : PrOk h' w') (z1 : h' 33 0 = 0) (z2 : h' 51 0 = 0) (z3 : h' 58 0 = 0) : InvC sw h' (sC A, w', A.2.2) := by
  obtain ⟨I1, I2, I3, I4, I5, I6, I7, I8, I9, I10, I11⟩ := I
  obtain ⟨eo, -⟩ := evO_r sw
  have e : ∀ b, b < 31 → h' b = h b := fun b hb => F b (by omega) (by omega) (by omega) (by omega) (by omega)
  refine ⟨by rw [e 4 (by omega), e 5 (by omega)]; exact I1, I2.keep (e _ (by omega)) (e _ (by omega)) (e _ (by omega)) (e _ (by omega)), ?_, I4.keep (e 1 (by omega)), Q, ?_, Or.inl z1, Or.inl ⟨z3, z2⟩, by rw [F 61 (by omega) (by omega) (by omega) (by omega) (by omega), F 62 (by omega) (by omega) (by omega) (by omega) (by omega)]; exact I9, by rw [F 63 (by omega) (by omega) (by omega) (by omega) (by omega)]; exact I10, by rw [e 3 (by omega)]; exact I11⟩
  · rcases I3 with z | z
    · exact Or.inl z
    · exact Or.inr (z.keep (fun b hb => e b (by omega)))
  · rcases I6 with z | z
    · exact Or.inl (by rw [e 24 (by omega)]; exact z)
    · exact Or.inr (z.keep (fun b b1 b2 => e b (by omega)))
theorem InvM.wish (I : InvM h A) {h' : Nat → Int → Int} {w' : Wsh} (F : ∀ b, ¬ b = 68 → ¬ b = 74 → h' b = h b) (G : ∀ i, ¬ i = 7 → ¬ i = 8 → h' 68 i = h 68 i) (Q : MdW h' w') : InvM h' (sC A, w', A.2.2) := by
  obtain ⟨I1, I2, I3, I4, I5, I6, I7⟩ := I
  refine ⟨by rw [G 17 (by omega) (by omega), F 76 (by omega) (by omega)]; exact I1, I2.keep (G 0 (by omega) (by omega)) (F _ (by omega) (by omega)) (F _ (by omega) (by omega)) (F _ (by omega) (by omega)), ?_, Q, by rw [G 10 (by omega) (by omega), F 75 (by omega) (by omega)]; exact I5, by rw [G 12 (by omega) (by omega), G 13 (by omega) (by omega), G 14 (by omega) (by omega), G 15 (by omega) (by omega)]; exact I6, by rw [G 9 (by omega) (by omega), G 16 (by omega) (by omega)]; exact I7⟩
  rcases I3 with z | z
  · exact Or.inl z
  · exact Or.inr (z.keep (G 0 (by omega) (by omega)) (fun b b1 b2 => F b (by omega) (by omega)))
theorem RC_wish_spec (hG : Gok sw g) (P : StP A) (I : InvC sw h A) {a b : Int} (k : KC sw h (fWish A a b) K) : RC_wish g h a b K := by
  have Q := I.2.2.2.2.1
  unfold fWish at k
  have bad : ¬ ((0 ≤ a ∧ a ≤ 3) ∧ 0 ≤ b ∧ b ≤ 36) → K (-102) h := fun n => by rw [pick_f n] at k; exact I.same k
  refine RC_wish_wp hG ⟨fun z => bad (by omega), fun a0 => ⟨fun z => bad (by omega), fun a1 => ⟨fun z => bad (by omega), fun b0 => ⟨fun b1 => ?_, fun z => bad (by omega)⟩⟩⟩⟩
  rw [pick_t ⟨⟨a0, a1⟩, b0, b1⟩] at k
  rw [Q.1]
  simp only [forall_eq]
  refine k _ (fun c nc => by rw [upd_ob (by omega), upd_ob (by omega), upd_ob (by omega), upd_ob (by omega), upd_ob (by omega)]) (I.wish (fun c n1 n2 n3 n4 n5 => by rw [upd_ob n5, upd_ob n4, upd_ob n3, upd_ob n1, upd_ob n1]) ⟨?_, ?_, fun p p0 p1 => ?_, a0, a1, b0, b1⟩ ?_ ?_ ?_)
  · rw [upd_ob (by omega), upd_ob (by omega), upd_ob (by omega), upd_ix (by omega), upd_at]
  · rw [upd_ob (by omega), upd_ob (by omega), upd_ob (by omega), upd_at]
  · rw [upd_ob (by omega), upd_ob (by omega), upd_ob (by omega), upd_ob (by omega), upd_ob (by omega)]; exact Q.2.2.1 p p0 p1
  · rw [upd_ob (by omega), upd_ob (by omega), upd_at]
  · rw [upd_ob (by omega), upd_at]
  · rw [upd_at]
theorem MD_wish_spec (hG : Gok sw g) (P : StP A) (I : InvM h A) {a b : Int} (k : KM h (fWish A a b) K) : MD_wish g h a b K := by
  have Q := I.2.2.2.1
  unfold fWish at k
  have bad : ¬ ((0 ≤ a ∧ a ≤ 3) ∧ 0 ≤ b ∧ b ≤ 36) → K (-102) h := fun n => by rw [pick_f n] at k; exact I.same k
  refine MD_wish_wp hG ⟨fun z => bad (by omega), fun a0 => ⟨fun z => bad (by omega), fun a1 => ⟨fun z => bad (by omega), fun b0 => ⟨fun z => bad (by omega), fun b1 => ?_⟩⟩⟩⟩
  rw [pick_t ⟨⟨a0, a1⟩, b0, b1⟩] at k
  rw [Q.1]
  simp only [forall_eq]
  refine k _ (fun c nc => by rw [upd_ob (by omega), upd_ob (by omega)]) (I.wish (fun c n1 n2 => by rw [upd_ob n1, upd_ob n1]) (fun i n1 n2 => by rw [upd_ix n2, upd_ix n1]) ⟨?_, ?_, fun p p0 p1 => ?_, a0, a1, b0, b1⟩)
  · rw [upd_ix (by omega), upd_at]
  · rw [upd_at]
  · rw [upd_ob (by omega), upd_ob (by omega)]; exact Q.2.2.1 p p0 p1
theorem RC_allow_spec (hG : Gok sw g) (P : StP A) (I : InvC sw h A) {p v : Int} (k : KC sw h (fAllow A p v) K) : RC_allow g h p v K := by
  have Q := I.2.2.2.2.1
  have R := I.2.1
  have hN := P.1.2.1
  unfold fAllow at k
  have bad : ¬ isP A p → K (-101) h := fun n => by rw [pick_f n] at k; exact I.same k
  refine RC_allow_wp hG ⟨fun z => bad (fun y => by have := y.1; omega), fun p0 => ?_⟩
  rw [R.1]
  refine ⟨fun z => bad (fun y => by have := y.2; omega), fun p1 => ?_⟩
  rw [pick_t ⟨p0, p1⟩] at k
  refine ⟨fun z => ?_, fun v0 => ⟨fun v1 => ⟨⟨p0, by omega⟩, ?_⟩, fun z => ?_⟩⟩
  · rw [pick_f (by omega)] at k; exact I.same k
  · rw [pick_t ⟨v0, v1⟩] at k
    rw [Q.2.2.1 p p0 (by omega)]
    simp (disch := omega) only [bd, forall_eq]
    refine k _ (fun c nc => by rw [upd_ob (by omega), upd_ob (by omega), upd_ob (by omega), upd_ob (by omega)]) (I.wish (fun c n1 n2 n3 n4 n5 => by rw [upd_ob n5, upd_ob n4, upd_ob n3, upd_ob n2]) ⟨?_, ?_, fun q q0 q1 => ?_, Q.2.2.2.1, Q.2.2.2.2.1, Q.2.2.2.2.2.1, Q.2.2.2.2.2.2⟩ ?_ ?_ ?_)
    · rw [upd_ob (by omega), upd_ob (by omega), upd_ob (by omega), upd_ob (by omega)]; exact Q.1
    · rw [upd_ob (by omega), upd_ob (by omega), upd_ob (by omega), upd_ob (by omega)]; exact Q.2.1
    · rw [upd_ob (by omega), upd_ob (by omega), upd_ob (by omega)]
      show mvUpd h 32 p v 32 q = if q = p then v else (sW A).2.2 q
      by_cases e : q = p
      · rw [e, upd_at, if_pos rfl]
      · rw [upd_ix e, if_neg e]; exact Q.2.2.1 q q0 q1
    · rw [upd_ob (by omega), upd_ob (by omega), upd_at]
    · rw [upd_ob (by omega), upd_at]
    · rw [upd_at]
  · rw [pick_f (by omega)] at k; exact I.same k
theorem MD_allow_spec (hG : Gok sw g) (P : StP A) (I : InvM h A) {p v : Int} (k : KM h (fAllow A p v) K) : MD_allow g h p v K := by
  have Q := I.2.2.2.1
  have R := I.2.1
  have hN := P.1.2.1
  have hN0 := P.1.1
  unfold fAllow at k
  have bad : ¬ isP A p → K (-101) h := fun n => by rw [pick_f n] at k; exact I.same k
  refine MD_allow_wp hG ⟨fun z => bad (fun y => by have := y.1; omega), fun p0 => ?_⟩
  rw [R.1, mwi (z := cN (sC A) - 1) (by omega) (by omega)]
  refine ⟨fun z => bad (fun y => by have := y.2; omega), fun p1 => ?_⟩
  rw [pick_t ⟨p0, by omega⟩] at k
  refine ⟨fun z => ?_, fun v0 => ⟨fun z => ?_, fun v1 => ⟨⟨p0, by omega⟩, ?_⟩⟩⟩
  · rw [pick_f (by omega)] at k; exact I.same k
  · rw [pick_f (by omega)] at k; exact I.same k
  · rw [pick_t ⟨v0, v1⟩] at k
    rw [Q.2.2.1 p p0 (by omega)]
    simp (disch := omega) only [bd, forall_eq]
    refine k _ (fun c nc => upd_ob (by omega)) (I.wish (fun c n1 n2 => upd_ob n2) (fun i n1 n2 => by rw [upd_ob (by omega)]) ⟨?_, ?_, fun q q0 q1 => ?_, Q.2.2.2.1, Q.2.2.2.2.1, Q.2.2.2.2.2.1, Q.2.2.2.2.2.2⟩)
    · rw [upd_ob (by omega)]; exact Q.1
    · rw [upd_ob (by omega)]; exact Q.2.1
    · show mvUpd h 74 p v 74 q = if q = p then v else (sW A).2.2 q
      by_cases e : q = p
      · rw [e, upd_at, if_pos rfl]
      · rw [upd_ix e, if_neg e]; exact Q.2.2.1 q q0 q1
theorem RC_wished_spec (hG : Gok sw g) (P : StP A) (I : InvC sw h A) {x : Int} (k : KC sw h (aWished A x, A) K) : RC_wished g h x K := by
  have R := I.2.1
  have hN0 := P.1.1
  unfold aWished at k
  refine RC_wished_wp hG ⟨fun z => ?_, fun x0 => ⟨fun x1 => ?_, fun z => ?_⟩⟩
  · rw [pick_f (by omega)] at k; exact I.same k
  · rw [pick_t ⟨x0, x1⟩] at k
    rw [R.1]
    refine ⟨fun z => ?_, fun n0 => RC_settle_spec hG I n0 (fun h1 F1 I1 L1 S1 => SE_property_spec hG (s := 33) (Or.inl rfl) P.1 S1 ?_)⟩
    · rw [pick_t (by omega)] at k; exact I.same k
    · rw [pick_f (by omega)] at k; exact k h1 F1 I1
  · rw [pick_f (by omega)] at k; exact I.same k
theorem MD_wished_spec (hG : Gok sw g) (P : StP A) (I : InvM h A) {x : Int} (k : KM h (aWished A x, A) K) : MD_wished g h x K := by
  have R := I.2.1
  have hN0 := P.1.1
  unfold aWished at k
  refine MD_wished_wp hG ⟨fun z => ?_, fun x0 => ⟨fun z => ?_, fun x1 => ?_⟩⟩
  · rw [pick_f (by omega)] at k; exact I.same k
  · rw [pick_f (by omega)] at k; exact I.same k
  · rw [pick_t ⟨x0, x1⟩] at k
    rw [R.1]
    refine ⟨fun z => ?_, fun n0 => MD_wishedNow_spec hG (I.ev n0) I.2.2.2.1 x0 x1 (fun h1 F1 => ?_)⟩
    · rw [pick_t (by omega)] at k; exact I.same k
    · rw [pick_f (by omega)] at k
      obtain ⟨a, b⟩ := I.q87 (h' := h1) (fun b nb => F1 b (by omega))
      exact k h1 a b
theorem RC_around_spec (hG : Gok sw g) (P : StP A) (I : InvC sw h A) {s : Int} (k : KC sw h (aAround A s, A) K) : RC_around g h s K := by
  have R := I.2.1
  have hN0 := P.1.1
  have hT := cT_r P.1
  unfold aAround at k
  refine RC_around_wp hG ?_
  rw [R.1]
  refine ⟨fun z => ?_, fun n0 => RC_settle_spec hG I n0 (fun h1 F1 I1 L1 S1 => ?_)⟩
  · rw [pick_t (by omega)] at k; exact I.same k
  rw [pick_f (by omega)] at k
  have k := k h1 F1 I1
  obtain ⟨S0, S2, S3, S4, S5, S6⟩ := S1
  refine ⟨fun z => ?_, fun s0 => ?_⟩
  · rw [pick_f (fun y => by omega)] at k; exact k
  rw [S5]
  rcases Classical.em (av (sC A) (sW A) (fun _ => 0)) with a | a
  · rw [pick_t a]
    refine ⟨fun lt => ⟨⟨s0, by omega⟩, ?_⟩, fun ge => ?_⟩
    · rw [pick_t ⟨a, s0, lt⟩] at k
      have := S6 a s s0 lt
      have e : h1 34 s = gst (sC A) (sW A) (pthC (sC A) (sW A) s) := this
      rw [e]
      exact k
    · rw [pick_f (fun y => by omega)] at k; exact k
  · rw [pick_f a]
    rw [pick_f (fun y => a y.1)] at k
    exact ⟨fun lt => by omega, fun _ => k⟩
theorem MD_around_spec (hG : Gok sw g) (P : StP A) (I : InvM h A) {s : Int} (k : KM h (aAround A s, A) K) : MD_around g h s K := by
  have R := I.2.1
  have W := P.1
  have hN0 := W.1
  have hT := cT_r W
  have n := NP_le W
  unfold aAround at k
  refine MD_around_wp hG ?_
  rw [R.1]
  refine ⟨fun z => ?_, fun n0 => ?_⟩
  · rw [pick_t (by omega)] at k; exact I.same k
  rw [pick_f (by omega)] at k
  have E := I.ev n0
  refine MD_layCuts_spec hG E I.2.2.2.1 (fun h1 F1 L => ?_)
  have E1 : MdOk h1 (sC A) := E.keep (by rw [F1 68 (by omega)]) (fun b b1 b2 => F1 b (by omega))
  have e6 := (L 0 (by omega) (by omega)).2.2.2.2.1
  rw [ctI_0 W] at e6
  have c0 : Cons (sC A) (fun _ => 0) := Cons_0 (fun _ => rfl)
  obtain ⟨fr, iv⟩ := I.q87 (h' := h1) (fun b nb => F1 b (by omega))
  rw [e6, pick_0, Classical.not_not]
  refine ⟨fun z => ?_, fun z => MD_eventsAll_spec hG E1.1 W ?_⟩
  · have k := k h1 fr iv
    rw [pick_f (fun y => z ⟨c0, y.1⟩)] at k; exact k
  · rw [mwi (z := cT (sC A) - 1) (by omega) (by omega)]
    have bad : ¬ (0 ≤ s ∧ s < cT (sC A)) → K (-101) h1 := fun n => by
      have k := k h1 fr iv
      rw [pick_f (fun y => n y.2)] at k; exact k
    refine ⟨fun y => bad (by omega), fun s0 => ⟨fun y => bad (by omega), fun s1 => ?_⟩⟩
    refine MD_aroundNow_spec hG E1.1 E1.2.2.1 (by omega) L z.2 s0 (by omega) (fun h2 F2 => ?_)
    obtain ⟨fr2, iv2⟩ := I.q87 (h' := h2) (fun b nb => (F2 b (by omega)).trans (F1 b (by omega)))
    have k := k h2 fr2 iv2
    rw [pick_t ⟨z.2, s0, by omega⟩] at k; exact k
theorem RC_least_spec (hG : Gok sw g) (P : StP A) (I : InvC sw h A) (k : KC sw h (aLeast A, A) K) : RC_least g h K := by
  have R := I.2.1
  have hN0 := P.1.1
  unfold aLeast at k
  refine RC_least_wp hG ?_
  rw [R.1, I.2.2.2.2.1.1]
  refine ⟨fun z => ?_, fun n0 => ⟨fun z => ?_, fun z => RC_settle_spec hG I n0 (fun h1 F1 I1 L1 S1 => ?_)⟩⟩
  · rw [pick_f (fun y => y.1 (by omega))] at k; exact I.same k
  · rw [pick_f (fun y => z y.2)] at k; exact I.same k
  · rw [pick_t ⟨by omega, z⟩] at k
    have k := k h1 F1 I1
    rw [S1.2.2.1]
    exact k
theorem MD_least_spec (hG : Gok sw g) (P : StP A) (I : InvM h A) (k : KM h (aLeast A, A) K) : MD_least g h K := by
  have R := I.2.1
  have hN0 := P.1.1
  unfold aLeast at k
  refine MD_least_wp hG ?_
  rw [R.1, I.2.2.2.1.1]
  refine ⟨fun z => ?_, fun n0 => ⟨fun z => ?_, fun z => MD_leastNow_spec hG (I.ev n0) I.2.2.2.1 z (fun h1 F1 => ?_)⟩⟩
  · rw [pick_f (fun y => y.1 (by omega))] at k; exact I.same k
  · rw [pick_f (fun y => z y.2)] at k; exact I.same k
  · rw [pick_t ⟨by omega, z⟩] at k
    obtain ⟨a, b⟩ := I.q87 (h' := h1) (fun b nb => F1 b (by omega))
    exact k h1 a b
theorem InvC.ivs (I : InvC sw h A) {h' : Nat → Int → Int} (F : ∀ b, ¬ b = 37 → ¬ b = 38 → ¬ b = 39 → ¬ b = 40 → h' b = h b) : FrC h h' ∧ InvC sw h' A := by
  have I0 := I
  obtain ⟨I1, I2, I3, I4, I5, I6, I7, I8, I9, I10, I11⟩ := I
  refine ⟨fun b nb => F b (by omega) (by omega) (by omega) (by omega), I0.mod (fun b b1 b2 b3 => F b (by omega) (by omega) (by omega) (by omega)) ?_ ?_ (I8.keep (F 1 (by omega) (by omega) (by omega) (by omega)) (fun b b1 b2 => F b (by omega) (by omega) (by omega) (by omega)))⟩
  · rcases I6 with z | z
    · exact Or.inl (by rw [F 24 (by omega) (by omega) (by omega) (by omega)]; exact z)
    · exact Or.inr (z.keep (fun b b1 b2 => F b (by omega) (by omega) (by omega) (by omega)))
  · rcases I7 with z | z
    · exact Or.inl (by rw [F 33 (by omega) (by omega) (by omega) (by omega)]; exact z)
    · exact Or.inr (z.keep (fun b b1 b2 => F b (by omega) (by omega) (by omega) (by omega)))
theorem RC_strong_spec (hG : Gok sw g) (P : StP A) (I : InvC sw h A) (k : KC sw h (aStrong A, A) K) : RC_strong g h K := by
  obtain ⟨eo, he⟩ := evO_r sw
  have R := I.2.1
  have hN0 := P.1.1
  unfold aStrong at k
  refine RC_strong_wp hG ?_
  rw [R.1, I.2.2.2.2.1.1]
  refine ⟨fun z => ?_, fun n0 => ⟨fun z => ?_, fun z => ?_⟩⟩
  · rw [pick_f (fun y => y.1 (by omega))] at k; exact I.same k
  · rw [pick_f (fun y => z y.2)] at k; exact I.same k
  · rw [pick_t ⟨by omega, z⟩] at k
    have E := I.ev n0
    refine IV_find_spec hG he E I.2.2.2.2.1 (fun h1 F1 V1 => ?_)
    have E1 : EvOk (evO sw) h1 (sC A) := E.keep (fun b hb => F1 b (by omega) (by omega) (by omega))
    refine IV_areStrong_spec hG he E1 V1 (fun s h2 F2 => ⟨fun y => absurd y (by decide), fun _ => ?_⟩) (fun s h2 F2 => ⟨fun _ => ?_, fun y => absurd rfl y⟩)
    · obtain ⟨a, b⟩ := I.ivs (h' := h2) (fun b n1 n2 n3 n4 => (F2 b n4).trans (F1 b n1 n2 n3))
      have k := k h2 a b
      rw [pick_t s] at k; exact k
    · obtain ⟨a, b⟩ := I.ivs (h' := h2) (fun b n1 n2 n3 n4 => (F2 b n4).trans (F1 b n1 n2 n3))
      have k := k h2 a b
      rw [pick_f s] at k; exact k
theorem MD_strong_spec (hG : Gok sw g) (P : StP A) (I : InvM h A) (k : KM h (aStrong A, A) K) : MD_strong g h K := by
  have R := I.2.1
  have hN0 := P.1.1
  unfold aStrong at k
  refine MD_strong_wp hG ?_
  rw [R.1, I.2.2.2.1.1]
  refine ⟨fun z => ?_, fun n0 => ⟨fun z => ?_, fun z => MD_strongNow_spec hG (I.ev n0) I.2.2.2.1 (fun h1 F1 => ?_)⟩⟩
  · rw [pick_f (fun y => y.1 (by omega))] at k; exact I.same k
  · rw [pick_f (fun y => z y.2)] at k; exact I.same k
  · rw [pick_t ⟨by omega, z⟩] at k
    obtain ⟨a, b⟩ := I.q87 (h' := h1) (fun b nb => F1 b (by omega) (by omega))
    exact k h1 a b
theorem RC_interval_spec (hG : Gok sw g) (P : StP A) (I : InvC sw h A) {p i x : Int} (k : KC sw h (aInterval A p i x, A) K) : RC_interval g h p i x K := by
  obtain ⟨eo, he⟩ := evO_r sw
  have R := I.2.1
  have W := P.1
  have hN := W.2.1
  have hN0 := W.1
  unfold aInterval at k
  refine RC_interval_wp hG ?_
  rw [R.1, I.2.2.2.2.1.1]
  refine ⟨fun z => ?_, fun n0 => ⟨fun z => ?_, fun z => ?_⟩⟩
  · rw [pick_f (fun y => y.1 (by omega))] at k; exact I.same k
  · rw [pick_f (fun y => z y.2)] at k; exact I.same k
  · rw [pick_t ⟨by omega, z⟩] at k
    have bad : ¬ isP A p → K (-101) h := fun n => by rw [pick_f (fun y => n y.1)] at k; exact I.same k
    refine ⟨fun y => bad (fun w => by have := w.1; omega), fun p0 => ⟨fun y => bad (fun w => by have := w.2; omega), fun p1 => ?_⟩⟩
    have E := I.ev n0
    refine IV_find_spec hG he E I.2.2.2.2.1 (fun h1 F1 V1 => ?_)
    obtain ⟨a, b⟩ := I.ivs (h' := h1) (fun b n1 n2 n3 _ => F1 b n1 n2 n3)
    have k := k h1 a b
    refine ⟨fun y => ?_, fun i0 => ⟨⟨p0, by omega⟩, ?_⟩⟩
    · rw [pick_f (fun w => by omega)] at k; exact k
    rw [(V1 p p0 p1).1]
    have nl := nIv_le (C := sC A) (w := sW A) (p := p) (k := cS (sC A) p + 1) (by have := (W.sz p).1; omega)
    have sz := W.sz p
    refine ⟨fun i1 => ?_, fun y => ?_⟩
    · rw [pick_t ⟨⟨p0, p1⟩, i0, i1⟩] at k
      obtain ⟨v1, v2⟩ := V1.at W p0 p1 i0 i1
      refine ⟨fun y => ?_, fun x0 => ⟨fun x1 => ?_, fun y => ?_⟩⟩
      · rw [pick_f (by omega)] at k; exact k
      · rw [pick_t ⟨x0, x1⟩] at k
        rw [row5 p0 (by omega) i0 (by omega), v1, v2]
        refine ⟨fun n => ⟨⟨by omega, by omega⟩, ?_⟩, fun e => ⟨⟨by omega, by omega⟩, ?_⟩⟩
        · rw [if_neg n] at k; exact k
        · rw [if_pos e] at k; exact k
      · rw [pick_f (by omega)] at k; exact k
    · rw [pick_f (fun w => by omega)] at k; exact k
theorem MD_interval_spec (hG : Gok sw g) (P : StP A) (I : InvM h A) {p i x : Int} (hi : mv32 i) (k : KM h (aInterval A p i x, A) K) : MD_interval g h p i x K := by
  have R := I.2.1
  have W := P.1
  have hN := W.2.1
  have hN0 := W.1
  unfold aInterval at k
  refine MD_interval_wp hG ?_
  rw [R.1, I.2.2.2.1.1]
  refine ⟨fun z => ?_, fun n0 => ⟨fun z => ?_, fun z => ?_⟩⟩
  · rw [pick_f (fun y => y.1 (by omega))] at k; exact I.same k
  · rw [pick_f (fun y => z y.2)] at k; exact I.same k
  · rw [pick_t ⟨by omega, z⟩] at k
    have bad : ¬ isP A p → K (-101) h := fun n => by rw [pick_f (fun y => n y.1)] at k; exact I.same k
    rw [mwi (z := cN (sC A) - 1) (by omega) (by omega)]
    refine ⟨fun y => bad (fun w => by have := w.1; omega), fun p0 => ⟨fun y => bad (fun w => by have := w.2; omega), fun p1 => ?_⟩⟩
    have k := I.same k
    refine MD_beginOf_spec hG R W I.2.2.2.1 hi p0 (by omega) ⟨fun ne => ?_, fun e => ?_⟩
    · have ir : 0 ≤ i ∧ i < nIv (sC A) (sW A) p (cS (sC A) p + 1) := Classical.byContradiction (fun n => ne (bgn_none W n))
      rw [pick_t ⟨⟨p0, by omega⟩, ir⟩] at k
      refine MD_beginOf_spec hG R W I.2.2.2.1 hi p0 (by omega) ⟨fun y => ?_, fun x0 => ⟨fun y => ?_, fun x1 => ?_⟩⟩
      · rw [pick_f (by omega)] at k; exact k
      · rw [pick_f (by omega)] at k; exact k
      · rw [pick_t ⟨x0, x1⟩] at k
        refine ⟨fun n => ?_, fun e => ?_⟩
        · rw [if_neg n] at k
          exact MD_endOf_bgn hG R W I.2.2.2.1 p0 (by omega) ir.1 ir.2 k
        · rw [if_pos e] at k; exact k
    · have n : ¬ (0 ≤ i ∧ i < nIv (sC A) (sW A) p (cS (sC A) p + 1)) := fun y => by
        have := (bgn_ok (w := sW A) W y.1 y.2).1
        omega
      rw [pick_f (fun y => n y.2)] at k; exact k
theorem InvC.lean (hG : Gok sw g) (I : InvC sw h A) (hn : 0 < cN (sC A)) {K : (Nat → Int → Int) → Prop} (k : ∀ h', (∀ b, ¬ (42 ≤ b ∧ b ≤ 60) → h' b = h b) → FrC h h' → InvC sw h' A → LnOk h' (sC A) (sW A) → K h') : LN_build g h (evO sw) K := by
  obtain ⟨eo, he⟩ := evO_r sw
  have I0 := I
  obtain ⟨I1, I2, I3, I4, I5, I6, I7, I8, I9, I10, I11⟩ := I
  refine LN_build_spec hG he (by omega) (I0.ev hn) I5 I8 (fun h' F L => k h' F (fun b nb => F b (by omega)) (I0.mod (fun b b1 b2 b3 => F b (by omega)) ?_ ?_ (Or.inr L)) L)
  · rcases I6 with z | z
    · exact Or.inl (by rw [F 24 (by omega)]; exact z)
    · exact Or.inr (z.keep (fun b b1 b2 => F b (by omega)))
  · rcases I7 with z | z
    · exact Or.inl (by rw [F 33 (by omega)]; exact z)
    · exact Or.inr (z.keep (fun b b1 b2 => F b (by omega)))
theorem RC_lean_spec (hG : Gok sw g) (P : StP A) (I : InvC sw h A) {x : Int} (k : KC sw h (aLean A x, A) K) : RC_lean g h x K := by
  have R := I.2.1
  have hN0 := P.1.1
  unfold aLean at k
  refine RC_lean_wp hG ⟨fun z => ?_, fun x0 => ⟨fun x1 => ?_, fun z => ?_⟩⟩
  · rw [pick_f (by omega)] at k; exact I.same k
  · rw [pick_t ⟨x0, x1⟩] at k
    rw [R.1, I.2.2.2.2.1.1]
    refine ⟨fun z => ?_, fun n0 => ⟨fun z => ?_, fun z => I.lean hG n0 (fun h1 _ F1 I1 L1 => LN_property_spec hG L1 x0 x1 ?_)⟩⟩
    · rw [pick_f (fun y => y.1 (by omega))] at k; exact I.same k
    · rw [pick_f (fun y => z y.2)] at k; exact I.same k
    · rw [pick_t ⟨by omega, z⟩] at k; exact k h1 F1 I1
  · rw [pick_f (by omega)] at k; exact I.same k
theorem InvM.ln (I : InvM h A) {h' : Nat → Int → Int} (F : ∀ b, ¬ (69 ≤ b ∧ b ≤ 73) → ¬ (81 ≤ b ∧ b ≤ 87) → ¬ (91 ≤ b ∧ b ≤ 94) → h' b = h b) (E : MdOk h' (sC A)) : FrM h h' ∧ InvM h' A := ⟨fun b hb => F b (by omega) (by omega) (by omega), I.mod (fun b b1 b2 => F b (by omega) (by omega) (by omega)) (fun i i0 i1 => by rw [F 68 (by omega) (by omega) (by omega)]) E.1 (Or.inr E)⟩
theorem MD_lean_spec (hG : Gok sw g) (P : StP A) (I : InvM h A) {x : Int} (k : KM h (aLean A x, A) K) : MD_lean g h x K := by
  have R := I.2.1
  have hN0 := P.1.1
  unfold aLean at k
  refine MD_lean_wp hG ⟨fun z => ?_, fun x0 => ⟨fun z => ?_, fun x1 => ?_⟩⟩
  · rw [pick_f (by omega)] at k; exact I.same k
  · rw [pick_f (by omega)] at k; exact I.same k
  · rw [pick_t ⟨x0, x1⟩] at k
    rw [R.1, I.2.2.2.1.1]
    refine ⟨fun z => ?_, fun n0 => ⟨fun z => ?_, fun z => MD_leanNow_spec hG (I.ev n0) I.2.2.2.1 x0 x1 (fun h1 F1 E1 => ?_)⟩⟩
    · rw [pick_f (fun y => y.1 (by omega))] at k; exact I.same k
    · rw [pick_f (fun y => z y.2)] at k; exact I.same k
    · rw [pick_t ⟨by omega, z⟩] at k
      obtain ⟨a, b⟩ := I.ln F1 E1
      exact k h1 a b
theorem fWish_P (P : StP A) {a b : Int} : StP (fWish A a b).2 := by
  unfold fWish
  rcases Classical.em ((0 ≤ a ∧ a ≤ 3) ∧ 0 ≤ b ∧ b ≤ 36) with y | y
  · rw [pick_t y]; exact P
  · rw [pick_f y]; exact P
theorem fAllow_P (P : StP A) {p v : Int} : StP (fAllow A p v).2 := by
  unfold fAllow
  rcases Classical.em (isP A p) with a | a
  · rw [pick_t a]
    rcases Classical.em (0 ≤ v ∧ v ≤ 1023) with y | y
    · rw [pick_t y]; exact P
    · rw [pick_f y]; exact P
  · rw [pick_f a]; exact P
end AP
