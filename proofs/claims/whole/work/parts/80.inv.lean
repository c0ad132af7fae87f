/-! what holds between two calls, over one abstract state:
computation, wish, page (letters, which), how often read, how often shot, play (length or -1, steps), snapshot (taken, cut, forced, last) -/
abbrev Sta : Type := Cmp × Wsh × (Int × (Int → Int)) × (Int × Int) × (Int × (Int → Int)) × (Int × Int × Int × Int)
abbrev sC (A : Sta) : Cmp := A.1
abbrev sW (A : Sta) : Wsh := A.2.1
abbrev sn (A : Sta) : Int := A.2.2.1.1
abbrev scd (A : Sta) : Int → Int := A.2.2.1.2
abbrev srn (A : Sta) : Int := A.2.2.2.1.1
abbrev ssh (A : Sta) : Int := A.2.2.2.1.2
abbrev sps (A : Sta) : Int := A.2.2.2.2.1.1
abbrev sst (A : Sta) : Int → Int := A.2.2.2.2.1.2
abbrev stk (A : Sta) : Int := A.2.2.2.2.2.1
abbrev scu (A : Sta) : Int := A.2.2.2.2.2.2.1
abbrev sfo (A : Sta) : Int := A.2.2.2.2.2.2.2.1
abbrev sla (A : Sta) : Int := A.2.2.2.2.2.2.2.2
def StP (A : Sta) : Prop := Wf (sC A) ∧ (cN (sC A) = 0 ∨ (Valid (sC A) ∧ 2 ≤ cN (sC A))) ∧ (0 ≤ sn A ∧ sn A ≤ 36 ∧ ∀ i, 0 ≤ i → i < sn A → 32 ≤ scd A i ∧ scd A i ≤ 126) ∧ (sps A = -1 ∨ (sps A = cT (sC A) ∧ 2 ≤ cN (sC A) ∧ Way (sC A) (sst A))) ∧ (stk A = 0 ∨ ¬ sps A = -1)
def InvC (sw : Bool) (h : Nat → Int → Int) (A : Sta) : Prop := (h 4 1 = sn A ∧ ∀ i, 0 ≤ i → i < sn A → h 5 i = scd A i) ∧ EvR (evO sw) h (sC A) ∧ (cN (sC A) = 0 ∨ EvOk (evO sw) h (sC A)) ∧ Tens h ∧ PrOk h (sW A) ∧ (h 24 0 = 0 ∨ LtOk 24 h (sC A)) ∧ (h 33 0 = 0 ∨ SeOk 33 h (sC A) (sW A)) ∧ LnS h (sC A) (sW A) ∧ (h 61 0 = sps A ∧ ∀ i, 0 ≤ i → i < sps A → h 62 i = sst A i) ∧ (h 63 0 = stk A ∧ (¬ stk A = 0 → h 63 1 = scu A ∧ h 63 2 = sfo A ∧ h 63 3 = sla A)) ∧ h 3 10 = srn A ∧ h 3 11 = ssh A
def InvM (h : Nat → Int → Int) (A : Sta) : Prop := (h 68 17 = sn A ∧ ∀ i, 0 ≤ i → i < sn A → h 76 i = scd A i) ∧ MdR h (sC A) ∧ (cN (sC A) = 0 ∨ MdOk h (sC A)) ∧ MdW h (sW A) ∧ ((h 68 10 = 0 ↔ sps A = -1) ∧ ∀ i, 0 ≤ i → i < sps A → h 75 i = sst A i) ∧ ((h 68 12 = 0 ↔ stk A = 0) ∧ (¬ stk A = 0 → h 68 13 = scu A ∧ h 68 14 = sfo A ∧ h 68 15 = sla A)) ∧ h 68 9 = srn A ∧ h 68 16 = ssh A
def FrC (h h' : Nat → Int → Int) : Prop := ∀ b, ¬ (3 ≤ b ∧ b ≤ 67) → h' b = h b
def FrM (h h' : Nat → Int → Int) : Prop := ∀ b, b < 68 → h' b = h b
/-- what a call of the class, of the model must bring about -/
def KC (sw : Bool) (h : Nat → Int → Int) (R : Int × Sta) (K : Int → (Nat → Int → Int) → Prop) : Prop := ∀ h', FrC h h' → InvC sw h' R.2 → K R.1 h'
def KM (h : Nat → Int → Int) (R : Int × Sta) (K : Int → (Nat → Int → Int) → Prop) : Prop := ∀ h', FrM h h' → InvM h' R.2 → K R.1 h'
theorem evO_r (sw : Bool) : (evO sw = 6 ∨ evO sw = 15) ∧ EvId (evO sw) := by
  cases sw
  · exact ⟨Or.inl rfl, Or.inl rfl⟩
  · exact ⟨Or.inr rfl, Or.inr (Or.inl rfl)⟩
theorem InvM.keep {h h' : Nat → Int → Int} {A : Sta} (I : InvM h A) (F : FrC h h') : InvM h' A := by
  obtain ⟨I1, I2, I3, I4, I5, I6, I7⟩ := I
  have e : ∀ b, 68 ≤ b → h' b = h b := fun b hb => F b (by omega)
  refine ⟨by rw [e 68 (by omega), e 76 (by omega)]; exact I1, I2.keep (by rw [e 68 (by omega)]) (e _ (by omega)) (e _ (by omega)) (e _ (by omega)), ?_, I4.keep (by rw [e 68 (by omega)]) (by rw [e 68 (by omega)]) (e _ (by omega)), by rw [e 68 (by omega), e 75 (by omega)]; exact I5, by rw [e 68 (by omega)]; exact I6, by rw [e 68 (by omega)]; exact I7⟩
  rcases I3 with z | z
  · exact Or.inl z
  · exact Or.inr (z.keep (by rw [e 68 (by omega)]) (fun b b1 b2 => e b (by omega)))
/-- the caches may change, the rest stays -/
theorem InvC.mod {sw : Bool} {h h' : Nat → Int → Int} {A : Sta} (I : InvC sw h A) (F : ∀ b, ¬ (24 ≤ b ∧ b ≤ 30) → ¬ (33 ≤ b ∧ b ≤ 60) → b < 68 → h' b = h b) (L : h' 24 0 = 0 ∨ LtOk 24 h' (sC A)) (S : h' 33 0 = 0 ∨ SeOk 33 h' (sC A) (sW A)) (N : LnS h' (sC A) (sW A)) : InvC sw h' A := by
  obtain ⟨I1, I2, I3, I4, I5, I6, I7, I8, I9, I10, I11⟩ := I
  obtain ⟨eo, -⟩ := evO_r sw
  refine ⟨by rw [F 4 (by omega) (by omega) (by omega), F 5 (by omega) (by omega) (by omega)]; exact I1, I2.keep (F _ (by omega) (by omega) (by omega)) (F _ (by omega) (by omega) (by omega)) (F _ (by omega) (by omega) (by omega)) (F _ (by omega) (by omega) (by omega)), ?_, I4.keep (F 1 (by omega) (by omega) (by omega)), I5.keep (F 31 (by omega) (by omega) (by omega)) (F 32 (by omega) (by omega) (by omega)), L, S, N, by rw [F 61 (by omega) (by omega) (by omega), F 62 (by omega) (by omega) (by omega)]; exact I9, by rw [F 63 (by omega) (by omega) (by omega)]; exact I10, by rw [F 3 (by omega) (by omega) (by omega)]; exact I11⟩
  rcases I3 with z | z
  · exact Or.inl z
  · exact Or.inr (z.keep (fun b hb => F b (by omega) (by omega) (by omega)))
theorem InvC.keep {sw : Bool} {h h' : Nat → Int → Int} {A : Sta} (I : InvC sw h A) (F : FrM h h') : InvC sw h' A := by
  have I0 := I
  obtain ⟨I1, I2, I3, I4, I5, I6, I7, I8, I9, I10, I11⟩ := I
  refine I0.mod (fun b _ _ hb => F b hb) ?_ ?_ (I8.keep (F 1 (by omega)) (fun b b1 b2 => F b (by omega)))
  · rcases I6 with z | z
    · exact Or.inl (by rw [F 24 (by omega)]; exact z)
    · exact Or.inr (z.keep (fun b b1 b2 => F b (by omega)))
  · rcases I7 with z | z
    · exact Or.inl (by rw [F 33 (by omega)]; exact z)
    · exact Or.inr (z.keep (fun b b1 b2 => F b (by omega)))
/-- the model's rows for work may change -/
theorem InvM.mod {h h' : Nat → Int → Int} {A : Sta} (I : InvM h A) (F : ∀ b, 74 ≤ b → b ≤ 76 → h' b = h b) (G : ∀ i, 7 ≤ i → i ≤ 17 → h' 68 i = h 68 i) (R : MdR h' (sC A)) (E : cN (sC A) = 0 ∨ MdOk h' (sC A)) : InvM h' A := by
  obtain ⟨I1, I2, I3, I4, I5, I6, I7⟩ := I
  exact ⟨by rw [G 17 (by omega) (by omega), F 76 (by omega) (by omega)]; exact I1, R, E, I4.keep (G 7 (by omega) (by omega)) (G 8 (by omega) (by omega)) (F 74 (by omega) (by omega)), by rw [G 10 (by omega) (by omega), F 75 (by omega) (by omega)]; exact I5, by rw [G 12 (by omega) (by omega), G 13 (by omega) (by omega), G 14 (by omega) (by omega), G 15 (by omega) (by omega)]; exact I6, by rw [G 9 (by omega) (by omega), G 16 (by omega) (by omega)]; exact I7⟩
/-- .. and only those behind the computation -/
theorem InvM.mod2 {h h' : Nat → Int → Int} {A : Sta} (I : InvM h A) (F : ∀ b, 69 ≤ b → b ≤ 76 → h' b = h b) (G : ∀ i, (i = 0 ∨ (7 ≤ i ∧ i ≤ 17)) → h' 68 i = h 68 i) : InvM h' A := by
  have I0 := I
  obtain ⟨I1, I2, I3, I4, I5, I6, I7⟩ := I
  refine I0.mod (fun b b1 b2 => F b (by omega) (by omega)) (fun i i0 i1 => G i (Or.inr ⟨i0, i1⟩)) (I2.keep (G 0 (Or.inl rfl)) (F _ (by omega) (by omega)) (F _ (by omega) (by omega)) (F _ (by omega) (by omega))) ?_
  rcases I3 with z | z
  · exact Or.inl z
  · exact Or.inr (z.keep (G 0 (Or.inl rfl)) (fun b b1 b2 => F b (by omega) (by omega)))
/-! letters -/
def fLetter (A : Sta) (x : Int) : Int × Sta := if 32 ≤ x ∧ x ≤ 126 then (if sn A = 36 then (-104, A) else (sn A + 1, (sC A, sW A, (sn A + 1, fun i => if i = sn A then x else scd A i), A.2.2.2))) else (-102, A)
def fBlank (A : Sta) : Int × Sta := (sn A, (sC A, sW A, (0, scd A), A.2.2.2))
noncomputable def fFault (A : Sta) : Int × Sta := (flt (scd A) (sn A), A)
section LE
variable {sw : Bool} {g : Nat → Nat → Nat} {h : Nat → Int → Int} {A : Sta} {K : Int → (Nat → Int → Int) → Prop}
theorem InvC.same (I : InvC sw h A) {x : Int} (k : KC sw h (x, A) K) : K x h := k h (fun _ _ => rfl) I
theorem InvM.same (I : InvM h A) {x : Int} (k : KM h (x, A) K) : K x h := k h (fun _ _ => rfl) I
/-- only cells behind the letters' rows change: the rest of the class stays -/
theorem InvC.page (I : InvC sw h A) {h' : Nat → Int → Int} {m : Int} {d : Int → Int} (F : ∀ b, ¬ b = 4 → ¬ b = 5 → h' b = h b) (e : h' 4 1 = m) (D : ∀ i, 0 ≤ i → i < m → h' 5 i = d i) : InvC sw h' (sC A, sW A, (m, d), A.2.2.2) := by
  obtain ⟨I1, I2, I3, I4, I5, I6, I7, I8, I9, I10, I11⟩ := I
  obtain ⟨eo, -⟩ := evO_r sw
  refine ⟨⟨e, D⟩, I2.keep (F _ (by omega) (by omega)) (F _ (by omega) (by omega)) (F _ (by omega) (by omega)) (F _ (by omega) (by omega)), ?_, I4.keep (F 1 (by omega) (by omega)), I5.keep (F 31 (by omega) (by omega)) (F 32 (by omega) (by omega)), ?_, ?_, I8.keep (F 1 (by omega) (by omega)) (fun b b1 b2 => F b (by omega) (by omega)), by rw [F 61 (by omega) (by omega), F 62 (by omega) (by omega)]; exact I9, by rw [F 63 (by omega) (by omega)]; exact I10, by rw [F 3 (by omega) (by omega)]; exact I11⟩
  · rcases I3 with z | z
    · exact Or.inl z
    · exact Or.inr (z.keep (fun b hb => F b (by omega) (by omega)))
  · rcases I6 with z | z
    · exact Or.inl (by rw [F 24 (by omega) (by omega)]; exact z)
    · exact Or.inr (z.keep (fun b b1 b2 => F b (by omega) (by omega)))
  · rcases I7 with z | z
    · exact Or.inl (by rw [F 33 (by omega) (by omega)]; exact z)
    · exact Or.inr (z.keep (fun b b1 b2 => F b (by omega) (by omega)))
theorem InvM.page (I : InvM h A) {h' : Nat → Int → Int} {m : Int} {d : Int → Int} (F : ∀ b, ¬ b = 68 → ¬ b = 76 → h' b = h b) (G : ∀ i, ¬ i = 17 → h' 68 i = h 68 i) (e : h' 68 17 = m) (D : ∀ i, 0 ≤ i → i < m → h' 76 i = d i) : InvM h' (sC A, sW A, (m, d), A.2.2.2) := by
  obtain ⟨I1, I2, I3, I4, I5, I6, I7⟩ := I
  refine ⟨⟨e, D⟩, I2.keep (G 0 (by omega)) (F _ (by omega) (by omega)) (F _ (by omega) (by omega)) (F _ (by omega) (by omega)), ?_, I4.keep (G 7 (by omega)) (G 8 (by omega)) (F 74 (by omega) (by omega)), by rw [G 10 (by omega), F 75 (by omega) (by omega)]; exact I5, by rw [G 12 (by omega), G 13 (by omega), G 14 (by omega), G 15 (by omega)]; exact I6, by rw [G 9 (by omega), G 16 (by omega)]; exact I7⟩
  rcases I3 with z | z
  · exact Or.inl z
  · exact Or.inr (z.keep (G 0 (by omega)) (fun b b1 b2 => F b (by omega) (by omega)))
theorem RC_letter_spec (hG : Gok sw g) (P : StP A) (I : InvC sw h A) {x : Int} (k : KC sw h (fLetter A x) K) : RC_letter g h x K := by
  obtain ⟨i1, i2⟩ := I.1
  obtain ⟨n0, n1, -⟩ := P.2.2.1
  unfold fLetter at k
  refine RC_letter_wp hG ⟨fun z => ?_, fun z => ⟨fun z2 => ?_, fun z2 => ?_⟩⟩
  · rw [if_neg (by omega)] at k; exact I.same k
  · rw [if_pos ⟨z, z2⟩] at k
    rw [i1]
    refine ⟨fun lt => ?_, fun ge => ?_⟩
    · rw [if_neg (by omega)] at k
      simp (disch := omega) only [bd, forall_eq, upd_ob, upd_at, i1, mwi]
      refine k _ (fun b nb => by rw [upd_ob (by omega), upd_ob (by omega)]) (I.page (fun b a1 a2 => by rw [upd_ob a1, upd_ob a2]) upd_at (fun i i0 i1' => ?_))
      rw [upd_ob (by omega)]
      by_cases e : i = sn A
      · rw [e, upd_at, if_pos rfl]
      · rw [upd_ix e, if_neg e]; exact i2 i i0 (by omega)
    · rw [if_pos (by omega)] at k; exact I.same k
  · rw [if_neg (by omega)] at k; exact I.same k
theorem MD_letter_spec (hG : Gok sw g) (P : StP A) (I : InvM h A) {x : Int} (k : KM h (fLetter A x) K) : MD_letter g h x K := by
  obtain ⟨i1, i2⟩ := I.1
  obtain ⟨n0, n1, -⟩ := P.2.2.1
  unfold fLetter at k
  refine MD_letter_wp hG ⟨fun z => ?_, fun z => ⟨fun z2 => ?_, fun z2 => ?_⟩⟩
  · rw [if_neg (by omega)] at k; exact I.same k
  · rw [if_neg (by omega)] at k; exact I.same k
  · rw [if_pos ⟨z, z2⟩] at k
    rw [i1]
    refine ⟨fun ne => ?_, fun ge => ?_⟩
    · rw [if_neg (by omega)] at k
      simp (disch := omega) only [bd, forall_eq, upd_ob, upd_at, i1, mwi]
      refine k _ (fun b nb => by rw [upd_ob (by omega), upd_ob (by omega)]) (I.page (fun b a1 a2 => by rw [upd_ob a1, upd_ob a2]) (fun i ni => by rw [upd_ix ni, upd_ob (by omega)]) upd_at (fun i i0 i1' => ?_))
      rw [upd_ob (by omega)]
      by_cases e : i = sn A
      · rw [e, upd_at, if_pos rfl]
      · rw [upd_ix e, if_neg e]; exact i2 i i0 (by omega)
    · rw [if_pos (by omega)] at k; exact I.same k
theorem RC_blank_spec (hG : Gok sw g) (P : StP A) (I : InvC sw h A) (k : KC sw h (fBlank A) K) : RC_blank g h K := by
  refine RC_blank_wp hG ?_
  rw [I.1.1]
  simp only [forall_eq]
  exact k _ (fun b nb => upd_ob (by omega)) (I.page (fun b a1 a2 => upd_ob a1) upd_at (fun i i0 i1 => by omega))
theorem MD_blank_spec (hG : Gok sw g) (P : StP A) (I : InvM h A) (k : KM h (fBlank A) K) : MD_blank g h K := by
  refine MD_blank_wp hG ?_
  rw [I.1.1]
  simp only [forall_eq]
  exact k _ (fun b nb => upd_ob (by omega)) (I.page (fun b a1 a2 => upd_ob a1) (fun i ni => upd_ix ni) upd_at (fun i i0 i1 => by omega))
theorem RC_fault_spec (hG : Gok sw g) (P : StP A) (I : InvC sw h A) (k : KC sw h (fFault A) K) : RC_fault g h K := by
  obtain ⟨n0, n1, -⟩ := P.2.2.1
  exact RC_fault_wp hG (PG_firstFault_spec hG n0 n1 I.1.1 I.1.2 (I.same k))
theorem MD_fault_spec (hG : Gok sw g) (P : StP A) (I : InvM h A) (k : KM h (fFault A) K) : MD_fault g h K := by
  obtain ⟨n0, n1, hc⟩ := P.2.2.1
  refine MD_fault_wp hG (MD_read_spec hG n0 n1 I.1.1 I.1.2 hc (fun h' F G _ => ?_))
  exact k h' (fun b hb => F b (by omega) (by omega) (by omega) (by omega)) (I.mod2 (fun b b1 b2 => F b (by omega) (by omega) (by omega) (by omega)) (fun i hi => G i (by omega)))
theorem fLetter_P (P : StP A) {x : Int} : StP (fLetter A x).2 := by
  obtain ⟨P1, P2, ⟨n0, n1, hc⟩, P4, P5⟩ := id P
  unfold fLetter
  split
  · split
    · exact P
    · refine ⟨P1, P2, ⟨?_, ?_, fun i i0 i1 => ?_⟩, P4, P5⟩
      · show 0 ≤ sn A + 1; omega
      · show sn A + 1 ≤ 36; omega
      · have i1 : i < sn A + 1 := i1
        show 32 ≤ (if i = sn A then x else scd A i) ∧ (if i = sn A then x else scd A i) ≤ 126
        split
        · omega
        · exact hc i i0 (by omega)
  · exact P
theorem fBlank_P (P : StP A) : StP (fBlank A).2 := by
  obtain ⟨P1, P2, ⟨n0, n1, hc⟩, P4, P5⟩ := id P
  refine ⟨P1, P2, ⟨?_, ?_, fun i i0 i1 => ?_⟩, P4, P5⟩
  · show (0 : Int) ≤ 0; omega
  · show (0 : Int) ≤ 36; omega
  · have i1 : i < 0 := i1
    omega
end LE
