/-! run: what it does, in the class and in the model -/
theorem evO_not (sw : Bool) : evO (!sw) = evD sw := by cases sw <;> rfl
theorem evOD (sw : Bool) : (evO sw = 6 ∧ evD sw = 15) ∨ (evO sw = 15 ∧ evD sw = 6) := by
  cases sw
  · exact Or.inl ⟨rfl, rfl⟩
  · exact Or.inr ⟨rfl, rfl⟩
section RU
variable {sw : Bool} {g : Nat → Nat → Nat} {h : Nat → Int → Int} {A : Sta}
theorem InvC.draft (I : InvC sw h A) {h' : Nat → Int → Int} (F : ∀ b, ¬ (evD sw ≤ b ∧ b ≤ evD sw + 8) → h' b = h b) : FrC h h' ∧ InvC sw h' A := by
  have od := evOD sw
  obtain ⟨I1, I2, I3, I4, I5, I6, I7, I8, I9, I10, I11⟩ := I
  refine ⟨fun b nb => F b (by omega), by rw [F 4 (by omega), F 5 (by omega)]; exact I1, I2.keep (F _ (by omega)) (F _ (by omega)) (F _ (by omega)) (F _ (by omega)), ?_, I4.keep (F 1 (by omega)), I5.keep (F 31 (by omega)) (F 32 (by omega)), ?_, ?_, I8.keep (F 1 (by omega)) (fun b b1 b2 => F b (by omega)), by rw [F 61 (by omega), F 62 (by omega)]; exact I9, by rw [F 63 (by omega)]; exact I10, by rw [F 3 (by omega)]; exact I11⟩
  · rcases I3 with z | z
    · exact Or.inl z
    · exact Or.inr (z.keep (fun b hb => F b (by omega)))
  · rcases I6 with z | z
    · exact Or.inl (by rw [F 24 (by omega)]; exact z)
    · exact Or.inr (z.keep (fun b b1 b2 => F b (by omega)))
  · rcases I7 with z | z
    · exact Or.inl (by rw [F 33 (by omega)]; exact z)
    · exact Or.inr (z.keep (fun b b1 b2 => F b (by omega)))
theorem RC_run_spec {K : Int → (Nat → Nat → Nat) → (Nat → Int → Int) → Prop} (hG : Gok sw g) (P : StP A) (I : InvC sw h A) (k : ∀ sw' g' h', Gok sw' g' → FrC h h' → InvC sw' h' (fRun A).2 → K (fRun A).1 g' h') : RG 216 0 [some (mvR 3), none] [] g h K := by
  obtain ⟨n0, n1, hc⟩ := P.2.2.1
  have od := evOD sw
  have bad : ¬ txOk (scd A) (sn A) → ∀ h' : Nat → Int → Int, (∀ b, ¬ (evD sw ≤ b ∧ b ≤ evD sw + 8) → h' b = h b) → K (-103) g h' := fun n h' F => by
    unfold fRun at k
    rw [pick_f n] at k
    obtain ⟨a, b⟩ := I.draft F
    exact k sw g h' hG a b
  refine RC_run_wp hG (PG_readInto_spec hG (evD_id sw) n0 n1 I.1.1 I.1.2 (fun e1 e2 e3 O h1 F1 G1 R1 => ⟨fun z => absurd z (by decide), fun _ => ?_⟩) (fun n h1 F1 _ => ⟨fun _ => bad (fun z => n ⟨z.1, z.2.1, z.2.2.1, z.2.2.2.1⟩) h1 (fun b nb => F1 b (by omega)), fun z => absurd rfl z⟩))
  have W := (wf_iff (pst_I _ n0 (flt_ok n0 e1)).1).mp O
  refine EV_link_spec hG (evD_id sw) R1 W (by omega) (I.2.2.2.1.keep (F1 1 (by omega))) (fun V h3 E3 F3 => ⟨fun _ => ?_, fun z => absurd z (by decide)⟩) (fun nV h3 F3 => ⟨fun z => absurd rfl z, fun _ => bad (fun z => nV z.2.2.2.2) h3 (fun b nb => by rw [F3 b (by omega), F1 b (by omega)])⟩)
  have F13 : ∀ b, ¬ (evD sw ≤ b ∧ b ≤ evD sw + 8) → h3 b = h b := fun b nb => by rw [F3 b (by omega), F1 b (by omega)]
  refine RC_run_27_wp hG (fun g' hG' => RC_run_45_wp hG' ?_)
  have T : txOk (scd A) (sn A) := ⟨e1, e2, e3, O, V⟩
  unfold fRun at k
  rw [pick_t T] at k
  rintro h4 rfl
  refine PR_allowAll_wp hG' (AR_fill_spec hG' mis32 (by omega) ?_)
  have FF : ∀ b, ¬ b = 32 → ¬ b = 4 → (fun a i => if a = 32 ∧ 0 ≤ i ∧ i < ((4 : Nat) : Int) then (1023 : Int) else mvUpd h3 4 1 0 a i) b = h3 b := fun b b1 b2 => by
    funext i
    show (if _ then _ else _) = _
    rw [if_neg (fun z => b1 z.1), upd_ob b2]
  have F32 : ∀ p, 0 ≤ p → p < 4 → (fun a i => if a = 32 ∧ 0 ≤ i ∧ i < ((4 : Nat) : Int) then (1023 : Int) else mvUpd h3 4 1 0 a i) 32 p = 1023 := fun p p0 p1 => by
    show (if _ then _ else _) = _
    rw [if_pos ⟨rfl, p0, by omega⟩]
  have F4 : (fun a i => if a = 32 ∧ 0 ≤ i ∧ i < ((4 : Nat) : Int) then (1023 : Int) else mvUpd h3 4 1 0 a i) 4 1 = 0 := by
    show (if _ then _ else _) = _
    rw [if_neg (fun z => absurd z.1 (by decide)), upd_at]
  generalize (fun a i => if a = 32 ∧ 0 ≤ i ∧ i < ((4 : Nat) : Int) then (1023 : Int) else mvUpd h3 4 1 0 a i) = h5 at FF F32 F4 ⊢
  simp only [forall_eq]
  have e3' : h5 3 10 = srn A := by rw [FF 3 (by omega) (by omega), F13 3 (by omega)]; exact I.2.2.2.2.2.2.2.2.2.2.1
  have e4' : h5 3 11 = ssh A := by rw [FF 3 (by omega) (by omega), F13 3 (by omega)]; exact I.2.2.2.2.2.2.2.2.2.2.2
  have F6 : ∀ b, ¬ b = 3 → ¬ b = 61 → ¬ b = 63 → ¬ b = 24 → ¬ b = 33 → ¬ b = 51 → ¬ b = 58 → mvUpd (mvUpd (mvUpd (mvUpd (mvUpd (mvUpd (mvUpd h5 3 10 (mw (h5 3 10 + 1))) 61 0 (-1)) 63 0 0) 24 0 0) 33 0 0) 51 0 0) 58 0 0 b = h5 b := fun b a1 a2 a3 a4 a5 a6 a7 => by
    rw [upd_ob a7, upd_ob a6, upd_ob a5, upd_ob a4, upd_ob a3, upd_ob a2, upd_ob a1]
  have c1 : mvUpd (mvUpd (mvUpd (mvUpd (mvUpd (mvUpd (mvUpd h5 3 10 (mw (h5 3 10 + 1))) 61 0 (-1)) 63 0 0) 24 0 0) 33 0 0) 51 0 0) 58 0 0 3 10 = mw (srn A + 1) := by
    rw [upd_ob (by omega), upd_ob (by omega), upd_ob (by omega), upd_ob (by omega), upd_ob (by omega), upd_ob (by omega), upd_at, e3']
  have c2 : mvUpd (mvUpd (mvUpd (mvUpd (mvUpd (mvUpd (mvUpd h5 3 10 (mw (h5 3 10 + 1))) 61 0 (-1)) 63 0 0) 24 0 0) 33 0 0) 51 0 0) 58 0 0 3 11 = ssh A := by
    rw [upd_ob (by omega), upd_ob (by omega), upd_ob (by omega), upd_ob (by omega), upd_ob (by omega), upd_ob (by omega), upd_ix (by omega), e4']
  have c3 : mvUpd (mvUpd (mvUpd (mvUpd (mvUpd (mvUpd (mvUpd h5 3 10 (mw (h5 3 10 + 1))) 61 0 (-1)) 63 0 0) 24 0 0) 33 0 0) 51 0 0) 58 0 0 61 0 = -1 := by
    rw [upd_ob (by omega), upd_ob (by omega), upd_ob (by omega), upd_ob (by omega), upd_ob (by omega), upd_at]
  have c4 : mvUpd (mvUpd (mvUpd (mvUpd (mvUpd (mvUpd (mvUpd h5 3 10 (mw (h5 3 10 + 1))) 61 0 (-1)) 63 0 0) 24 0 0) 33 0 0) 51 0 0) 58 0 0 63 0 = 0 := by
    rw [upd_ob (by omega), upd_ob (by omega), upd_ob (by omega), upd_ob (by omega), upd_at]
  have c5 : mvUpd (mvUpd (mvUpd (mvUpd (mvUpd (mvUpd (mvUpd h5 3 10 (mw (h5 3 10 + 1))) 61 0 (-1)) 63 0 0) 24 0 0) 33 0 0) 51 0 0) 58 0 0 24 0 = 0 := by
    rw [upd_ob (by omega), upd_ob (by omega), upd_ob (by omega), upd_at]
  have c6 : mvUpd (mvUpd (mvUpd (mvUpd (mvUpd (mvUpd (mvUpd h5 3 10 (mw (h5 3 10 + 1))) 61 0 (-1)) 63 0 0) 24 0 0) 33 0 0) 51 0 0) 58 0 0 33 0 = 0 := by
    rw [upd_ob (by omega), upd_ob (by omega), upd_at]
  have c7 : mvUpd (mvUpd (mvUpd (mvUpd (mvUpd (mvUpd (mvUpd h5 3 10 (mw (h5 3 10 + 1))) 61 0 (-1)) 63 0 0) 24 0 0) 33 0 0) 51 0 0) 58 0 0 51 0 = 0 := by
    rw [upd_ob (by omega), upd_at]
  have c8 : mvUpd (mvUpd (mvUpd (mvUpd (mvUpd (mvUpd (mvUpd h5 3 10 (mw (h5 3 10 + 1))) 61 0 (-1)) 63 0 0) 24 0 0) 33 0 0) 51 0 0) 58 0 0 58 0 = 0 := by
    rw [upd_at]
  generalize mvUpd (mvUpd (mvUpd (mvUpd (mvUpd (mvUpd (mvUpd h5 3 10 (mw (h5 3 10 + 1))) 61 0 (-1)) 63 0 0) 24 0 0) 33 0 0) 51 0 0) 58 0 0 = h6 at F6 c1 c2 c3 c4 c5 c6 c7 c8 ⊢
  have E6 : EvOk (evO (!sw)) h6 (pst (scd A) (sn A)).1 := by
    rw [evO_not]
    exact E3.keep (fun b hb => by rw [F6 b (by omega) (by omega) (by omega) (by omega) (by omega) (by omega) (by omega), FF b (by omega) (by omega)])
  have Q := I.2.2.2.2.1
  have e31 : h6 31 = h 31 := by rw [F6 31 (by omega) (by omega) (by omega) (by omega) (by omega) (by omega) (by omega), FF 31 (by omega) (by omega), F13 31 (by omega)]
  rw [E6.1.1]
  refine k (!sw) g' h6 hG' (fun b nb => by rw [F6 b (by omega) (by omega) (by omega) (by omega) (by omega) (by omega) (by omega), FF b (by omega) (by omega), F13 b (by omega)]) ⟨⟨?_, fun i i0 i1 => ?_⟩, E6.1, Or.inr E6, E6.2.2.2.2.2, ⟨by rw [e31]; exact Q.1, by rw [e31]; exact Q.2.1, fun p p0 p1 => ?_, Q.2.2.2⟩, Or.inl c5, Or.inl c6, Or.inl ⟨c8, c7⟩, ⟨c3, fun i i0 i1 => ?_⟩, ⟨c4, fun n => absurd rfl n⟩, c1, c2⟩
  · rw [F6 4 (by omega) (by omega) (by omega) (by omega) (by omega) (by omega) (by omega)]; exact F4
  · have i1 : i < 0 := i1
    omega
  · rw [F6 32 (by omega) (by omega) (by omega) (by omega) (by omega) (by omega) (by omega)]; exact F32 p p0 p1
  · have i1 : i < -1 := i1
    omega
theorem MD_run_spec2 {K : Int → (Nat → Int → Int) → Prop} (hG : Gok sw g) (P : StP A) (I : InvM h A) (k : KM h (fRun A) K) : MD_run g h K := by
  obtain ⟨n0, n1, hc⟩ := P.2.2.1
  obtain ⟨I1, I2, I3, I4, I5, I6, I7⟩ := id I
  unfold fRun at k
  refine MD_run_spec hG n0 n1 I1.1 I1.2 hc (fun T h1 F1 G1 a9 a10 a12 a17 a74 E1 => ?_) (fun n h1 F1 G1 => ?_)
  · rw [pick_t T] at k
    refine k h1 (fun b hb => F1 b (by omega) (by omega)) ⟨⟨a17, fun i i0 i1 => ?_⟩, E1.1, Or.inr E1, ⟨by rw [G1 7 (by omega) (by omega)]; exact I4.1, by rw [G1 8 (by omega) (by omega)]; exact I4.2.1, a74, I4.2.2.2⟩, ⟨⟨fun _ => rfl, fun _ => a10⟩, fun i i0 i1 => ?_⟩, ⟨⟨fun _ => rfl, fun _ => a12⟩, fun n => absurd rfl n⟩, by rw [a9, I7.1]; rfl, by rw [G1 16 (by omega) (by omega)]; exact I7.2⟩
    · have i1 : i < 0 := i1
      omega
    · have i1 : i < -1 := i1
      omega
  · rw [pick_f n] at k
    exact k h1 (fun b hb => F1 b (by omega) (by omega)) (I.mod2 (fun b b1 b2 => F1 b (by omega) (by omega)) (fun i hi => G1 i (by omega)))
theorem fRun_P (P : StP A) : StP (fRun A).2 := by
  unfold fRun
  rcases Classical.em (txOk (scd A) (sn A)) with T | T
  · rw [pick_t T]
    refine ⟨T.2.2.2.2.1, Or.inr ⟨T.2.2.2.2, T.2.2.1⟩, ⟨Int.le_refl _, by show (0 : Int) ≤ 36; omega, fun i i0 i1 => ?_⟩, Or.inl rfl, Or.inl rfl⟩
    have i1 : i < 0 := i1
    omega
  · rw [pick_f T]; exact P
theorem fEvent_P (P : StP A) {p m x : Int} : StP (fEvent A p m x).2 := by
  unfold fEvent pick
  repeat' split
  all_goals exact P
theorem fOrder_P (P : StP A) {p i q m : Int} : StP (fOrder A p i q m).2 := by
  unfold fOrder pick
  repeat' split
  all_goals exact P
end RU
