/-! plays, snapshots, counts; run() of the model -/
noncomputable def fPlay (A : Sta) (s : Int) : Int × Sta := pick (cN (sC A) = 0) (-103, A) (pick (0 ≤ s) (cT (sC A), (sC A, sW A, (sn A, scd A), (srn A, ssh A), (cT (sC A), plP (sC A) s), (0, scu A, sfo A, sla A))) (-102, A))
noncomputable def aPlayed (A : Sta) (x : Int) : Int := pick (0 ≤ x ∧ x < sps A) (sst A x) (-101)
noncomputable def shotS (A : Sta) (p t : Int) : Sta := (sC A, sW A, (sn A, scd A), (srn A, mw (ssh A + 1)), (sps A, sst A), (1, tld (sn3 (sC A) (sst A) p t).1.1 (cN (sC A)), (sn3 (sC A) (sst A) p t).2, (sn3 (sC A) (sst A) p t).1.2.2))
noncomputable def fShot (A : Sta) (p t : Int) : Int × Sta := pick (sps A = -1) (-103, A) (pick (isP A p) (pick (0 ≤ t ∧ t ≤ sps A) (tld (sn3 (sC A) (sst A) p t).1.1 (cN (sC A)), shotS A p t) (-102, A)) (-101, A))
def aShots (A : Sta) (x : Int) : Int := if 0 ≤ x ∧ x ≤ 2 then (if stk A = 0 then -103 else if x = 0 then scu A else if x = 1 then sfo A else sla A) else -102
def aCount (A : Sta) (x : Int) : Int := if x = 0 then cN (sC A) else if x = 1 then cT (sC A) else if x = 2 then ck (sC A) 0 (cN (sC A)) else if x = 3 then ck (sC A) 1 (cN (sC A)) else if x = 4 then ck (sC A) 2 (cN (sC A)) else if x = 5 then sn A else if x = 6 then srn A else if x = 7 then ssh A else -102
noncomputable def runS (A : Sta) : Sta := ((pst (scd A) (sn A)).1, ((sW A).1, (sW A).2.1, fun _ => 1023), (0, scd A), (mw (srn A + 1), ssh A), (-1, sst A), (0, scu A, sfo A, sla A))
noncomputable def fRun (A : Sta) : Int × Sta := pick (txOk (scd A) (sn A)) (cN (pst (scd A) (sn A)).1, runS A) (-103, A)
section AP
variable {sw : Bool} {g : Nat → Nat → Nat} {h : Nat → Int → Int} {A : Sta} {K : Int → (Nat → Int → Int) → Prop}
theorem RC_play_spec (hG : Gok sw g) (P : StP A) (I : InvC sw h A) {s : Int} (hs : mv32 s) (k : KC sw h (fPlay A s) K) : RC_play g h s K := by
  obtain ⟨eo, he⟩ := evO_r sw
  have R := I.2.1
  have hN0 := P.1.1
  unfold fPlay at k
  refine RC_play_wp hG ?_
  rw [R.1]
  refine ⟨fun z => ?_, fun n0 => ⟨fun s0 => ?_, fun z => ?_⟩⟩
  · rw [pick_t (by omega)] at k; exact I.same k
  · rw [pick_f (by omega), pick_t s0] at k
    simp only [forall_eq]
    have E : EvOk (evO sw) (mvUpd h 63 0 0) (sC A) := (I.ev n0).keep (fun b hb => upd_ob (by omega))
    refine PL_perform_spec hG he E ⟨s0, hs.2⟩ (fun h1 F1 z1 st1 => ?_)
    rw [z1]
    obtain ⟨I1, I2, I3, I4, I5, I6, I7, I8, I9, I10, I11⟩ := id I
    have e : ∀ b, ¬ b = 61 → ¬ b = 62 → ¬ b = 63 → h1 b = h b := fun b n1 n2 n3 => by rw [F1 b n1 n2, upd_ob n3]
    refine k h1 (fun b nb => e b (by omega) (by omega) (by omega)) ⟨by rw [e 4 (by omega) (by omega) (by omega), e 5 (by omega) (by omega) (by omega)]; exact I1, I2.keep (e _ (by omega) (by omega) (by omega)) (e _ (by omega) (by omega) (by omega)) (e _ (by omega) (by omega) (by omega)) (e _ (by omega) (by omega) (by omega)), Or.inr ((I.ev n0).keep (fun b hb => e b (by omega) (by omega) (by omega))), I4.keep (e 1 (by omega) (by omega) (by omega)), I5.keep (e 31 (by omega) (by omega) (by omega)) (e 32 (by omega) (by omega) (by omega)), ?_, ?_, I8.keep (e 1 (by omega) (by omega) (by omega)) (fun b b1 b2 => e b (by omega) (by omega) (by omega)), ⟨z1, st1⟩, ⟨by rw [F1 63 (by omega) (by omega), upd_at], fun n => absurd rfl n⟩, by rw [e 3 (by omega) (by omega) (by omega)]; exact I11⟩
    · rcases I6 with z | z
      · exact Or.inl (by rw [e 24 (by omega) (by omega) (by omega)]; exact z)
      · exact Or.inr (z.keep (fun b b1 b2 => e b (by omega) (by omega) (by omega)))
    · rcases I7 with z | z
      · exact Or.inl (by rw [e 33 (by omega) (by omega) (by omega)]; exact z)
      · exact Or.inr (z.keep (fun b b1 b2 => e b (by omega) (by omega) (by omega)))
  · rw [pick_f (by omega), pick_f (by omega)] at k; exact I.same k
theorem MD_play_spec2 (hG : Gok sw g) (P : StP A) (I : InvM h A) {s : Int} (hs : mv32 s) (k : KM h (fPlay A s) K) : MD_play g h s K := by
  have R := I.2.1
  have hN0 := P.1.1
  have hT := cT_r P.1
  unfold fPlay at k
  by_cases n0 : 0 < cN (sC A)
  · rw [pick_f (by omega)] at k
    by_cases s0 : 0 ≤ s
    · rw [pick_t s0] at k
      refine MD_play_spec hG (I.ev n0) ⟨s0, hs.2⟩ (fun h1 F1 G1 a10 a12 st1 => ?_)
      obtain ⟨I1, I2, I3, I4, I5, I6, I7⟩ := id I
      have hN := P.1.2.1
      have E1 : MdOk h1 (sC A) := (I.ev n0).keep (G1 0 (by omega) (by omega) (by omega)) (fun b b1 b2 => F1 b (by omega) (by omega) (by omega))
      exact k h1 (fun b hb => F1 b (by omega) (by omega) (by omega)) ⟨by rw [G1 17 (by omega) (by omega) (by omega), F1 76 (by omega) (by omega) (by omega)]; exact I1, E1.1, Or.inr E1, I4.keep (G1 7 (by omega) (by omega) (by omega)) (G1 8 (by omega) (by omega) (by omega)) (F1 74 (by omega) (by omega) (by omega)), ⟨⟨fun z => by omega, fun z => by
        have z : cT (sC A) = -1 := z
        omega⟩, st1⟩, ⟨⟨fun _ => rfl, fun _ => a12⟩, fun n => absurd rfl n⟩, by rw [G1 9 (by omega) (by omega) (by omega), G1 16 (by omega) (by omega) (by omega)]; exact I7⟩
    · rw [pick_f s0] at k
      exact MD_play_wp hG ⟨fun z => by rw [R.1] at z; omega, fun _ => ⟨fun z => absurd z s0, fun _ => I.same k⟩⟩
  · rw [pick_t (by omega)] at k
    exact MD_play_wp hG ⟨fun _ => I.same k, fun z => by rw [R.1] at z; omega⟩
theorem fPlay_P (P : StP A) {s : Int} (hs : mv32 s) : StP (fPlay A s).2 := by
  unfold fPlay
  rcases P.2.1 with z | ⟨V, n2⟩
  · rw [pick_t z]; exact P
  · rw [pick_f (by omega)]
    by_cases s0 : 0 ≤ s
    · rw [pick_t s0]
      exact ⟨P.1, Or.inr ⟨V, n2⟩, P.2.2.1, Or.inr ⟨rfl, n2, plP_way V ⟨s0, hs.2⟩⟩, Or.inl rfl⟩
    · rw [pick_f s0]; exact P
theorem sps_r (P : StP A) : -1 ≤ sps A ∧ sps A ≤ 16 := by
  have hT := cT_r P.1
  rcases P.2.2.2.1 with z | ⟨z, -⟩ <;> omega
theorem RC_played_spec (hG : Gok sw g) (P : StP A) (I : InvC sw h A) {x : Int} (k : KC sw h (aPlayed A x, A) K) : RC_played g h x K := by
  obtain ⟨e1, e2⟩ := I.2.2.2.2.2.2.2.2.1
  have r := sps_r P
  unfold aPlayed at k
  refine RC_played_wp hG ?_
  rw [e1]
  refine ⟨fun z => ?_, fun x0 => ⟨fun x1 => ⟨⟨x0, by omega⟩, ?_⟩, fun z => ?_⟩⟩
  · rw [pick_f (by omega)] at k; exact I.same k
  · rw [pick_t ⟨x0, x1⟩] at k
    rw [e2 x x0 x1]; exact I.same k
  · rw [pick_f (by omega)] at k; exact I.same k
theorem MD_played_spec (hG : Gok sw g) (P : StP A) (I : InvM h A) {x : Int} (k : KM h (aPlayed A x, A) K) : MD_played g h x K := by
  obtain ⟨e1, e2⟩ := I.2.2.2.2.1
  have r := sps_r P
  have hT := cT_r P.1
  unfold aPlayed at k
  refine MD_played_wp hG ⟨fun z => ?_, fun n => MD_eventsAll_spec hG I.2.1 P.1 ?_⟩
  · have := e1.mp z
    rw [pick_f (by omega)] at k; exact I.same k
  · have ne : ¬ sps A = -1 := fun y => n (e1.mpr y)
    have eT : sps A = cT (sC A) := by
      rcases P.2.2.2.1 with z | ⟨z, -⟩
      · exact absurd z ne
      · exact z
    rw [mwi (z := cT (sC A) - 1) (by omega) (by omega)]
    refine ⟨fun z => ?_, fun x0 => ⟨fun z => ?_, fun x1 => ⟨⟨x0, by omega⟩, ?_⟩⟩⟩
    · rw [pick_f (by omega)] at k; exact I.same k
    · rw [pick_f (by omega)] at k; exact I.same k
    · rw [pick_t ⟨x0, by omega⟩] at k
      rw [e2 x x0 (by omega)]; exact I.same k
theorem RC_shot_spec (hG : Gok sw g) (P : StP A) (I : InvC sw h A) {p t : Int} (k : KC sw h (fShot A p t) K) : RC_shot g h p t K := by
  obtain ⟨eo, he⟩ := evO_r sw
  have R := I.2.1
  obtain ⟨e1, e2⟩ := I.2.2.2.2.2.2.2.2.1
  unfold fShot at k
  refine RC_shot_wp hG ?_
  rw [e1, R.1]
  refine ⟨fun n1 => ?_, fun z => ?_⟩
  · rw [pick_f n1] at k
    obtain ⟨eT, n2, Y⟩ : sps A = cT (sC A) ∧ 2 ≤ cN (sC A) ∧ Way (sC A) (sst A) := by
      rcases P.2.2.2.1 with z | z
      · exact absurd z n1
      · exact z
    have bad : ¬ isP A p → K (-101) h := fun n => by rw [pick_f n] at k; exact I.same k
    refine ⟨fun z => bad (fun y => by have := y.1; omega), fun p0 => ⟨fun z => bad (fun y => by have := y.2; omega), fun p1 => ?_⟩⟩
    rw [pick_t ⟨p0, p1⟩] at k
    refine ⟨fun z => ?_, fun t0 => ⟨fun t1 => ?_, fun z => ?_⟩⟩
    · rw [pick_f (by omega)] at k; exact I.same k
    · rw [pick_t ⟨t0, t1⟩] at k
      have E := I.ev (by omega)
      refine SN_take_spec hG he E Y (by rw [e1]; exact eT) (fun i i0 i1 => e2 i i0 (by omega)) p0 p1 t0 (by omega) (fun h1 F1 a0 a1 a2 a3 => ?_)
      simp (disch := omega) only [forall_eq, upd_ob]
      rw [a1]
      obtain ⟨I1, I2, I3, I4, I5, I6, I7, I8, I9, I10, I11⟩ := id I
      have e : ∀ b, ¬ b = 3 → ¬ (63 ≤ b ∧ b ≤ 67) → mvUpd h1 3 11 (mw (h1 3 11 + 1)) b = h b := fun b n1 n2 => by rw [upd_ob n1, F1 b n2]
      refine k _ (fun b nb => e b (by omega) (by omega)) ⟨by rw [e 4 (by omega) (by omega), e 5 (by omega) (by omega)]; exact I1, I2.keep (e _ (by omega) (by omega)) (e _ (by omega) (by omega)) (e _ (by omega) (by omega)) (e _ (by omega) (by omega)), Or.inr (E.keep (fun b hb => e b (by omega) (by omega))), I4.keep (e 1 (by omega) (by omega)), I5.keep (e 31 (by omega) (by omega)) (e 32 (by omega) (by omega)), ?_, ?_, I8.keep (e 1 (by omega) (by omega)) (fun b b1 b2 => e b (by omega) (by omega)), by rw [e 61 (by omega) (by omega), e 62 (by omega) (by omega)]; exact I9, ⟨by rw [upd_ob (by omega)]; exact a0, fun _ => by rw [upd_ob (by omega)]; exact ⟨a1, a2, a3⟩⟩, by rw [upd_ix (by omega), F1 3 (by omega)]; exact I11.1, by rw [upd_at, F1 3 (by omega), I11.2]; rfl⟩
      · rcases I6 with z | z
        · exact Or.inl (by rw [e 24 (by omega) (by omega)]; exact z)
        · exact Or.inr (z.keep (fun b b1 b2 => e b (by omega) (by omega)))
      · rcases I7 with z | z
        · exact Or.inl (by rw [e 33 (by omega) (by omega)]; exact z)
        · exact Or.inr (z.keep (fun b b1 b2 => e b (by omega) (by omega)))
    · rw [pick_f (by omega)] at k; exact I.same k
  · rw [pick_t z] at k; exact I.same k
theorem MD_shot_spec (hG : Gok sw g) (P : StP A) (I : InvM h A) {p t : Int} (k : KM h (fShot A p t) K) : MD_shot g h p t K := by
  have R := I.2.1
  have W := P.1
  have hN := W.2.1
  have hN0 := W.1
  obtain ⟨e1, e2⟩ := I.2.2.2.2.1
  unfold fShot at k
  refine MD_shot_wp hG ⟨fun n1 => ?_, fun z => ?_⟩
  · have n1' : ¬ sps A = -1 := fun y => n1 (e1.mpr y)
    rw [pick_f n1'] at k
    obtain ⟨eT, n2, Y⟩ : sps A = cT (sC A) ∧ 2 ≤ cN (sC A) ∧ Way (sC A) (sst A) := by
      rcases P.2.2.2.1 with z | z
      · exact absurd z n1'
      · exact z
    have bad : ¬ isP A p → K (-101) h := fun n => by rw [pick_f n] at k; exact I.same k
    rw [R.1, mwi (z := cN (sC A) - 1) (by omega) (by omega)]
    refine ⟨fun z => bad (fun y => by have := y.1; omega), fun p0 => ⟨fun z => bad (fun y => by have := y.2; omega), fun p1 => MD_eventsAll_spec hG R W ?_⟩⟩
    rw [pick_t ⟨p0, by omega⟩] at k
    refine ⟨fun z => ?_, fun t0 => ⟨fun z => ?_, fun t1 => ?_⟩⟩
    · rw [pick_f (by omega)] at k; exact I.same k
    · rw [pick_f (by omega)] at k; exact I.same k
    · rw [pick_t ⟨t0, by omega⟩] at k
      have E := I.ev (by omega)
      refine MD_shotNow_spec hG E Y (fun i i0 i1 => e2 i i0 (by omega)) p0 (by omega) t0 t1 (fun h1 F1 G1 a14 a15 => ?_)
      simp (disch := omega) only [forall_eq, upd_ix, upd_at]
      obtain ⟨I1, I2, I3, I4, I5, I6, I7⟩ := id I
      have e : ∀ b, ¬ b = 68 → ¬ b = 81 → ¬ b = 95 → ¬ b = 96 → ∀ x y z, mvUpd (mvUpd (mvUpd h1 68 13 x) 68 12 y) 68 16 z b = h b := fun b b1 b2 b3 b4 x y z => by rw [upd_ob b1, upd_ob b1, upd_ob b1, F1 b b1 b2 b3 b4]
      have f : ∀ i, ¬ (12 ≤ i ∧ i ≤ 16) → ¬ i = 43 → ∀ x y z, mvUpd (mvUpd (mvUpd h1 68 13 x) 68 12 y) 68 16 z 68 i = h 68 i := fun i n1 n2 x y z => by rw [upd_ix (by omega), upd_ix (by omega), upd_ix (by omega), G1 i (by omega) (by omega) (by omega)]
      refine k _ (fun b hb => e b (by omega) (by omega) (by omega) (by omega) _ _ _) ⟨by rw [f 17 (by omega) (by omega), e 76 (by omega) (by omega) (by omega) (by omega)]; exact I1, I2.keep (f 0 (by omega) (by omega) _ _ _) (e _ (by omega) (by omega) (by omega) (by omega) _ _ _) (e _ (by omega) (by omega) (by omega) (by omega) _ _ _) (e _ (by omega) (by omega) (by omega) (by omega) _ _ _), Or.inr (E.keep (f 0 (by omega) (by omega) _ _ _) (fun b b1 b2 => e b (by omega) (by omega) (by omega) (by omega) _ _ _)), I4.keep (f 7 (by omega) (by omega) _ _ _) (f 8 (by omega) (by omega) _ _ _) (e _ (by omega) (by omega) (by omega) (by omega) _ _ _), by rw [f 10 (by omega) (by omega), e 75 (by omega) (by omega) (by omega) (by omega)]; exact I5, ⟨⟨fun y => ?_, fun y => ?_⟩, fun _ => ⟨?_, ?_, ?_⟩⟩, ?_, ?_⟩
      · rw [upd_ix (by omega), upd_at] at y; exact absurd y (by decide)
      · have y : (1 : Int) = 0 := y
        exact absurd y (by decide)
      · rw [upd_ix (by omega), upd_ix (by omega), upd_at]; rfl
      · rw [upd_ix (by omega), upd_ix (by omega), upd_ix (by omega), a14]; rfl
      · rw [upd_ix (by omega), upd_ix (by omega), upd_ix (by omega), a15]; rfl
      · rw [f 9 (by omega) (by omega)]; exact I7.1
      · rw [upd_at, G1 16 (by omega) (by omega) (by omega), I7.2]; rfl
  · rw [pick_t (e1.mp z)] at k; exact I.same k
theorem fShot_P (P : StP A) {p t : Int} : StP (fShot A p t).2 := by
  unfold fShot
  rcases Classical.em (sps A = -1) with a | a
  · rw [pick_t a]; exact P
  · rw [pick_f a]
    rcases Classical.em (isP A p) with b | b
    · rw [pick_t b]
      rcases Classical.em (0 ≤ t ∧ t ≤ sps A) with c | c
      · rw [pick_t c]
        exact ⟨P.1, P.2.1, P.2.2.1, P.2.2.2.1, Or.inr a⟩
      · rw [pick_f c]; exact P
    · rw [pick_f b]; exact P
theorem RC_shots_spec (hG : Gok sw g) (P : StP A) (I : InvC sw h A) {x : Int} (k : KC sw h (aShots A x, A) K) : RC_shots g h x K := by
  obtain ⟨e1, e2⟩ := I.2.2.2.2.2.2.2.2.2.1
  unfold aShots at k
  refine RC_shots_wp hG ?_
  rw [e1]
  refine ⟨fun z => ?_, fun x0 => ⟨fun x1 => ⟨fun n => ?_, fun z => ?_⟩, fun z => ?_⟩⟩
  · rw [if_neg (by omega)] at k; exact I.same k
  · obtain ⟨c1, c2, c3⟩ := e2 n
    rw [if_pos ⟨x0, x1⟩, if_neg n] at k
    rw [c1, c2, c3]
    refine ⟨fun n0 => ⟨fun n1 => ?_, fun y1 => ?_⟩, fun y0 => ?_⟩
    · rw [if_neg n0, if_neg n1] at k; exact I.same k
    · rw [if_neg n0, if_pos y1] at k; exact I.same k
    · rw [if_pos y0] at k; exact I.same k
  · rw [if_pos ⟨x0, x1⟩, if_pos z] at k; exact I.same k
  · rw [if_neg (by omega)] at k; exact I.same k
theorem MD_shots_spec (hG : Gok sw g) (P : StP A) (I : InvM h A) {x : Int} (k : KM h (aShots A x, A) K) : MD_shots g h x K := by
  obtain ⟨e1, e2⟩ := I.2.2.2.2.2.1
  unfold aShots at k
  refine MD_shots_wp hG ⟨fun z => ?_, fun x0 => ⟨fun z => ?_, fun x1 => ⟨fun z => ?_, fun n => ?_⟩⟩⟩
  · rw [if_neg (by omega)] at k; exact I.same k
  · rw [if_neg (by omega)] at k; exact I.same k
  · rw [if_pos ⟨x0, x1⟩, if_pos (e1.mp z)] at k; exact I.same k
  · have n' : ¬ stk A = 0 := fun y => n (e1.mpr y)
    obtain ⟨c1, c2, c3⟩ := e2 n'
    rw [if_pos ⟨x0, x1⟩, if_neg n'] at k
    rw [c1, c2, c3]
    refine ⟨fun n0 => ⟨fun n1 => ?_, fun y1 => ?_⟩, fun y0 => ?_⟩
    · rw [if_neg n0, if_neg n1] at k; exact I.same k
    · rw [if_neg n0, if_pos y1] at k; exact I.same k
    · rw [if_pos y0] at k; exact I.same k
end AP
