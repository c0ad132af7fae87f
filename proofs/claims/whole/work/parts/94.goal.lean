/-! the law's run, on every script -/
def A0 : Sta := ((0, (fun _ => 0), (fun _ _ => 0), fun _ _ => 0), (0, 0, fun _ => 0), (0, fun _ => 0), (0, 0), (-1, fun _ => 0), (0, 0, 0, 0))
theorem A0_P : StP A0 := by
  have W : Wf (sC A0) := ⟨Int.le_refl _, by decide, fun p p0 p1 => by
    have p1 : p < 0 := p1
    omega, fun p _ => rfl, by decide, fun p k p0 p1 => by
    have p1 : p < 0 := p1
    omega⟩
  exact ⟨W, Or.inl rfl, ⟨Int.le_refl _, by decide, fun i i0 i1 => by
    have i1 : i < 0 := i1
    omega⟩, Or.inl rfl, Or.inl rfl⟩
theorem hF_z {L : Nat} {xs : Nat → Int32} {a : Nat} {i : Int} (ha : 3 ≤ a) (hn : ¬ a = 61) : hF L xs a i = 0 := by
  unfold hF
  rw [upd_ob hn]
  show (if a = 1 then _ else if a = 2 then _ else (0 : Int)) = 0
  rw [if_neg (by omega), if_neg (by omega)]
theorem A0_C {L : Nat} {xs : Nat → Int32} : InvC false (hF L xs) A0 := by
  have e1 : ∀ i, hF L xs 1 i = (mvS0 L xs).2.2 1 i := fun i => by unfold hF; rw [upd_ob (by omega)]
  refine ⟨⟨hF_z (by omega) (by omega), fun i i0 i1 => ?_⟩, ⟨hF_z (by decide) (by decide), hF_z (by decide) (by decide), fun p p0 p1 => hF_z (by decide) (by decide), fun p k p0 p1 => ?_⟩, Or.inl rfl, ⟨by rw [e1]; rfl, by rw [e1]; rfl, by rw [e1]; rfl, by rw [e1]; rfl⟩, ⟨hF_z (by omega) (by omega), hF_z (by omega) (by omega), fun p p0 p1 => hF_z (by omega) (by omega), by decide, by decide, by decide, by decide⟩, Or.inl (hF_z (by omega) (by omega)), Or.inl (hF_z (by omega) (by omega)), Or.inl ⟨hF_z (by omega) (by omega), hF_z (by omega) (by omega)⟩, ⟨upd_at, fun i i0 i1 => ?_⟩, ⟨hF_z (by omega) (by omega), fun n => absurd rfl n⟩, hF_z (by omega) (by omega), hF_z (by omega) (by omega)⟩
  · have i1 : i < 0 := i1
    omega
  · have p1 : p < 0 := p1
    omega
  · have i1 : i < -1 := i1
    omega
theorem A0_M {L : Nat} {xs : Nat → Int32} : InvM (hF L xs) A0 := by
  refine ⟨⟨hF_z (by omega) (by omega), fun i i0 i1 => ?_⟩, ⟨hF_z (by omega) (by omega), fun p p0 p1 => hF_z (by omega) (by omega), fun p k p0 p1 => ?_⟩, Or.inl rfl, ⟨hF_z (by omega) (by omega), hF_z (by omega) (by omega), fun p p0 p1 => hF_z (by omega) (by omega), by decide, by decide, by decide, by decide⟩, ⟨⟨fun _ => rfl, fun _ => hF_z (by omega) (by omega)⟩, fun i i0 i1 => ?_⟩, ⟨⟨fun _ => rfl, fun _ => hF_z (by omega) (by omega)⟩, fun n => absurd rfl n⟩, hF_z (by omega) (by omega), hF_z (by omega) (by omega)⟩
  · have i1 : i < 0 := i1
    omega
  · have p1 : p < 0 := p1
    omega
  · have i1 : i < -1 := i1
    omega
/-- the mini machine's run of the law, on every script -/
def mvGoal : Prop := ∀ (L : Nat) (xs : Nat → Int32), L ≤ 2560 → ∃ (n : Nat) (σ' : mvS), mvRun n 255 0 [some (mvR 2), none, none, none] [] (mvS0 L xs) = some (some (mvI 1), σ') ∧ σ'.1 = 97
theorem mv_goal : mvGoal := by
  intro L xs hL
  have e2 : hF L xs 2 = (mvS0 L xs).2.2 2 := by unfold hF; rw [upd_ob (by omega)]
  have H32 : ∀ k, mv32 ((mvS0 L xs).2.2 2 k) := fun k => by
    have h0 := mv_i32 (xs k.toNat)
    show mv32 (if k = -1 then (L : Int) else if 0 ≤ k then (xs k.toNat).toInt else 0)
    unfold mv32 at h0 ⊢
    repeat' split
    all_goals omega
  have K : Rch 255 0 [some (mvR 2), none, none, none] [] (mvS0 L xs) lwQ := lw_made (lw_loop (s2 := (mvS0 L xs).2.2 2) (Ls := (L : Int)) H32 rfl ⟨by omega, by omega⟩ 513 0 (Int.le_refl _) (by omega) (by omega) false gF (hF L xs) A0 gF_ok A0_P A0_C A0_M e2)
  obtain ⟨n, r, σ', h1, h2, h3⟩ := K
  exact ⟨n, σ', by rw [h1, h2], h3⟩
