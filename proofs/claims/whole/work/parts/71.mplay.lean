/-! the model: plays -/
section MD
variable {sw : Bool} {g : Nat → Nat → Nat} {h : Nat → Int → Int} {C : Cmp} {c : Int → Int} {w : Wsh}
theorem MD_canCome_spec (hG : Gok sw g) (E : MdOk h C) (A : At h C c) (hi : In C c) {p : Int} {K : Int → (Nat → Int → Int) → Prop} (p0 : 0 ≤ p) (p1 : p < cN C) (kt : canF C c p → K 1 h) (kf : ¬ canF C c p → K 0 h) : MD_canCome g h p K := by
  obtain ⟨R, L, V, iV, hn⟩ := E
  have W := V.1
  have hN := W.2.1
  have hs := W.sz p
  have cp := hi p
  refine MD_canCome_wp hG ?_
  simp (disch := omega) only [bd, R.2.1, A p p0 p1]
  refine ⟨fun n => ?_, fun z => kf (fun y => by have := y.1; omega)⟩
  obtain ⟨r1, r2⟩ := R.2.2 p (c p) p0 p1 cp.1 (by omega)
  have r3 := L.1 p (c p) p0 p1 cp.1 (by omega)
  simp (disch := omega) only [mwi, bd, forall_eq, r1, r2, r3]
  refine ⟨fun hk => kt ⟨by omega, fun z => absurd z hk⟩, fun hk => ?_⟩
  rcases W.2.2.2.2.2 p (c p) p0 p1 cp.1 (by omega) with ⟨z, -⟩ | ⟨-, b1, b2, b3⟩
  · omega
  · have hl := isNth_lt (recv_pt V p0 p1 cp.1 (by omega) hk) (hi (cD C p (c p))).1
    rw [A _ b1 b2]
    refine ⟨⟨b1, by omega⟩, fun z => kf (fun y => ?_), fun z => kt ⟨by omega, fun _ => hl.mp z⟩⟩
    have := hl.mpr (y.2 hk)
    omega
theorem MD_comesNext_spec (hG : Gok sw g) (E : MdOk h C) (A : At h C c) (hi : In C c) (hp : 0 < cnF C c) {d sd : Int} (hd : d = 0 ↔ sd = 0) (hs : 0 ≤ h 68 40 ∧ h 68 40 < 2147483648) (hz : sd = 0 → h 68 40 = 0) {K : Int → (Nat → Int → Int) → Prop}
    (k : ∀ h', (∀ b, ¬ b = 68 → h' b = h b) → (∀ i, ¬ i = 40 → h' 68 i = h 68 i) → h' 68 40 = nxs sd (h 68 40) → K (chs C c (nxs sd (h 68 40) / 65536 % cnF C c)) h') : MD_comesNext g h d K := by
  have V := E.2.2.1
  have W := V.1
  have hN := W.2.1
  have c4 := cnF_le W (c := c)
  have nr := nxs_r (sd := sd) hs
  refine MD_comesNext_wp hG ?_
  have pickp : ∀ (h' : Nat → Int → Int), (∀ b, ¬ b = 68 → h' b = h b) → (∀ i, ¬ i = 40 → h' 68 i = h 68 i) → h' 68 40 = nxs sd (h 68 40) → ∀ x, x = nxs sd (h 68 40) / 65536 % cnF C c → ∀ u v, MD_comesNext_51 g h' u v x 0 K := by
    intro h' F F2 F3 x hx u v
    have E' : MdOk h' C := E.keep (F2 0 (by omega)) (fun b b1 b2 => F b (by omega))
    have A' : At h' C c := fun p p0 p1 => by rw [F 81 (by omega)]; exact A p p0 p1
    have k := k h' F F2 F3
    rw [← hx] at k
    have x0 : 0 ≤ x := by rw [hx]; exact Int.emod_nonneg _ (by omega)
    have x1 : x < cnF C c := by rw [hx]; exact Int.emod_lt_of_pos _ hp
    obtain ⟨a1, a2, a3, a4⟩ := chs_ok W (c := c) x0 x1
    have key : ∀ p : Int, p ≤ chs C c x → 0 ≤ p → ∀ u v, MD_comesNext_51 g h' u v (x - cntI (canF C c) p) p K := by
      refine up_ind ?_ ?_
      · intro _ u v
        refine MD_comesNext_51_wp hG ⟨fun z => absurd z (by omega), fun _ => MD_canCome_spec hG E' A' hi a1 a2 (fun _ => ⟨fun _ => k, fun z => absurd z (by decide)⟩) (fun z => absurd a3 z)⟩
      · intro p hp2 ih p0 u v
        have cr := cntI_r (P := canF C c) p0
        have ih := fun u v => ih (by omega) u v
        have yes : canF C c p → MD_comesNext_51 g h' u v (x - cntI (canF C c) p - 1) (p + 1) K := fun y => by
          rw [cntI_y p0 y] at ih
          rw [show x - cntI (canF C c) p - 1 = x - (cntI (canF C c) p + 1) by omega]
          exact ih _ _
        have no : ¬ canF C c p → MD_comesNext_51 g h' u v (x - cntI (canF C c) p) (p + 1) K := fun y => by
          rw [cntI_n p0 y] at ih
          exact ih _ _
        refine MD_comesNext_51_wp hG ⟨fun z => ?_, fun z => ?_⟩
        · simp (disch := omega) only [mwi, forall_eq, Int.sub_zero]
          exact MD_canCome_spec hG E' A' hi p0 (by omega) (fun y => ⟨fun z => absurd z (by decide), fun _ => yes y⟩) (fun y => ⟨fun _ => no y, fun z => absurd rfl z⟩)
        · simp (disch := omega) only [mwi, forall_eq, Int.sub_zero]
          refine MD_canCome_spec hG E' A' hi p0 (by omega) (fun y => ?_) (fun y => ⟨fun z => absurd rfl z, fun _ => MD_canCome_spec hG E' A' hi p0 (by omega) (fun y2 => absurd y2 y) (fun _ => ⟨fun _ => no y, fun z => absurd rfl z⟩)⟩)
          have lt := cntI_lt (P := canF C c) p0 hp2 y
          omega
    have h0 := key 0 a1 (Int.le_refl _) u v
    have e0 : x - cntI (canF C c) 0 = x := by rw [cntI_0]; omega
    rw [e0] at h0
    exact h0
  have key : ∀ p : Int, p ≤ cN C → 0 ≤ p → ∀ u, MD_comesNext_4 g h d (cntI (canF C c) p) p u K := by
    refine up_ind ?_ ?_
    · intro _ u
      have ec : cntI (canF C c) (cN C) = cnF C c := rfl
      refine MD_comesNext_4_wp hG ⟨fun _ => ⟨fun z => ?_, fun z => ?_⟩, fun z => absurd z (by rw [E.1.1]; omega)⟩
      · have sz := hd.mp z
        refine pickp h (fun _ _ => rfl) (fun _ _ => rfl) ?_ 0 ?_ _ _
        · unfold nxs; rw [if_pos sz]
        · unfold nxs; rw [if_pos sz, hz sz]; simp
      · have sz : ¬ sd = 0 := fun y => z (hd.mpr y)
        have en : nxs sd (h 68 40) = (1103515245 * h 68 40 + 12345) % 2147483648 := if_neg sz
        refine MD_drawOf_wp hG ?_
        rw [nxs_m hs, ← en, ec]
        simp only [forall_eq, upd_at]
        refine ⟨by omega, ?_⟩
        rw [nxd_m nr ⟨hp, c4⟩]
        exact pickp _ (fun b nb => upd_ob nb) (fun i ni => upd_ix ni) upd_at _ rfl _ _
    · intro p hp2 ih p0 u
      have cr := cntI_r (P := canF C c) p0
      have ih := fun u => ih (by omega) u
      refine MD_comesNext_4_wp hG ⟨fun z => absurd z (by rw [E.1.1]; omega), fun _ => MD_canCome_spec hG E A hi p0 hp2 (fun y => ⟨fun z => absurd z (by decide), fun _ => ?_⟩) (fun y => ⟨fun _ => ?_, fun z => absurd rfl z⟩)⟩
      · simp (disch := omega) only [mwi, forall_eq]
        rw [cntI_y p0 y] at ih
        exact ih _
      · simp (disch := omega) only [mwi, forall_eq, Int.add_zero]
        rw [cntI_n p0 y] at ih
        exact ih _
  exact key 0 W.1 (Int.le_refl _) none
theorem MD_play_spec (hG : Gok sw g) (E : MdOk h C) {sd : Int} (h0 : 0 ≤ sd ∧ sd < 2147483648) {K : Int → (Nat → Int → Int) → Prop} (k : ∀ h', (∀ b, ¬ b = 68 → ¬ b = 75 → ¬ b = 81 → h' b = h b) → (∀ i, ¬ i = 10 → ¬ i = 12 → ¬ i = 40 → h' 68 i = h 68 i) → h' 68 10 = 1 → h' 68 12 = 0 → (∀ i, 0 ≤ i → i < cT C → h' 75 i = plP C sd i) → K (cT C) h') : MD_play g h sd K := by
  have V := E.2.2.1
  have W := V.1
  have hN := W.2.1
  have hn := E.2.2.2.2
  have hT := cT_r W
  have n := NP_le W
  refine MD_play_wp hG ⟨fun z => absurd z (by rw [E.1.1]; omega), fun _ => ⟨fun _ => ?_, fun z => absurd z (by omega)⟩⟩
  simp only [forall_eq]
  have R1 : MdR (mvUpd h 68 40 sd) C := E.1.keep (upd_ix (by omega)) (upd_ob (by omega)) (upd_ob (by omega)) (upd_ob (by omega))
  refine MD_take_spec hG R1 W hn (Int.le_refl _) (by omega) (fun h2 F2 A2 => ?_)
  have R2 : MdR h2 C := R1.keep (by rw [F2 68 (by omega)]) (F2 69 (by omega)) (F2 70 (by omega)) (F2 71 (by omega))
  refine MD_eventsAll_spec hG R2 W ?_
  rw [ctI_0 W] at A2
  have key : ∀ i : Int, i ≤ cT C → 0 ≤ i → ∀ h', (∀ b, ¬ b = 68 → ¬ b = 75 → ¬ b = 81 → h' b = h b) → (∀ i, ¬ i = 40 → h' 68 i = h 68 i) → h' 68 40 = (plS C sd i).1 → At h' C (plS C sd i).2 → (∀ j, 0 ≤ j → j < i → h' 75 j = plP C sd j) → MD_play_35 g h' sd (cT C) i K := by
    refine up_ind ?_ ?_
    · intro _ h' F G3 S A B
      refine MD_play_35_wp hG ⟨fun _ => ?_, fun z => absurd z (by omega)⟩
      simp only [forall_eq]
      refine k _ (fun b a1 a2 a3 => by rw [upd_ob a1, upd_ob a1]; exact F b a1 a2 a3) (fun i a1 a2 a3 => by rw [upd_ix a2, upd_ix a1]; exact G3 i a3) (by rw [upd_ix (by omega), upd_at]) upd_at (fun j j0 j1 => by rw [upd_ob (by omega), upd_ob (by omega)]; exact B j j0 j1)
    · intro i hi ih i0 h' F G3 S A B
      have E' : MdOk h' C := E.keep (G3 0 (by omega)) (fun b b1 b2 => F b (by omega) (by omega) (by omega))
      obtain ⟨i1, i2, i3, i4⟩ := plS_ok V h0 i i0 (by omega)
      have cp := cnF_pos V i2 (by omega)
      have wy := plP_way V h0 i i0 hi
      have eP : plP C sd i = chs C (plS C sd i).2 (nxs sd (plS C sd i).1 / 65536 % cnF C (plS C sd i).2) := rfl
      have ih := fun h' => ih (by omega) h'
      rw [plS_s i0] at ih
      have zz : sd = 0 → ∀ k, 0 ≤ k → (plS C sd k).1 = 0 := fun z => by
        refine int_ind z ?_
        intro k k0 ihk
        rw [plS_s k0]
        show nxs sd (plS C sd k).1 = 0
        unfold nxs
        rw [if_pos z]; exact ihk
      have step : ∀ d, (d = 0 ↔ sd = 0) → MD_comesNext g h' d (fun r4 h3 => (0 ≤ i ∧ i < 16) ∧ (∀ h5, h5 = mvUpd h3 75 i r4 → (0 ≤ i ∧ i < 16) ∧ (0 ≤ (h5 75 i) ∧ (h5 75 i) < 4) ∧ (0 ≤ (h5 75 i) ∧ (h5 75 i) < 4) ∧ (∀ h6, h6 = mvUpd h5 81 (h5 75 i) (mw ((h5 81 (h5 75 i)) + 1)) → MD_play_35 g h6 sd (cT C) (mw (i + 1)) K))) := by
        intro d hd
        refine MD_comesNext_spec hG E' A i2 cp hd (by rw [S]; exact i1) (fun z => by rw [S]; exact zz z i i0) (fun h3 F3 G4 S3 => ?_)
        rw [S, ← eP]
        rw [S] at S3
        have cw := (i2 (plP C sd i))
        have hz := W.sz (plP C sd i)
        have e81 : h3 81 (plP C sd i) = (plS C sd i).2 (plP C sd i) := by rw [F3 81 (by omega)]; exact A _ wy.1 wy.2.1
        have w1 := wy.1
        have w2 := wy.2.1
        simp (disch := omega) only [bd, forall_eq, upd_at, upd_ob, e81, mwi]
        refine ih _ (fun b a1 a2 a3 => by rw [upd_ob a3, upd_ob a2, F3 b a1]; exact F b a1 a2 a3) (fun j nj => by rw [upd_ob (by omega), upd_ob (by omega), G4 j nj]; exact G3 j nj) (by rw [upd_ob (by omega), upd_ob (by omega)]; exact S3) (fun p p0 p1 => ?_) (fun j j0 j1 => ?_)
        · show mvUpd (mvUpd h3 75 i (plP C sd i)) 81 (plP C sd i) ((plS C sd i).2 (plP C sd i) + 1) 81 p = inc (plS C sd i).2 (plP C sd i) p
          by_cases e : p = plP C sd i
          · rw [e, upd_at, inc_at]
          · rw [upd_ix e, inc_ne e, upd_ob (by omega), F3 81 (by omega)]; exact A p p0 p1
        · rw [upd_ob (by omega)]
          by_cases e : j = i
          · rw [e, upd_at]
          · rw [upd_ix e, F3 75 (by omega)]; exact B j j0 (by omega)
      refine MD_play_35_wp hG ⟨fun z => absurd z (by omega), fun _ => ⟨fun z => step 0 ⟨fun _ => by omega, fun _ => rfl⟩, fun z => step 1 ⟨fun y => absurd y (by decide), fun y => by omega⟩⟩⟩
  exact key 0 hT.1 (Int.le_refl _) h2 (fun b a1 a2 a3 => by rw [F2 b a3, upd_ob a1]) (fun i ni => by rw [F2 68 (by omega), upd_ix ni]) (by rw [F2 68 (by omega), upd_at]; rfl) A2 (fun j j0 j1 => by omega)
end MD
