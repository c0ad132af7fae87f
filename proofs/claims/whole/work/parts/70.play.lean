/-! plays -/
def bcv (x : Int) : Int :=
  let v1 := mw (x - (mvAnd (mvUshr x 1) 1431655765))
  let v2 := mw ((mvAnd v1 858993459) + (mvAnd (mvUshr v1 2) 858993459))
  let v3 := mvAnd (mw (v2 + (mvUshr v2 4))) 252645135
  let v4 := mw (v3 + (mvUshr v3 8))
  let v5 := mw (v4 + (mvUshr v4 16))
  mvAnd v5 63
theorem bc_bits {B : Int → Prop} {n : Int} (hn : 1 ≤ n ∧ n ≤ 4) : bcv (bits B n) = cntI B n := by
  have b1 : bits B 1 = pick (B 0) (mvOr 0 (mvShl 1 0)) 0 := bits_s (Int.le_refl 0)
  have b2 : bits B 2 = pick (B 1) (mvOr (bits B 1) (mvShl 1 1)) (bits B 1) := bits_s (n := 1) (by omega)
  have b3 : bits B 3 = pick (B 2) (mvOr (bits B 2) (mvShl 1 2)) (bits B 2) := bits_s (n := 2) (by omega)
  have b4 : bits B 4 = pick (B 3) (mvOr (bits B 3) (mvShl 1 3)) (bits B 3) := bits_s (n := 3) (by omega)
  have c1 : cntI B 1 = 0 + pick (B 0) 1 0 := cntI_s (Int.le_refl 0)
  have c2 : cntI B 2 = cntI B 1 + pick (B 1) 1 0 := cntI_s (k := 1) (by omega)
  have c3 : cntI B 3 = cntI B 2 + pick (B 2) 1 0 := cntI_s (k := 2) (by omega)
  have c4 : cntI B 4 = cntI B 3 + pick (B 3) 1 0 := cntI_s (k := 3) (by omega)
  rcases Classical.em (B 0) with h0 | h0 <;> rcases Classical.em (B 1) with h1 | h1 <;> rcases Classical.em (B 2) with h2 | h2 <;> rcases Classical.em (B 3) with h3 | h3 <;>
    ((first | rw [pick_t h0] at b1 c1 | rw [pick_f h0] at b1 c1)
     (first | rw [pick_t h1, b1] at b2 | rw [pick_f h1, b1] at b2)
     (first | rw [pick_t h2, b2] at b3 | rw [pick_f h2, b2] at b3)
     (first | rw [pick_t h3, b3] at b4 | rw [pick_f h3, b3] at b4)
     (first | rw [pick_t h1, c1] at c2 | rw [pick_f h1, c1] at c2)
     (first | rw [pick_t h2, c2] at c3 | rw [pick_f h2, c2] at c3)
     (first | rw [pick_t h3, c3] at c4 | rw [pick_f h3, c3] at c4)
     rcases (show n = 1 ∨ n = 2 ∨ n = 3 ∨ n = 4 by omega) with rfl | rfl | rfl | rfl <;>
       (simp only [b1, b2, b3, b4, c1, c2, c3, c4]; decide +kernel))
noncomputable def cnF (C : Cmp) (c : Int → Int) : Int := cntI (canF C c) (cN C)
noncomputable def chs (C : Cmp) (c : Int → Int) (d : Int) : Int := fst (fun p => canF C c p ∧ cntI (canF C c) p = d) (cN C)
theorem chs_ok {C : Cmp} (W : Wf C) {c : Int → Int} {d : Int} (d0 : 0 ≤ d) (d1 : d < cnF C c) : 0 ≤ chs C c d ∧ chs C c d < cN C ∧ canF C c (chs C c d) ∧ cntI (canF C c) (chs C c d) = d := by
  obtain ⟨i, i0, i1, i2, i3⟩ := cntI_at (P := canF C c) (k := cN C) W.1 d0 d1
  rcases fst_cases (P := fun p => canF C c p ∧ cntI (canF C c) p = d) (n := cN C) W.1 with ⟨-, z⟩ | ⟨a1, a2, a3, -⟩
  · exact absurd ⟨i2, i3⟩ (z i i0 i1)
  · exact ⟨a1, a2, a3.1, a3.2⟩
theorem chs_at {C : Cmp} {c : Int → Int} {p d : Int} (p0 : 0 ≤ p) (p1 : p < cN C) (hc : canF C c p) (hd : cntI (canF C c) p = d) : chs C c d = p := by
  refine fst_at p0 p1 ⟨hc, hd⟩ (fun q q0 q1 z => ?_)
  have := cntI_lt (P := canF C c) q0 q1 z.1
  have := z.2
  omega
/-- the number that chooses next -/
def nxs (sd s : Int) : Int := if sd = 0 then s else (1103515245 * s + 12345) % 2147483648
theorem nxs_r {sd s : Int} (h : 0 ≤ s ∧ s < 2147483648) : 0 ≤ nxs sd s ∧ nxs sd s < 2147483648 := by
  unfold nxs
  split
  · exact h
  · omega
/-- a play: the number and the cut after k steps -/
noncomputable def plS (C : Cmp) (sd k : Int) : Int × (Int → Int) := it (fun _ z => (nxs sd z.1, inc z.2 (chs C z.2 (nxs sd z.1 / 65536 % cnF C z.2)))) (sd, fun _ => 0) k
noncomputable def plP (C : Cmp) (sd k : Int) : Int := chs C (plS C sd k).2 (nxs sd (plS C sd k).1 / 65536 % cnF C (plS C sd k).2)
theorem plS_s {C : Cmp} {sd k : Int} (h : 0 ≤ k) : plS C sd (k + 1) = (nxs sd (plS C sd k).1, inc (plS C sd k).2 (plP C sd k)) := by
  unfold plP
  conv => lhs; unfold plS
  rw [it_s h]
  rfl
theorem cnF_pos {C : Cmp} (V : Valid C) {c : Int → Int} (hi : In C c) (hl : lev c < cT C) : 0 < cnF C c := by
  obtain ⟨p, p0, p1, hp⟩ := can_go V hi hl
  have := cntI_lt (P := canF C c) p0 p1 hp
  have := (cntI_r (P := canF C c) p0).1
  unfold cnF; omega
/-- a row of steps that is a way through the computation: the cuts on it -/
def ctW (st : Int → Int) (k : Int) : Int → Int := it (fun i c => inc c (st i)) (fun _ => 0) k
theorem ctW_s {st : Int → Int} {k : Int} (h : 0 ≤ k) : ctW st (k + 1) = inc (ctW st k) (st k) := by unfold ctW; rw [it_s h]
def Way (C : Cmp) (st : Int → Int) : Prop := ∀ k, 0 ≤ k → k < cT C → 0 ≤ st k ∧ st k < cN C ∧ canF C (ctW st k) (st k)
theorem Way.ok {C : Cmp} (W : Wf C) {st : Int → Int} (Y : Way C st) : ∀ k, 0 ≤ k → k ≤ cT C → In C (ctW st k) ∧ Cons C (ctW st k) ∧ lev (ctW st k) = k := by
  have hN := W.2.1
  refine int_ind ?_ ?_
  · intro _
    exact ⟨fun p => ⟨Int.le_refl _, (W.sz p).1⟩, Cons_0 (fun _ => rfl), rfl⟩
  · intro k k0 ih hk
    obtain ⟨i1, i2, i3⟩ := ih (by omega)
    obtain ⟨s0, s1, s2⟩ := Y k k0 (by omega)
    rw [ctW_s k0]
    exact ⟨i1.inc s2.1, (Cons_inc W i1 i2 s0 s1 s2.1).mpr s2, by rw [lev_inc s0 (by omega), i3]⟩
theorem plS_ok {C : Cmp} (V : Valid C) {sd : Int} (h0 : 0 ≤ sd ∧ sd < 2147483648) : ∀ k, 0 ≤ k → k ≤ cT C → (0 ≤ (plS C sd k).1 ∧ (plS C sd k).1 < 2147483648) ∧ In C (plS C sd k).2 ∧ lev (plS C sd k).2 = k ∧ (plS C sd k).2 = ctW (plP C sd) k := by
  have W := V.1
  have hN := W.2.1
  refine int_ind ?_ ?_
  · intro _
    exact ⟨h0, fun p => ⟨Int.le_refl _, (W.sz p).1⟩, rfl, rfl⟩
  · intro k k0 ih hk
    obtain ⟨i1, i2, i3, i4⟩ := ih (by omega)
    have cp := cnF_pos V i2 (by omega)
    obtain ⟨a1, a2, a3, -⟩ := chs_ok W (c := (plS C sd k).2) (d := nxs sd (plS C sd k).1 / 65536 % cnF C (plS C sd k).2) (Int.emod_nonneg _ (by omega)) (Int.emod_lt_of_pos _ cp)
    rw [plS_s k0, ctW_s k0, ← i4]
    exact ⟨nxs_r i1, i2.inc a3.1, (lev_inc a1 (by omega)).trans (by rw [i3]), rfl⟩
theorem plP_way {C : Cmp} (V : Valid C) {sd : Int} (h0 : 0 ≤ sd ∧ sd < 2147483648) : Way C (plP C sd) := by
  intro k k0 k1
  obtain ⟨i1, i2, i3, i4⟩ := plS_ok V h0 k k0 (by omega)
  have cp := cnF_pos V i2 (by omega)
  obtain ⟨a1, a2, a3, -⟩ := chs_ok V.1 (c := (plS C sd k).2) (d := nxs sd (plS C sd k).1 / 65536 % cnF C (plS C sd k).2) (Int.emod_nonneg _ (by omega)) (Int.emod_lt_of_pos _ cp)
  rw [← i4]
  exact ⟨a1, a2, a3⟩
theorem nxs_m {s : Int} (h : 0 ≤ s ∧ s < 2147483648) : (mwl (mwl (1103515245 * s) + 12345)).tmod 2147483648 = (1103515245 * s + 12345) % 2147483648 := by
  rw [mwl_id (z := 1103515245 * s) (by unfold mv64; omega), mwl_id (by unfold mv64; omega), tmd (by omega)]
theorem nxd_m {s d : Int} (h : 0 ≤ s ∧ s < 2147483648) (hd : 0 < d ∧ d ≤ 4) : mw ((mwl (s.tdiv 65536)).tmod d) = s / 65536 % d := by
  rw [tdv h.1, mwl_id (by unfold mv64; omega), tmd (by omega)]
  have := Int.emod_nonneg (s / 65536) (show d ≠ 0 by omega)
  have := Int.emod_lt_of_pos (s / 65536) hd.1
  exact mwi (by omega) (by omega)
theorem cnF_le {C : Cmp} (W : Wf C) {c : Int → Int} : cnF C c ≤ 4 := by
  have := (cntI_r (P := canF C c) W.1).2
  have := W.2.1
  unfold cnF; omega
section PL
variable {sw : Bool} {g : Nat → Nat → Nat} {h : Nat → Int → Int} {e : Nat} {C : Cmp} {c : Int → Int}
theorem PL_choose_spec (hG : Gok sw g) (W : Wf C) (hn : 1 ≤ cN C) (hp : 0 < cnF C c) {s : Int} (hs : 0 ≤ s ∧ s < 2147483648) {K : Int → (Nat → Int → Int) → Prop} (k : K (chs C c (s / 65536 % cnF C c)) h) : PL_choose g h (fol C c) s K := by
  have hN := W.2.1
  have eb : bcv (fol C c) = cnF C c := bc_bits ⟨hn, hN⟩
  have c4 := cnF_le W (c := c)
  have d0 := Int.emod_nonneg (s / 65536) (show cnF C c ≠ 0 by omega)
  have d1 := Int.emod_lt_of_pos (s / 65536) hp
  obtain ⟨a1, a2, a3, a4⟩ := chs_ok W (c := c) d0 d1
  generalize hd : s / 65536 % cnF C c = d at *
  refine PL_choose_wp hG (IG_bitCount_wp hG ?_)
  simp only [forall_eq]
  have eb2 : (mvAnd (mw (mw (mvAnd (mw (mw (mvAnd (mw (fol C c - mvAnd (mvUshr (fol C c) 1) 1431655765)) 858993459 + mvAnd (mvUshr (mw (fol C c - mvAnd (mvUshr (fol C c) 1) 1431655765)) 2) 858993459) + mvUshr (mw (mvAnd (mw (fol C c - mvAnd (mvUshr (fol C c) 1) 1431655765)) 858993459 + mvAnd (mvUshr (mw (fol C c - mvAnd (mvUshr (fol C c) 1) 1431655765)) 2) 858993459)) 4)) 252645135 + mvUshr (mvAnd (mw (mw (mvAnd (mw (fol C c - mvAnd (mvUshr (fol C c) 1) 1431655765)) 858993459 + mvAnd (mvUshr (mw (fol C c - mvAnd (mvUshr (fol C c) 1) 1431655765)) 2) 858993459) + mvUshr (mw (mvAnd (mw (fol C c - mvAnd (mvUshr (fol C c) 1) 1431655765)) 858993459 + mvAnd (mvUshr (mw (fol C c - mvAnd (mvUshr (fol C c) 1) 1431655765)) 2) 858993459)) 4)) 252645135) 8) + mvUshr (mw (mvAnd (mw (mw (mvAnd (mw (fol C c - mvAnd (mvUshr (fol C c) 1) 1431655765)) 858993459 + mvAnd (mvUshr (mw (fol C c - mvAnd (mvUshr (fol C c) 1) 1431655765)) 2) 858993459) + mvUshr (mw (mvAnd (mw (fol C c - mvAnd (mvUshr (fol C c) 1) 1431655765)) 858993459 + mvAnd (mvUshr (mw (fol C c - mvAnd (mvUshr (fol C c) 1) 1431655765)) 2) 858993459)) 4)) 252645135 + mvUshr (mvAnd (mw (mw (mvAnd (mw (fol C c - mvAnd (mvUshr (fol C c) 1) 1431655765)) 858993459 + mvAnd (mvUshr (mw (fol C c - mvAnd (mvUshr (fol C c) 1) 1431655765)) 2) 858993459) + mvUshr (mw (mvAnd (mw (fol C c - mvAnd (mvUshr (fol C c) 1) 1431655765)) 858993459 + mvAnd (mvUshr (mw (fol C c - mvAnd (mvUshr (fol C c) 1) 1431655765)) 2) 858993459)) 4)) 252645135) 8)) 16)) 63) = cnF C c := eb
  rw [eb2, nxd_m hs ⟨hp, c4⟩, hd]
  refine ⟨fun _ => ⟨by omega, ?_⟩, fun z => absurd z (by omega)⟩
  have mem : ∀ q, 0 ≤ q → q < 4 → (¬ mvAnd (mvShr (fol C c) q) 1 = 0 ↔ q < cN C ∧ canF C c q) := fun q q0 q1 => bits_mem ⟨hn, hN⟩ q0 q1
  have key : ∀ p : Int, p ≤ chs C c d → 0 ≤ p → ∀ u v, PL_choose_25 g h (fol C c) s u (d - cntI (canF C c) p) p v K := by
    refine up_ind ?_ ?_
    · intro _ u v
      refine PL_choose_25_wp hG ⟨fun z => absurd z (by omega), fun _ => ⟨fun z => absurd z ((mem _ a1 (by omega)).mpr ⟨a2, a3⟩), fun _ => ⟨fun z => absurd z (by omega), fun _ => k⟩⟩⟩
    · intro p hp2 ih p0 u v
      have cr := cntI_r (P := canF C c) p0
      refine PL_choose_25_wp hG ⟨fun z => absurd z (by omega), fun _ => ⟨fun z => ?_, fun z => ?_⟩⟩
      · have n : ¬ canF C c p := fun y => (mem p p0 (by omega)).mpr ⟨by omega, y⟩ z
        have ih := fun u v => ih (by omega) u v
        rw [cntI_n p0 n] at ih
        rw [mwi (z := p + 1) (by omega) (by omega)]
        exact ih _ _
      · have y := ((mem p p0 (by omega)).mp z).2
        have lt := cntI_lt (P := canF C c) p0 hp2 y
        have ih := fun u v => ih (by omega) u v
        rw [cntI_y p0 y] at ih
        refine ⟨fun _ => ?_, fun z2 => absurd z2 (by omega)⟩
        rw [mwi (z := d - cntI (canF C c) p + -1) (by omega) (by omega), mwi (z := p + 1) (by omega) (by omega), show d - cntI (canF C c) p + -1 = d - (cntI (canF C c) p + 1) by omega]
        exact ih _ _
  have h0 := key 0 a1 (Int.le_refl _) (some (cnF C c)) none
  have e0 : d - cntI (canF C c) 0 = d := by rw [cntI_0]; omega
  rw [e0] at h0
  exact h0
theorem EvOk.paired (E : EvOk e h C) : Paired C := fun _ _ p0 p1 k0 k1 hk => recv_pt E.2.2.1 p0 p1 k0 k1 hk
theorem PL_perform_spec (hG : Gok sw g) (he : EvId e) (E : EvOk e h C) {sd : Int} (h0 : 0 ≤ sd ∧ sd < 2147483648) {K : (Nat → Int → Int) → Prop} (k : ∀ h', (∀ b, ¬ b = 61 → ¬ b = 62 → h' b = h b) → h' 61 0 = cT C → (∀ i, 0 ≤ i → i < cT C → h' 62 i = plP C sd i) → K h') : PL_perform g h e sd K := by
  have V := E.2.2.1
  have W := V.1
  have hN := W.2.1
  have hn := E.2.2.2.2.1
  have hT := cT_r W
  have ed : e + 8 < 61 := by unfold EvId at he; omega
  refine PL_perform_wp hG he ?_
  simp only [forall_eq]
  have key : ∀ i : Int, i ≤ cT C → 0 ≤ i → ∀ h' u, (∀ b, ¬ b = 61 → ¬ b = 62 → h' b = h b) → h' 61 0 = i → (∀ j, 0 ≤ j → j < i → h' 62 j = plP C sd j) → PL_perform_14 g h' e sd (plS C sd i).1 (en (cN C) (plS C sd i).2) i u K := by
    refine up_ind ?_ ?_
    · intro _ h' u F A B
      exact PL_perform_14_wp hG he ⟨fun _ => k h' F A B, fun z => absurd z (by rw [F e (by omega) (by omega), E.1.2.1]; omega)⟩
    · intro i hi ih i0 h' u F A B
      have E' : EvOk e h' C := E.keep (fun b hb => F b (by omega) (by omega))
      obtain ⟨i1, i2, i3, i4⟩ := plS_ok V h0 i i0 (by omega)
      have cp := cnF_pos V i2 (by omega)
      have wy := plP_way V h0 i i0 hi
      have eP : plP C sd i = chs C (plS C sd i).2 (nxs sd (plS C sd i).1 / 65536 % cnF C (plS C sd i).2) := rfl
      have ih := fun h' u => ih (by omega) h' u
      rw [plS_s i0] at ih
      have step : EV_followers g h' e (en (cN C) (plS C sd i).2) (fun r2 h1 => PL_choose g h1 r2 (nxs sd (plS C sd i).1) (fun r4 h3 => ((¬ r4 = (-1) → (0 ≤ i ∧ i < 16) ∧ (∀ h5, h5 = mvUpd h3 62 i r4 → (∀ h6, h6 = mvUpd h5 61 0 (mw ((h5 61 0) + 1)) → EV_with g h6 e (en (cN C) (plS C sd i).2) r4 (fun r8 h7 => PL_perform_14 g h7 e sd (nxs sd (plS C sd i).1) r8 (mw (i + 1)) (some r4) K)))) ∧ (r4 = (-1) → K h3)))) := by
        refine EV_followers_spec hG he E'.1 W E'.2.1.1 E'.paired hn E'.2.2.2.2.2 i2 ?_
        refine PL_choose_spec hG W hn cp (nxs_r i1) ?_
        rw [← eP]
        refine ⟨fun _ => ?_, fun z => absurd z (by omega)⟩
        simp (disch := omega) only [bd, forall_eq, upd_ob, A, mwi]
        have E6 : EvOk e (mvUpd (mvUpd h' 62 i (plP C sd i)) 61 0 (i + 1)) C := E'.keep (fun b hb => by rw [upd_ob (by omega), upd_ob (by omega)])
        have hw := EV_with_spec (K := fun r8 h7 => PL_perform_14 g h7 e sd (nxs sd (plS C sd i).1) r8 (i + 1) (some (plP C sd i)) K) hG he (h := mvUpd (mvUpd h' 62 i (plP C sd i)) 61 0 (i + 1)) (c := (plS C sd i).2) (p := plP C sd i) (by rw [E6.1.1]; exact ⟨hn, hN⟩) E6.2.2.2.2.2 (i2.dg W) wy.1 (by rw [E6.1.1]; exact wy.2.1) (by
          rw [E6.1.1]
          refine ih _ _ (fun b a1 a2 => by rw [upd_ob a1, upd_ob a2]; exact F b a1 a2) upd_at (fun j j0 j1 => ?_)
          rw [upd_ob (by omega)]
          by_cases ej : j = i
          · rw [ej, upd_at]
          · rw [upd_ix ej]; exact B j j0 (by omega))
        rw [E6.1.1] at hw
        exact hw
      refine PL_perform_14_wp hG he ⟨fun z => absurd z (by rw [E'.1.2.1]; omega), fun _ => ⟨fun z => ?_, fun z => ?_⟩⟩
      · have en : nxs sd (plS C sd i).1 = (plS C sd i).1 := if_pos z
        rw [en] at step
        exact step
      · have en : nxs sd (plS C sd i).1 = (1103515245 * (plS C sd i).1 + 12345) % 2147483648 := if_neg z
        rw [nxs_m i1, ← en]
        rintro v rfl
        exact step
  have k0 := key 0 hT.1 (Int.le_refl _) (mvUpd h 61 0 0) none (fun b a1 _ => upd_ob a1) upd_at (fun j j0 j1 => by omega)
  have e1 : en (cN C) (plS C sd 0).2 = 0 := by
    show en (cN C) (fun _ => 0) = 0
    unfold en
    simp
  rw [e1] at k0
  exact k0
end PL
