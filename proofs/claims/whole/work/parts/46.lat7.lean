/-! the lattice as it stands -/
noncomputable def wdl (C : Cmp) (k : Int) : Int := it (fun i b => if lc C b (NP C) < lc C (i + 1) (NP C) then i + 1 else b) 0 k
theorem wdl_s {C : Cmp} {k : Int} (h : 0 ≤ k) : wdl C (k + 1) = if lc C (wdl C k) (NP C) < lc C (k + 1) (NP C) then k + 1 else wdl C k := by unfold wdl; rw [it_s h]
theorem wdl_r {C : Cmp} {k : Int} (h : 0 ≤ k) : 0 ≤ wdl C k ∧ wdl C k ≤ k := by
  refine int_ind (P := fun k => 0 ≤ wdl C k ∧ wdl C k ≤ k) ⟨Int.le_refl _, Int.le_refl _⟩ ?_ k h
  intro i hi ih
  rw [wdl_s hi]
  split <;> omega
noncomputable def latP (C : Cmp) (x : Int) : Int := if x = 0 then bl C 17 else if x = 1 then lc C (wdl C (cT C)) (NP C) else if x = 2 then wdl C (cT C) else if x = 3 then pv C 0 else cT C
def LtOk (a : Nat) (h : Nat → Int → Int) (C : Cmp) : Prop := ¬ h a 0 = 0 ∧ h a 3 = cT C ∧ LtN a h C ∧ (∀ j, 0 ≤ j → j < NP C → h (a + 5) j = npc C (ctI C j)) ∧ (∀ j, 0 ≤ j → j < NP C → h (a + 6) j = pv C j) ∧ LtS a h C
theorem cT_r {C : Cmp} (W : Wf C) : 0 ≤ cT C ∧ cT C ≤ 16 := by
  have a0 := W.sz 0; have a1 := W.sz 1; have a2 := W.sz 2; have a3 := W.sz 3
  have := W.2.2.2.2.1
  unfold cT at *; omega
theorem LtOk.keep {a : Nat} {h h' : Nat → Int → Int} {C : Cmp} (L : LtOk a h C) (hk : ∀ b, a ≤ b → b ≤ a + 6 → h' b = h b) : LtOk a h' C := by
  unfold LtOk LtN LtS at *
  rw [hk a (by omega) (by omega), hk (a + 1) (by omega) (by omega), hk (a + 2) (by omega) (by omega), hk (a + 3) (by omega) (by omega), hk (a + 4) (by omega) (by omega), hk (a + 5) (by omega) (by omega), hk (a + 6) (by omega) (by omega)]
  exact L
section LT
variable {sw : Bool} {g : Nat → Nat → Nat} {h : Nat → Int → Int} {a e : Nat} {C : Cmp} {c : Int → Int}
theorem LT_build_spec (hG : Gok sw g) (ha : LtId a) (he : EvId e) (E : EvOk e h C) (L : h a 0 = 0 ∨ LtOk a h C) {K : (Nat → Int → Int) → Prop} (k : ∀ h', (∀ b, ¬ (a ≤ b ∧ b ≤ a + 6) → h' b = h b) → LtOk a h' C → K h') : LT_build g h a e K := by
  have V := E.2.2.1
  have hn := E.2.2.2.2.1
  have dj := lt_ev ha he
  refine LT_build_wp hG ha he ⟨fun z => ?_, fun z => ?_⟩
  · rintro h1 rfl
    rintro h2 rfl
    have e1 : mvUpd h a 0 1 e 1 = cT C := by rw [upd_ob (by omega)]; exact E.1.2.1
    rw [e1]
    have F0 : ∀ b, ¬ (a ≤ b ∧ b ≤ a + 6) → mvUpd (mvUpd h a 0 1) a 3 (cT C) b = h b := fun b hb => by rw [upd_ob (by omega), upd_ob (by omega)]
    refine LT_numberPlaces_spec hG ha he (E.keep (fun b hb => F0 b (by omega))) ?_
    intro h3 F3 G3 L3
    refine LT_countPathsTo_spec hG ha he (E.keep (fun b hb => by rw [F3 b (by omega) (by omega) (by omega)]; exact F0 b (by omega))) L3 ?_
    intro h4 F4 T4
    have L4 := L3.keep (F4 a (by omega) ▸ rfl : h4 a 2 = h3 a 2) (F4 (a + 2) (by omega)) (F4 (a + 3) (by omega))
    refine LT_countPathsFrom_spec hG ha he (E.keep (fun b hb => by rw [F4 b (by omega), F3 b (by omega) (by omega) (by omega)]; exact F0 b (by omega))) L4 T4 ?_
    intro h5 F5 T5
    have L5 := L4.keep (F5 a (by omega) ▸ rfl : h5 a 2 = h4 a 2) (F5 (a + 2) (by omega)) (F5 (a + 3) (by omega))
    have T45 : ∀ j, 0 ≤ j → j < NP C → h5 (a + 5) j = npc C (ctI C j) := fun j j0 j1 => by rw [F5 (a + 5) (by omega)]; exact T4 j j0 j1
    refine LT_sortByLevel_spec hG ha V hn L5 T45 ?_
    intro h6 F6 G6 S6
    refine k h6 (fun b hb => ?_) ⟨?_, ?_, ?_, fun j j0 j1 => ?_, fun j j0 j1 => ?_, S6⟩
    · rw [F6 b (by omega) (by omega) (by omega), F5 b (by omega), F4 b (by omega), F3 b (by omega) (by omega) (by omega)]
      exact F0 b hb
    · rw [G6 0 (by omega), F5 a (by omega), F4 a (by omega), G3 0 (by omega), upd_ix (by omega), upd_at]; omega
    · rw [G6 3 (by omega), F5 a (by omega), F4 a (by omega), G3 3 (by omega), upd_at]
    · exact L5.keep (G6 2 (by omega)) (F6 (a + 2) (by omega) (by omega) (by omega)) (F6 (a + 3) (by omega) (by omega) (by omega))
    · rw [F6 (a + 5) (by omega) (by omega) (by omega)]; exact T45 j j0 j1
    · rw [F6 (a + 6) (by omega) (by omega) (by omega)]; exact T5 j j0 j1
  · rcases L with L | L
    · exact absurd L z
    · exact k h (fun b _ => rfl) L
theorem lv_size {h : Nat → Int → Int} (W : Wf C) (L : LtOk a h C) {l : Int} (l0 : 0 ≤ l) (l1 : l < 17) : mw (h (a + 1) (mw (l + 1)) - h (a + 1) l) = lc C l (NP C) := by
  have S := L.2.2.2.2.2.2.1
  have nle := NP_le W
  have b1 := bl_r W (l + 1)
  have b0 := bl_r W l
  rw [mwi (z := l + 1) (by omega) (by omega), S (l + 1) (by omega) (by omega), S l l0 (by omega), mwi (by omega) (by omega), bl_s W]
  omega
theorem LT_widestLevel_spec (hG : Gok sw g) (ha : LtId a) (W : Wf C) (L : LtOk a h C) {K : Int → (Nat → Int → Int) → Prop} (k : K (wdl C (cT C)) h) : LT_widestLevel g h a K := by
  have hT := cT_r W
  refine LT_widestLevel_wp hG ha ?_
  have key : ∀ l, l ≤ cT C → 0 ≤ l → LT_widestLevel_4 g h a (wdl C l) (l + 1) K := by
    refine up_ind ?_ ?_
    · intro _
      exact LT_widestLevel_4_wp hG ha ⟨fun _ => k, fun z => absurd z (by rw [L.2.1]; omega)⟩
    · intro l hl ih l0
      have r := wdl_r (C := C) l0
      refine LT_widestLevel_4_wp hG ha ⟨fun z => absurd z (by rw [L.2.1]; omega), fun _ => ?_⟩
      rw [lv_size W L (l := l + 1) (by omega) (by omega), lv_size W L (l := wdl C l) (by omega) (by omega)]
      rw [mwi (z := l + 1 + 1) (by omega) (by omega), mwi (z := wdl C l + 1) (by omega) (by omega)]
      have ih := ih (by omega)
      rw [wdl_s l0] at ih
      refine ⟨⟨by omega, by omega⟩, ⟨by omega, by omega⟩, ⟨by omega, by omega⟩, ⟨by omega, by omega⟩, fun z => ?_, fun z => ?_⟩
      · rw [if_neg (by omega)] at ih; exact ih
      · rw [if_pos z] at ih; exact ih
  exact key 0 hT.1 (Int.le_refl _)
theorem LT_property_spec (hG : Gok sw g) (ha : LtId a) (W : Wf C) (L : LtOk a h C) {x : Int} {K : Int → (Nat → Int → Int) → Prop} (k : K (latP C x) h) : LT_property g h a x K := by
  have hT := cT_r W
  have nle := NP_le W
  have r := wdl_r (C := C) hT.1
  unfold latP at k
  refine LT_property_wp hG ha ⟨fun z => ?_, fun z => ?_, fun z => ?_, fun z => ?_, fun z => ?_⟩
  · rw [if_neg (by omega), if_neg (by omega), if_neg (by omega), if_neg (by omega)] at k
    rw [L.2.1]; exact k
  · rw [if_pos z] at k
    rw [L.2.2.2.2.2.1]; exact k
  · rw [if_neg (by omega), if_pos z] at k
    refine LT_widestLevel_spec hG ha W L ?_
    rw [lv_size W L r.1 (by omega), mwi (z := wdl C (cT C) + 1) (by omega) (by omega)]
    exact ⟨⟨by omega, by omega⟩, ⟨by omega, by omega⟩, k⟩
  · rw [if_neg (by omega), if_neg (by omega), if_pos z] at k
    exact LT_widestLevel_spec hG ha W L k
  · rw [if_neg (by omega), if_neg (by omega), if_neg (by omega), if_pos z] at k
    rw [L.2.2.2.2.1 0 (by omega) (by omega)]; exact k
theorem ixc_sum (W : Wf C) (hi : In C c) : sumI (fun p => st C p * c p) (cN C) = ixc C c := by
  have hN := W.2.1
  have h0 := W.1
  have z := fun p (hp : ¬ (0 ≤ p ∧ p < cN C)) => hi.out W (p := p) hp
  have zw : ∀ p, ¬ (0 ≤ p ∧ p < cN C) → wid C p = 1 := fun p hp => by unfold wid; rw [W.2.2.2.1 p hp]; rfl
  have u0 : sumI (fun p => st C p * c p) 0 = 0 := rfl
  have u1 : sumI (fun p => st C p * c p) 1 = sumI (fun p => st C p * c p) 0 + st C 0 * c 0 := sumI_s (k := 0) (by omega)
  have u2 : sumI (fun p => st C p * c p) 2 = sumI (fun p => st C p * c p) 1 + st C 1 * c 1 := sumI_s (k := 1) (by omega)
  have u3 : sumI (fun p => st C p * c p) 3 = sumI (fun p => st C p * c p) 2 + st C 2 * c 2 := sumI_s (k := 2) (by omega)
  have u4 : sumI (fun p => st C p * c p) 4 = sumI (fun p => st C p * c p) 3 + st C 3 * c 3 := sumI_s (k := 3) (by omega)
  have v0 : st C 0 = wid C 1 * wid C 2 * wid C 3 := rfl
  have v1 : st C 1 = wid C 2 * wid C 3 := rfl
  have v2 : st C 2 = wid C 3 := rfl
  have v3 : st C 3 = 1 := rfl
  rw [v0] at u1; rw [v1] at u2; rw [v2] at u3; rw [v3] at u4
  unfold ixc
  rcases (show cN C = 0 ∨ cN C = 1 ∨ cN C = 2 ∨ cN C = 3 ∨ cN C = 4 by omega) with h | h | h | h | h
  · rw [h, u0, z 0 (by omega), z 1 (by omega), z 2 (by omega), z 3 (by omega)]; simp
  · rw [h, u1, u0, z 1 (by omega), z 2 (by omega), z 3 (by omega), zw 1 (by omega), zw 2 (by omega), zw 3 (by omega)]; simp
  · rw [h, u2, u1, u0, z 2 (by omega), z 3 (by omega), zw 2 (by omega), zw 3 (by omega)]; simp; grind
  · rw [h, u3, u2, u1, u0, z 3 (by omega), zw 3 (by omega)]; simp; grind
  · rw [h, u4, u3, u2, u1, u0]; grind
theorem LT_pathsThrough_spec (hG : Gok sw g) (ha : LtId a) (he : EvId e) (E : EvOk e h C) (L : LtOk a h C) {K : Int → (Nat → Int → Int) → Prop} (hi : In C c) (k : K (mw (npc C c * pv C (ixc C c))) h) : LT_pathsThrough g h a e (en (cN C) c) K := by
  have W := E.2.2.1.1
  have hN := W.2.1
  have hn := E.2.2.2.2.1
  have nle := NP_le W
  have xr := ixc_r hi
  have tn : ∀ p, 0 ≤ p → p < cN C → 0 ≤ st C p * c p := fun p p0 p1 => Int.mul_nonneg (by have := st_pos W p; omega) (hi p).1
  refine LT_pathsThrough_wp hG ha he ?_
  have key : ∀ p, p ≤ cN C → 0 ≤ p → 0 ≤ sumI (fun p => st C p * c p) p ∧ sumI (fun p => st C p * c p) p ≤ ixc C c → LT_pathsThrough_5 g h a e (en (cN C) c) (sumI (fun p => st C p * c p) p) p K := by
    refine up_ind ?_ ?_
    · intro _ _
      refine LT_pathsThrough_5_wp hG ha he ⟨fun _ => ?_, fun z => absurd z (by rw [E.1.1]; omega)⟩
      rw [ixc_sum W hi, L.2.2.2.1 _ xr.1 xr.2, L.2.2.2.2.1 _ xr.1 xr.2, ctI_ixc W hi]
      exact ⟨⟨by omega, by omega⟩, ⟨by omega, by omega⟩, k⟩
    · intro p hp ih p0 hs
      have up : sumI (fun p => st C p * c p) (p + 1) ≤ ixc C c := by
        rw [← ixc_sum W hi]
        have key2 : ∀ m, m ≤ cN C → 0 ≤ m → sumI (fun p => st C p * c p) m ≤ sumI (fun p => st C p * c p) (cN C) := by
          refine up_ind (fun _ => Int.le_refl _) ?_
          intro m hm ih m0
          have ih := ih (by omega)
          rw [sumI_s m0] at ih
          have := tn m m0 hm
          omega
        exact key2 (p + 1) (by omega) (by omega)
      have s1 := sumI_s (f := fun p => st C p * c p) p0
      have t1 := tn p p0 hp
      refine LT_pathsThrough_5_wp hG ha he ⟨fun z => absurd z (by rw [E.1.1]; omega), fun _ => ⟨⟨p0, by omega⟩, EV_count hG he E.1 W hn E.2.2.2.2.2 hi p0 hp ?_⟩⟩
      rintro v3 rfl
      rw [L.2.2.1.2.1 p p0 hp, mwi (z := st C p * c p) (by omega) (by omega), mwi (z := sumI (fun p => st C p * c p) p + st C p * c p) (by omega) (by omega), mwi (z := p + 1) (by omega) (by omega), ← s1]
      exact ih (by omega) (by omega)
  exact key 0 W.1 (Int.le_refl _) ⟨Int.le_refl _, xr.1⟩
end LT
