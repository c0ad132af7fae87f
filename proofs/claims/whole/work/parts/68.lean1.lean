/-! the computation without the events that don't matter -/
def mat (C : Cmp) (w : Wsh) (p k : Int) : Prop := ¬ cK C p k = 0 ∨ ¬ (okv C w p k ↔ okv C w p (k + 1))
noncomputable def lk (C : Cmp) (w : Wsh) (p k : Int) : Int := cntI (mat C w p) k
noncomputable def lix (C : Cmp) (w : Wsh) (p j : Int) : Int := fst (fun k => mat C w p k ∧ lk C w p k = j) (cS C p)
noncomputable def leanC (C : Cmp) (w : Wsh) : Cmp := (cN C, fun p => lk C w p (cS C p), fun p j => cK C p (lix C w p j), fun p j => cD C p (lix C w p j))
theorem lk_r {C : Cmp} {w : Wsh} {p k : Int} (k0 : 0 ≤ k) : 0 ≤ lk C w p k ∧ lk C w p k ≤ k := cntI_r k0
theorem lix_at {C : Cmp} {w : Wsh} {p k : Int} (k0 : 0 ≤ k) (k1 : k < cS C p) (hm : mat C w p k) : lix C w p (lk C w p k) = k := by
  refine fst_at k0 k1 ⟨hm, rfl⟩ (fun q q0 q1 z => ?_)
  have := cntI_lt (P := mat C w p) q0 q1 z.1
  have e := z.2
  unfold lk at e
  omega
theorem lix_ok {C : Cmp} (W : Wf C) {w : Wsh} {p j : Int} (j0 : 0 ≤ j) (j1 : j < lk C w p (cS C p)) : 0 ≤ lix C w p j ∧ lix C w p j < cS C p ∧ mat C w p (lix C w p j) ∧ lk C w p (lix C w p j) = j := by
  obtain ⟨i, i0, i1, i2, i3⟩ := cntI_at (P := mat C w p) (k := cS C p) (W.sz p).1 j0 j1
  have e := lix_at i0 i1 i2
  have e3 : lk C w p i = j := i3
  rw [e3] at e
  rw [e]
  exact ⟨i0, i1, i2, i3⟩
theorem lean_N {C : Cmp} {w : Wsh} : cN (leanC C w) = cN C := rfl
theorem lean_S {C : Cmp} {w : Wsh} {p : Int} : cS (leanC C w) p = lk C w p (cS C p) := rfl
theorem lean_K {C : Cmp} {w : Wsh} {p j : Int} : cK (leanC C w) p j = cK C p (lix C w p j) := rfl
theorem lean_D {C : Cmp} {w : Wsh} {p j : Int} : cD (leanC C w) p j = cD C p (lix C w p j) := rfl
theorem lean_Wf {C : Cmp} (W : Wf C) (w : Wsh) : Wf (leanC C w) := by
  have r := fun p => lk_r (C := C) (w := w) (p := p) (W.sz p).1
  refine ⟨W.1, W.2.1, fun p p0 p1 => ?_, fun p hp => ?_, ?_, fun p k p0 p1 k0 k1 => ?_⟩
  · have := r p
    have := W.sz p
    show 0 ≤ lk C w p (cS C p) ∧ lk C w p (cS C p) ≤ 9
    omega
  · show lk C w p (cS C p) = 0
    have := r p
    have := W.2.2.2.1 p hp
    omega
  · have t := W.2.2.2.2.1
    have r0 := r 0; have r1 := r 1; have r2 := r 2; have r3 := r 3
    unfold cT at t ⊢
    simp only [lean_S]
    omega
  · obtain ⟨a0, a1, -, -⟩ := lix_ok W k0 k1
    exact W.2.2.2.2.2 p _ p0 p1 a0 a1
theorem lean_of {C : Cmp} {w : Wsh} {p x q : Int} (hx : ¬ x = 0) {k : Int} (k0 : 0 ≤ k) (k1 : k ≤ cS C p) : cOf (leanC C w) p x q (lk C w p k) = cOf C p x q k := by
  have key : ∀ k, 0 ≤ k → k ≤ cS C p → cOf (leanC C w) p x q (lk C w p k) = cOf C p x q k := by
    refine int_ind (fun _ => rfl) ?_
    intro i i0 ih hi
    have ih := ih (by omega)
    have r := lk_r (C := C) (w := w) (p := p) i0
    rcases Classical.em (mat C w p i) with m | m
    · have e : lk C w p (i + 1) = lk C w p i + 1 := cntI_y i0 m
      rw [e, cOf_s r.1, cOf_s i0, lean_K, lean_D, lix_at i0 (by omega) m, ih]
    · have e : lk C w p (i + 1) = lk C w p i := cntI_n i0 m
      have z : cK C p i = 0 := Classical.byContradiction (fun n => m (Or.inl n))
      rw [e, cOf_s i0, if_neg (fun y => hx (by omega))]
      exact ih
  exact key k k0 k1
theorem lean_Valid {C : Cmp} (V : Valid C) (w : Wsh) : Valid (leanC C w) := by
  obtain ⟨W, f, wt, O⟩ := V
  have W' := lean_Wf W w
  have hT := cT_nn W
  have key : ∀ i : Nat, (i : Int) ≤ cT C → ∃ m, Pth (leanC C w) m (fun p => lk C w p (f i p)) := by
    intro i
    induction i with
    | zero =>
      intro _
      refine ⟨0, fun p => ?_⟩
      simp only [O.1 p]; rfl
    | succ i ih =>
      intro hi
      obtain ⟨m, hm⟩ := ih (by omega)
      obtain ⟨w0, w1, wc, wf⟩ := O.2.1 i (by omega)
      obtain ⟨F1, -⟩ := O.fin W i (by omega)
      have fw := F1 (wt i)
      have c1 := wc.1
      rcases Classical.em (mat C w (wt i) (f i (wt i))) with mt | mt
      · have e : lk C w (wt i) (f i (wt i) + 1) = lk C w (wt i) (f i (wt i)) + 1 := cntI_y fw.1 mt
        have lt := cntI_lt (P := mat C w (wt i)) fw.1 c1 mt
        refine ⟨m + 1, wt i, _, w0, w1, hm, ⟨lt, fun hk => ?_⟩, ?_⟩
        · simp only at hk ⊢
          rw [lean_K, lix_at fw.1 c1 mt] at hk
          rw [lean_D, lix_at fw.1 c1 mt]
          have cc := wc.2 hk
          have fd := F1 (cD C (wt i) (f i (wt i)))
          rw [lean_of (by decide) fw.1 fw.2, lean_of (by decide) fd.1 fd.2]
          exact cc
        · funext p
          rw [wf]
          by_cases ep : p = wt i
          · rw [ep, inc_at, inc_at]; exact e
          · rw [inc_ne ep, inc_ne ep]
      · have e : lk C w (wt i) (f i (wt i) + 1) = lk C w (wt i) (f i (wt i)) := cntI_n fw.1 mt
        refine ⟨m, ?_⟩
        have eq : (fun p => lk C w p (f (i + 1) p)) = fun p => lk C w p (f i p) := by
          funext p
          rw [wf]
          by_cases ep : p = wt i
          · rw [ep, inc_at]; exact e
          · rw [inc_ne ep]
        rw [eq]; exact hm
  obtain ⟨m, hm⟩ := key (cT C).toNat (by omega)
  have eq : (fun p => lk C w p (f (cT C).toNat p)) = cS (leanC C w) := by
    funext p
    rw [O.2.2 _ (by omega) p]; rfl
  rw [eq] at hm
  refine valid_of W' hm ?_
  have := (Pth.fin W' m _ hm).2.2
  rw [lev_cS] at this
  omega
noncomputable def leanV (C : Cmp) (w : Wsh) (x : Int) : Int := if x = 0 then cT (leanC C w) else if x = 1 then bl (leanC C w) 17 else if x = 2 then seaP (leanC C w) w 0 else seaP (leanC C w) w 3
section MD
variable {sw : Bool} {g : Nat → Nat → Nat} {h : Nat → Int → Int} {C : Cmp} {c : Int → Int} {w : Wsh}
theorem MD_keep_spec (hG : Gok sw g) {K : (Nat → Int → Int) → Prop} (k : ∀ h', (∀ b, ¬ b = 91 → ¬ b = 92 → ¬ b = 93 → h' b = h b) → (∀ p, 0 ≤ p → p < 4 → h' 91 p = h 69 p) → (∀ i, 0 ≤ i → i < 36 → h' 92 i = h 70 i ∧ h' 93 i = h 71 i) → K h') : MD_keep g h K := by
  refine MD_keep_wp hG ?_
  have second : ∀ i : Int, i ≤ 36 → 0 ≤ i → ∀ h', (∀ b, ¬ b = 91 → ¬ b = 92 → ¬ b = 93 → h' b = h b) → (∀ p, 0 ≤ p → p < 4 → h' 91 p = h 69 p) → (∀ j, 0 ≤ j → j < i → h' 92 j = h 70 j ∧ h' 93 j = h 71 j) → MD_keep_27 g h' i K := by
    refine up_ind ?_ ?_
    · intro _ h' F A B
      exact MD_keep_27_wp hG ⟨fun _ => k h' F A B, fun z => absurd z (by omega)⟩
    · intro i hi ih i0 h' F A B
      refine MD_keep_27_wp hG ⟨fun z => absurd z (by omega), fun _ => ?_⟩
      simp (disch := omega) only [mwi, bd, forall_eq, upd_ob]
      refine ih (by omega) _ (fun b a1 a2 a3 => by rw [upd_ob a3, upd_ob a2]; exact F b a1 a2 a3) (fun p p0 p1 => by rw [upd_ob (by omega), upd_ob (by omega)]; exact A p p0 p1) (fun j j0 j1 => ?_)
      by_cases e : j = i
      · rw [e, upd_no (b := 92) (fun z => by omega), upd_at, upd_at, F 70 (by omega) (by omega) (by omega), F 71 (by omega) (by omega) (by omega)]
        exact ⟨rfl, rfl⟩
      · rw [upd_no (b := 92) (fun z => by omega), upd_ix e, upd_ix e, upd_no (b := 93) (fun z => by omega)]
        exact B j j0 (by omega)
  have first : ∀ i : Int, i ≤ 4 → 0 ≤ i → ∀ h', (∀ b, ¬ b = 91 → ¬ b = 92 → ¬ b = 93 → h' b = h b) → (∀ p, 0 ≤ p → p < i → h' 91 p = h 69 p) → MD_keep_2 g h' i K := by
    refine up_ind ?_ ?_
    · intro _ h' F A
      exact MD_keep_2_wp hG ⟨fun _ => second 0 (by omega) (Int.le_refl _) h' F A (fun j j0 j1 => by omega), fun z => absurd z (by omega)⟩
    · intro i hi ih i0 h' F A
      refine MD_keep_2_wp hG ⟨fun z => absurd z (by omega), fun _ => ?_⟩
      simp (disch := omega) only [mwi, bd, forall_eq]
      refine ih (by omega) _ (fun b a1 a2 a3 => by rw [upd_ob a1]; exact F b a1 a2 a3) (fun p p0 p1 => ?_)
      by_cases e : p = i
      · rw [e, upd_at, F 69 (by omega) (by omega) (by omega)]
      · rw [upd_ix e]; exact A p p0 (by omega)
  exact first 0 (by omega) (Int.le_refl _) h (fun _ _ _ _ => rfl) (fun p p0 p1 => by omega)
theorem MD_giveBack_spec (hG : Gok sw g) {h0 : Nat → Int → Int} (E : MdOk h0 C) (e0 : h 68 0 = cN C) (A : ∀ p, 0 ≤ p → p < 4 → h 91 p = h0 69 p) (B : ∀ i, 0 ≤ i → i < 36 → h 92 i = h0 70 i ∧ h 93 i = h0 71 i) {K : (Nat → Int → Int) → Prop} (k : ∀ h', (∀ b, ¬ (69 ≤ b ∧ b ≤ 73) → h' b = h b) → MdOk h' C → K h') : MD_giveBack g h K := by
  obtain ⟨R, L, V, iV, hn⟩ := E
  have W := V.1
  have hN := W.2.1
  refine MD_giveBack_wp hG ?_
  have second : ∀ i : Int, i ≤ 36 → 0 ≤ i → ∀ h', (∀ b, ¬ b = 69 → ¬ b = 70 → ¬ b = 71 → h' b = h b) → (∀ p, 0 ≤ p → p < 4 → h' 69 p = h0 69 p) → (∀ j, 0 ≤ j → j < i → h' 70 j = h0 70 j ∧ h' 71 j = h0 71 j) → MD_giveBack_27 g h' i K := by
    refine up_ind ?_ ?_
    · intro _ h' F A2 B2
      refine MD_giveBack_27_wp hG ⟨fun _ => ?_, fun z => absurd z (by omega)⟩
      have R' : MdR h' C := ⟨by rw [F 68 (by omega) (by omega) (by omega)]; exact e0, fun p p0 p1 => by rw [A2 p p0 p1]; exact R.2.1 p p0 p1, fun p k p0 p1 k0 k1 => by
        have := W.sz p
        rw [(B2 (9 * p + k) (by omega) (by omega)).1, (B2 (9 * p + k) (by omega) (by omega)).2]; exact R.2.2 p k p0 p1 k0 k1⟩
      refine MD_layPartners_spec hG R' W (fun h3 F3 P3 => ?_)
      have R3 : MdR h3 C := R'.keep (by rw [F3 68 (by omega)]) (F3 69 (by omega)) (F3 70 (by omega)) (F3 71 (by omega))
      refine MD_layVectors_spec hG R3 V iV P3 (fun h4 F4 L4 => ?_)
      refine k h4 (fun b nb => by rw [F4 b (by omega), F3 b (by omega), F b (by omega) (by omega) (by omega)]) ⟨R3.keep (by rw [F4 68 (by omega)]) (F4 69 (by omega)) (F4 70 (by omega)) (F4 71 (by omega)), ⟨fun p k p0 p1 k0 k1 => by rw [F4 72 (by omega)]; exact P3 p k p0 p1 k0 k1, L4⟩, V, iV, hn⟩
    · intro i hi ih i0 h' F A2 B2
      refine MD_giveBack_27_wp hG ⟨fun z => absurd z (by omega), fun _ => ?_⟩
      simp (disch := omega) only [mwi, bd, forall_eq, upd_ob]
      refine ih (by omega) _ (fun b a1 a2 a3 => by rw [upd_ob a3, upd_ob a2]; exact F b a1 a2 a3) (fun p p0 p1 => by rw [upd_ob (by omega), upd_ob (by omega)]; exact A2 p p0 p1) (fun j j0 j1 => ?_)
      by_cases e : j = i
      · rw [e, upd_no (b := 70) (fun z => by omega), upd_at, upd_at, F 92 (by omega) (by omega) (by omega), F 93 (by omega) (by omega) (by omega)]
        exact B i i0 hi
      · rw [upd_no (b := 70) (fun z => by omega), upd_ix e, upd_ix e, upd_no (b := 71) (fun z => by omega)]
        exact B2 j j0 (by omega)
  have first : ∀ i : Int, i ≤ 4 → 0 ≤ i → ∀ h', (∀ b, ¬ b = 69 → ¬ b = 70 → ¬ b = 71 → h' b = h b) → (∀ p, 0 ≤ p → p < i → h' 69 p = h0 69 p) → MD_giveBack_2 g h' i K := by
    refine up_ind ?_ ?_
    · intro _ h' F A2
      exact MD_giveBack_2_wp hG ⟨fun _ => second 0 (by omega) (Int.le_refl _) h' F A2 (fun j j0 j1 => by omega), fun z => absurd z (by omega)⟩
    · intro i hi ih i0 h' F A2
      refine MD_giveBack_2_wp hG ⟨fun z => absurd z (by omega), fun _ => ?_⟩
      simp (disch := omega) only [mwi, bd, forall_eq]
      refine ih (by omega) _ (fun b a1 a2 a3 => by rw [upd_ob a1]; exact F b a1 a2 a3) (fun p p0 p1 => ?_)
      by_cases e : p = i
      · rw [e, upd_at, F 91 (by omega) (by omega) (by omega)]; exact A i i0 hi
      · rw [upd_ix e]; exact A2 p p0 (by omega)
  exact first 0 (by omega) (Int.le_refl _) h (fun _ _ _ _ => rfl) (fun p p0 p1 => by omega)
end MD
