/-! tools for simp -/
theorem bd {a n : Int} {Q : Prop} (h : 0 ≤ a ∧ a < n) : ((0 ≤ a ∧ a < n) ∧ Q) = Q := by simp [h]
theorem nz {a : Int} {Q : Prop} (h : ¬ a = 0) : ((¬ a = 0) ∧ Q) = Q := by simp [h]
theorem b01 {a : Int} {Q : Prop} (h : a = 0 ∨ a = 1) : ((a = 0 ∨ a = 1) ∧ Q) = Q := by simp [h]
theorem tdv {a b : Int} (h : 0 ≤ a) : a.tdiv b = a / b := Int.tdiv_eq_ediv_of_nonneg h
theorem tmd {a b : Int} (h : 0 ≤ a) : a.tmod b = a % b := Int.tmod_eq_emod_of_nonneg h
/-! the model: what its cells hold -/
def MdR (h : Nat → Int → Int) (C : Cmp) : Prop := h 68 0 = cN C ∧ (∀ p, 0 ≤ p → p < 4 → h 69 p = cS C p) ∧ ∀ p k, 0 ≤ p → p < cN C → 0 ≤ k → k < cS C p → h 70 (9 * p + k) = cK C p k ∧ h 71 (9 * p + k) = cD C p k
def MdL (h : Nat → Int → Int) (C : Cmp) : Prop := (∀ p k, 0 ≤ p → p < cN C → 0 ≤ k → k < cS C p → h 72 (9 * p + k) = cPt C p k) ∧ ∀ p k q, 0 ≤ p → p < cN C → 0 ≤ k → k < cS C p → 0 ≤ q → q < cN C → h 73 (4 * (9 * p + k) + q) = vec C p k q
def MdW (h : Nat → Int → Int) (w : Wsh) : Prop := h 68 7 = w.1 ∧ h 68 8 = w.2.1 ∧ (∀ p, 0 ≤ p → p < 4 → h 74 p = w.2.2 p) ∧ 0 ≤ w.1 ∧ w.1 ≤ 3 ∧ 0 ≤ w.2.1 ∧ w.2.1 ≤ 36
/-- a computation with its links, in the model -/
def MdOk (h : Nat → Int → Int) (C : Cmp) : Prop := MdR h C ∧ MdL h C ∧ Valid C ∧ IsV C (vec C) ∧ 1 ≤ cN C
/-- the cut that is taken -/
def At (h : Nat → Int → Int) (C : Cmp) (c : Int → Int) : Prop := ∀ p, 0 ≤ p → p < cN C → h 81 p = c p
theorem MdR.keep {h h' : Nat → Int → Int} {C : Cmp} (R : MdR h C) (h0 : h' 68 0 = h 68 0) (h1 : h' 69 = h 69) (h2 : h' 70 = h 70) (h3 : h' 71 = h 71) : MdR h' C := by
  unfold MdR; rw [h0, h1, h2, h3]; exact R
theorem MdL.keep {h h' : Nat → Int → Int} {C : Cmp} (R : MdL h C) (h2 : h' 72 = h 72) (h3 : h' 73 = h 73) : MdL h' C := by
  unfold MdL; rw [h2, h3]; exact R
theorem MdW.keep {h h' : Nat → Int → Int} {w : Wsh} (R : MdW h w) (h0 : h' 68 7 = h 68 7) (h1 : h' 68 8 = h 68 8) (h2 : h' 74 = h 74) : MdW h' w := by
  unfold MdW; rw [h0, h1, h2]; exact R
theorem MdOk.keep {h h' : Nat → Int → Int} {C : Cmp} (E : MdOk h C) (h0 : h' 68 0 = h 68 0) (hk : ∀ b, 69 ≤ b → b ≤ 73 → h' b = h b) : MdOk h' C := by
  obtain ⟨R, L, V, iV, hn⟩ := E
  exact ⟨R.keep h0 (hk _ (by omega) (by omega)) (hk _ (by omega) (by omega)) (hk _ (by omega) (by omega)), L.keep (hk _ (by omega) (by omega)) (hk _ (by omega) (by omega)), V, iV, hn⟩
theorem full_in {C : Cmp} (W : Wf C) : In C (cS C) := fun p => ⟨(W.sz p).1, Int.le_refl _⟩
section MD
variable {sw : Bool} {g : Nat → Nat → Nat} {h : Nat → Int → Int} {C : Cmp} {c : Int → Int} {w : Wsh}
theorem MD_of_spec (hG : Gok sw g) {p x q m : Int} {K : Int → (Nat → Int → Int) → Prop} (p0 : 0 ≤ p) (p4 : p < 4) (m0 : 0 ≤ m) (m9 : m ≤ 9) (R : ∀ i, 0 ≤ i → i < m → h 70 (9 * p + i) = cK C p i ∧ h 71 (9 * p + i) = cD C p i) (k : K (cOf C p x q m) h) : MD_of g h p x q m K := by
  refine MD_of_wp hG ?_
  have key : ∀ i : Int, i ≤ m → ∀ u, 0 ≤ i → MD_of_6 g h p x q m (cOf C p x q i) i u K := by
    refine up_ind ?_ ?_
    · intro u _
      exact MD_of_6_wp hG ⟨fun _ => k, fun z => absurd z (by omega)⟩
    · intro i hi ih u i0
      have r := R i i0 hi
      have cr := cOf_le (C := C) (p := p) (K := x) (q := q) i0
      have ih := fun u => ih u (by omega)
      rw [cOf_s i0] at ih
      refine MD_of_6_wp hG ⟨fun z => absurd z (by omega), fun _ => ?_⟩
      simp (disch := omega) only [mwi, forall_eq, bd, r.1, r.2]
      refine ⟨fun n => ?_, fun y => ⟨fun n => ?_, fun y2 => ?_⟩⟩
      · rw [if_neg (fun z => n z.1)] at ih; simpa using ih _
      · rw [if_neg (fun z => n z.2)] at ih; simpa using ih _
      · rw [if_pos ⟨y, y2⟩] at ih; exact ih _
  exact key 0 m0 none (Int.le_refl _)
theorem MD_newOf_spec (hG : Gok sw g) {p x q m : Int} {K : Int → (Nat → Int → Int) → Prop} (p0 : 0 ≤ p) (p4 : p < 4) (m0 : 0 ≤ m) (m9 : m ≤ 9) (R : ∀ i, 0 ≤ i → i < m → h 78 (9 * p + i) = cK C p i ∧ h 79 (9 * p + i) = cD C p i) (k : K (cOf C p x q m) h) : MD_newOf g h p x q m K := by
  refine MD_newOf_wp hG ?_
  have key : ∀ i : Int, i ≤ m → ∀ u, 0 ≤ i → MD_newOf_6 g h p x q m (cOf C p x q i) i u K := by
    refine up_ind ?_ ?_
    · intro u _
      exact MD_newOf_6_wp hG ⟨fun _ => k, fun z => absurd z (by omega)⟩
    · intro i hi ih u i0
      have r := R i i0 hi
      have cr := cOf_le (C := C) (p := p) (K := x) (q := q) i0
      have ih := fun u => ih u (by omega)
      rw [cOf_s i0] at ih
      refine MD_newOf_6_wp hG ⟨fun z => absurd z (by omega), fun _ => ?_⟩
      simp (disch := omega) only [mwi, forall_eq, bd, r.1, r.2]
      refine ⟨fun n => ?_, fun y => ⟨fun n => ?_, fun y2 => ?_⟩⟩
      · rw [if_neg (fun z => n z.1)] at ih; simpa using ih _
      · rw [if_neg (fun z => n z.2)] at ih; simpa using ih _
      · rw [if_pos ⟨y, y2⟩] at ih; exact ih _
  exact key 0 m0 none (Int.le_refl _)
theorem MdR.of (R : MdR h C) {p m : Int} (p0 : 0 ≤ p) (p1 : p < cN C) (hm : m ≤ cS C p) : ∀ i, 0 ≤ i → i < m → h 70 (9 * p + i) = cK C p i ∧ h 71 (9 * p + i) = cD C p i := fun i i0 i1 => R.2.2 p i p0 p1 i0 (by omega)
theorem sumI_cS (W : Wf C) : sumI (cS C) (cN C) = cT C := (sum_lev W (full_in W)).trans lev_cS
theorem sumS_r (W : Wf C) {p : Int} (p0 : 0 ≤ p) : 0 ≤ sumI (cS C) p ∧ sumI (cS C) p ≤ 9 * p := by
  refine int_ind (P := fun p => 0 ≤ sumI (cS C) p ∧ sumI (cS C) p ≤ 9 * p) ?_ ?_ p p0
  · exact ⟨Int.le_refl _, Int.le_refl _⟩
  · intro i i0 ih
    rw [sumI_s i0]
    have := W.sz i
    omega
theorem MD_eventsAll_spec (hG : Gok sw g) (R : MdR h C) (W : Wf C) {K : Int → (Nat → Int → Int) → Prop} (k : K (cT C) h) : MD_eventsAll g h K := by
  refine MD_eventsAll_wp hG ?_
  have hN := W.2.1
  have key : ∀ p : Int, p ≤ cN C → 0 ≤ p → MD_eventsAll_4 g h (sumI (cS C) p) p K := by
    refine up_ind ?_ ?_
    · intro _
      exact MD_eventsAll_4_wp hG ⟨fun _ => by rw [sumI_cS W]; exact k, fun z => absurd z (by rw [R.1]; omega)⟩
    · intro p hp ih p0
      have ih := ih (by omega)
      rw [sumI_s p0] at ih
      have a := sumS_r W p0
      have b := W.sz p
      refine MD_eventsAll_4_wp hG ⟨fun z => absurd z (by rw [R.1]; omega), fun _ => ?_⟩
      simp (disch := omega) only [R.2.1, mwi, forall_eq, bd]
      exact ih
  exact key 0 W.1 (Int.le_refl _)
theorem MD_isFull_spec (hG : Gok sw g) (R : MdR h C) (W : Wf C) {p : Int} {K : Int → (Nat → Int → Int) → Prop} (p0 : 0 ≤ p) (p1 : p < cN C) (kt : cS C p = 9 ∨ cT C = 16 → K 1 h) (kf : ¬ (cS C p = 9 ∨ cT C = 16) → K 0 h) : MD_isFull g h p K := by
  have hN := W.2.1
  refine MD_isFull_wp hG ?_
  simp (disch := omega) only [R.2.1, bd]
  exact ⟨fun y => kt (Or.inl y), fun n => MD_eventsAll_spec hG R W ⟨fun n2 => kf (fun z => z.elim n n2), fun y => kt (Or.inr y)⟩⟩
theorem MD_nthOf_spec (hG : Gok sw g) (R : MdR h C) (W : Wf C) {p x q b : Int} {K : Int → (Nat → Int → Int) → Prop} (p0 : 0 ≤ p) (p1 : p < cN C) (k : K (cNth C p x q b (cS C p)) h) : MD_nthOf g h p x q b K := by
  have hN := W.2.1
  have hs := W.sz p
  refine MD_nthOf_wp hG ?_
  have key : ∀ i : Int, i ≤ cS C p → ∀ u, 0 ≤ i → cNth C p x q b i = -1 → MD_nthOf_3 g h p x q b i u K := by
    refine up_ind ?_ ?_
    · intro u _ hz
      refine MD_nthOf_3_wp hG ⟨⟨p0, by omega⟩, fun _ => by rw [hz] at k; exact k, fun z => absurd z (by rw [R.2.1 p p0 (by omega)]; omega)⟩
    · intro i hi ih u i0 hz
      have r := R.2.2 p i p0 p1 i0 hi
      have ih := fun u e => ih u (by omega) e
      rw [cNth_s i0, hz] at ih
      refine MD_nthOf_3_wp hG ⟨⟨p0, by omega⟩, fun z => absurd z (by rw [R.2.1 p p0 (by omega)]; omega), fun _ => ?_⟩
      simp (disch := omega) only [mwi, forall_eq, bd, r.1, r.2]
      refine ⟨fun n => ih _ (if_neg (fun z => n z.2.1)), fun y => ⟨fun n => ih _ (if_neg (fun z => n z.2.2.1)), fun y2 => ?_⟩⟩
      refine MD_of_spec hG p0 (by omega) i0 (by omega) (R.of p0 p1 (by omega)) ⟨fun n => ih _ (if_neg (fun z => n z.2.2.2)), fun y3 => ?_⟩
      have e : cNth C p x q b (cS C p) = i := cNth_is ⟨i0, hi, y, y2, y3⟩
      rw [e] at k
      exact k
  exact key 0 hs.1 none (Int.le_refl _) rfl
end MD
