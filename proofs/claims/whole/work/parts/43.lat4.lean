/-! the lattice's own methods -/
theorem EvOk.keep {e : Nat} {h h' : Nat → Int → Int} {C : Cmp} (E : EvOk e h C) (hk : ∀ b, b = 1 ∨ (e ≤ b ∧ b ≤ e + 8) → h' b = h b) : EvOk e h' C := by
  obtain ⟨E1, E2, E3, E4, E5, E6⟩ := E
  refine ⟨E1.keep (hk _ (Or.inr (by omega))) (hk _ (Or.inr (by omega))) (hk _ (Or.inr (by omega))) (hk _ (Or.inr (by omega))), ?_, E3, E4, E5, ?_⟩
  · unfold EvL at *
    rw [hk (e + 4) (Or.inr (by omega)), hk (e + 5) (Or.inr (by omega)), hk (e + 6) (Or.inr (by omega)), hk (e + 7) (Or.inr (by omega))]
    exact E2
  · unfold Tens at *
    rw [hk 1 (Or.inl rfl)]
    exact E6
theorem lt_ev {a e : Nat} (ha : LtId a) (he : EvId e) : (e + 8 < a ∨ a + 6 < e) ∧ 2 < a ∧ 2 < e := by
  unfold LtId at ha; unfold EvId at he; omega
theorem emod_le0 {x b : Int} (h : 0 ≤ x) (hb : 1 ≤ b) : x % b ≤ x := by
  have := Int.mul_ediv_add_emod x b
  have := Int.mul_nonneg (show 0 ≤ b by omega) (Int.ediv_nonneg h (show 0 ≤ b by omega))
  omega
theorem le_mul1 {a b : Int} (h : 0 ≤ a) (hb : 1 ≤ b) : a ≤ a * b := by
  have := Int.mul_le_mul_of_nonneg_left hb h
  omega
theorem ctI_lt {C : Cmp} (W : Wf C) {x p k : Int} (x0 : 0 ≤ x) (p0 : 0 ≤ p) (p4 : p < 4) (h : x < st C p * k) : ctI C x p < k := by
  have w1 := wid_r W 1; have w2 := wid_r W 2; have w3 := wid_r W 3
  have a3 : 0 ≤ x / wid C 3 := Int.ediv_nonneg x0 (by omega)
  have a2 : 0 ≤ x / wid C 3 / wid C 2 := Int.ediv_nonneg a3 (by omega)
  unfold st at h
  unfold ctI
  rcases (show p = 0 ∨ p = 1 ∨ p = 2 ∨ p = 3 by omega) with rfl | rfl | rfl | rfl
  · rw [if_pos rfl] at h ⊢
    have l3 := Int.ediv_lt_of_lt_mul (a := x) (b := k * wid C 1 * wid C 2) (c := wid C 3) (by omega) (by rw [show k * wid C 1 * wid C 2 * wid C 3 = wid C 1 * wid C 2 * wid C 3 * k by grind]; exact h)
    have l2 := Int.ediv_lt_of_lt_mul (c := wid C 2) (by omega) l3
    exact Int.ediv_lt_of_lt_mul (c := wid C 1) (by omega) l2
  · rw [if_neg (by omega), if_pos rfl] at h ⊢
    have l3 := Int.ediv_lt_of_lt_mul (a := x) (b := k * wid C 2) (c := wid C 3) (by omega) (by rw [show k * wid C 2 * wid C 3 = wid C 2 * wid C 3 * k by grind]; exact h)
    have l2 := Int.ediv_lt_of_lt_mul (c := wid C 2) (by omega) l3
    exact Int.lt_of_le_of_lt (emod_le0 a2 w1.1) l2
  · rw [if_neg (by omega), if_neg (by omega), if_pos rfl] at h ⊢
    have l3 := Int.ediv_lt_of_lt_mul (a := x) (b := k) (c := wid C 3) (by omega) (by rw [Int.mul_comm]; exact h)
    exact Int.lt_of_le_of_lt (emod_le0 a3 w2.1) l3
  · rw [if_neg (by omega), if_neg (by omega), if_neg (by omega)] at h
    rw [if_neg (by omega), if_neg (by omega), if_neg (by omega), if_pos rfl]
    exact Int.lt_of_le_of_lt (emod_le0 x0 w3.1) (by omega)
/-- the places of the cuts of the processes behind p -/
def stx (C : Cmp) (p : Int) : Int := if p < 0 then NP C else st C p
theorem stx_s {C : Cmp} {p : Int} (p0 : 0 ≤ p) (p4 : p < 4) : st C p * wid C p = stx C (p - 1) := by
  unfold stx
  rcases (show p = 0 ∨ p = 1 ∨ p = 2 ∨ p = 3 by omega) with rfl | rfl | rfl | rfl <;> simp [st, NP] <;> grind
theorem stx_le {C : Cmp} (W : Wf C) {p : Int} (p4 : p < 4) : 1 ≤ stx C p ∧ stx C p ≤ NP C := by
  have n1 := NP_le W
  by_cases hn : p < 0
  · unfold stx; rw [if_pos hn]; omega
  · have key : ∀ q, 0 ≤ q → q < 4 → st C q ≤ NP C := by
      refine int_ind ?_ ?_
      · intro _
        have := stx_s (C := C) (p := 0) (by omega) (by omega)
        unfold stx at this
        rw [if_pos (by omega)] at this
        have w := wid_r W 0
        have s := st_pos W 0
        rw [← this]
        exact le_mul1 (by omega) w.1
      · intro q hq ih h4
        have := stx_s (C := C) (p := q + 1) (by omega) (by omega)
        unfold stx at this
        rw [if_neg (by omega), show q + 1 - 1 = q by omega] at this
        have w := wid_r W (q + 1)
        have s := st_pos W (q + 1)
        have := le_mul1 (a := st C (q + 1)) (by omega) w.1
        have := ih (by omega)
        omega
    unfold stx; rw [if_neg hn]
    exact ⟨st_pos W p, key p (by omega) p4⟩
/-- the places' numbers -/
def LtN (a : Nat) (h : Nat → Int → Int) (C : Cmp) : Prop := h a 2 = NP C ∧ (∀ p, 0 ≤ p → p < cN C → h (a + 2) p = st C p) ∧ ∀ i, 0 ≤ i → i < NP C → h (a + 3) i = en (cN C) (ctI C i)
section LT
variable {sw : Bool} {g : Nat → Nat → Nat} {h : Nat → Int → Int} {a e : Nat} {C : Cmp} {c : Int → Int}
theorem LT_numberPlaces_spec (hG : Gok sw g) (ha : LtId a) (he : EvId e) (E : EvOk e h C) {K : (Nat → Int → Int) → Prop} (k : ∀ h', (∀ b, ¬ b = a → ¬ b = a + 2 → ¬ b = a + 3 → h' b = h b) → (∀ i, ¬ i = 2 → h' a i = h a i) → LtN a h' C → K h') : LT_numberPlaces g h a e K := by
  have W := E.2.2.1.1
  have hN := W.2.1
  have hn := E.2.2.2.2.1
  have dj := lt_ev ha he
  have nle := NP_le W
  refine LT_numberPlaces_wp hG ha he ?_
  rintro h1 rfl
  rintro h2 rfl
  have e0 : mvUpd (mvUpd h (a + 3) 0 0) a 2 1 e 0 = cN C := by rw [upd_ob (by omega), upd_ob (by omega)]; exact E.1.1
  rw [e0, mwi (z := cN C - 1) (by omega) (by omega)]
  rintro v3 rfl
  -- what holds while the places of p's cuts are numbered
  let Inv : Int → Int → (Nat → Int → Int) → Prop := fun p m h' => (∀ b, ¬ b = a → ¬ b = a + 2 → ¬ b = a + 3 → h' b = h b) ∧ (∀ i, ¬ i = 2 → h' a i = h a i) ∧ (∀ q, p < q → q < cN C → h' (a + 2) q = st C q) ∧ (∀ i, 0 ≤ i → i < m → h' (a + 3) i = en (cN C) (ctI C i))
  have inner : ∀ p, 0 ≤ p → p < cN C → (∀ h', Inv (p - 1) (stx C (p - 1)) h' → h' a 2 = stx C (p - 1) → ∀ u, LT_numberPlaces_19 g h' a e (p - 1) u K) → ∀ i, i ≤ stx C (p - 1) → st C p ≤ i → ∀ h', Inv (p - 1) i h' → h' a 2 = st C p → LT_numberPlaces_38 g h' a e p i K := by
    intro p p0 p1 next
    have sl := stx_le W (p := p - 1) (by omega)
    have sp := st_pos W p
    have ss := stx_s (C := C) (p := p) p0 (by omega)
    have hw := wid_r W p
    have hb : ∀ h', Inv (p - 1) 0 h' → mw (h' (a + 2) p * mw (h' (e + 1) p + 1)) = stx C (p - 1) ∧ mw (h' (e + 1) p + 1) = wid C p := by
      intro h' I
      have a1 : h' (e + 1) p = cS C p := by rw [I.1 (e + 1) (by omega) (by omega) (by omega)]; exact E.1.2.2.1 p p0 (by omega)
      have a2 : mw (h' (e + 1) p + 1) = wid C p := by rw [a1]; unfold wid at *; exact mwi (by omega) (by omega)
      exact ⟨by rw [a2, I.2.2.1 p (by omega) p1, ss]; exact mwi (by omega) (by omega), a2⟩
    refine up_ind ?_ ?_
    · intro s1 h' I hm
      obtain ⟨b1, b2⟩ := hb h' ⟨I.1, I.2.1, I.2.2.1, fun i i0 i1 => absurd i1 (by omega)⟩
      refine LT_numberPlaces_38_wp hG ha he ⟨⟨p0, by omega⟩, ⟨p0, by omega⟩, fun _ => ⟨⟨p0, by omega⟩, ?_⟩, fun z => absurd z (by rw [b1]; omega)⟩
      rintro h1 rfl
      rw [mwi (z := p + -1) (by omega) (by omega), show p + -1 = p - 1 by omega, hm, b2, ss, mwi (by omega) (by omega)]
      refine next _ ⟨fun b n1 n2 n3 => ?_, fun i hi => ?_, fun q q0 q1 => ?_, fun i i0 i1 => ?_⟩ (by rw [upd_at]) _
      · rw [upd_ob n1]; exact I.1 b n1 n2 n3
      · rw [upd_ix hi]; exact I.2.1 i hi
      · rw [upd_ob (by omega)]; exact I.2.2.1 q q0 q1
      · rw [upd_ob (by omega)]; exact I.2.2.2 i i0 i1
    · intro i hi ih s1 h' I hm
      obtain ⟨b1, -⟩ := hb h' ⟨I.1, I.2.1, I.2.2.1, fun i i0 i1 => absurd i1 (by omega)⟩
      have sp2 := I.2.2.1 p (by omega) p1
      refine LT_numberPlaces_38_wp hG ha he ⟨⟨p0, by omega⟩, ⟨p0, by omega⟩, fun z => absurd z (by rw [b1]; omega), fun _ => ⟨⟨p0, by omega⟩, ?_⟩⟩
      rw [sp2, mwi (z := i - st C p) (by omega) (by omega)]
      have lt : ctI C (i - st C p) p < cS C p := by
        refine ctI_lt W (by omega) p0 (by omega) ?_
        have : st C p * cS C p = st C p * wid C p - st C p := by unfold wid; grind
        omega
      have ci := (ctI_inc W (i := i - st C p) (by omega) (by omega) p0 (by omega) lt).1
      rw [show i - st C p + st C p = i by omega] at ci
      have E' := E.keep (h' := h') (fun b hb => I.1 b (by omega) (by omega) (by omega))
      have c0 := ctI_in W (x := i - st C p) (by omega) (by omega)
      refine ⟨⟨by omega, by omega⟩, ?_⟩
      rw [I.2.2.2 _ (by omega) (by omega)]
      have eN := E'.1.1
      rw [← eN]
      refine EV_with_spec hG he (by omega) E'.2.2.2.2.2 (c0.dg W) p0 (by omega) ⟨⟨by omega, by omega⟩, ?_⟩
      rintro h4 rfl
      rw [eN, ← ci, mwi (z := i + 1) (by omega) (by omega)]
      refine ih (by omega) _ ⟨fun b n1 n2 n3 => ?_, fun j hj => ?_, fun q q0 q1 => ?_, fun j j0 j1 => ?_⟩ ?_
      · rw [upd_ob n3]; exact I.1 b n1 n2 n3
      · rw [upd_ob (by omega)]; exact I.2.1 j hj
      · rw [upd_ob (by omega)]; exact I.2.2.1 q q0 q1
      · by_cases ej : j = i
        · rw [ej, upd_at]
        · rw [upd_ix ej]; exact I.2.2.2 j j0 (by omega)
      · rw [upd_ob (by omega)]; exact hm
  have outer : ∀ m : Int, 0 ≤ m → m ≤ cN C → ∀ h', Inv (m - 1) (stx C (m - 1)) h' → h' a 2 = stx C (m - 1) → ∀ u, LT_numberPlaces_19 g h' a e (m - 1) u K := by
    refine int_ind ?_ ?_
    · intro _ h' I hm u
      refine LT_numberPlaces_19_wp hG ha he ⟨fun _ => k h' I.1 I.2.1 ⟨hm, fun p p0 p1 => I.2.2.1 p (by omega) p1, fun i i0 i1 => I.2.2.2 i i0 i1⟩, fun z => absurd z (by omega)⟩
    · intro m m0 ih h1 h' I hm u
      rw [show m + 1 - 1 = m by omega] at I hm ⊢
      have sp := stx_le W (p := m) (by omega)
      have em : stx C m = st C m := by unfold stx; rw [if_neg (by omega)]
      rw [em] at I hm sp
      refine LT_numberPlaces_19_wp hG ha he ⟨fun z => absurd z (by omega), fun _ => ⟨⟨m0, by omega⟩, ?_⟩⟩
      rintro h1 rfl
      rintro v2 rfl
      rw [upd_ob (b := a) (a := a + 2) (by omega), hm]
      have ss := stx_s (C := C) (p := m) m0 (by omega)
      have w := wid_r W m
      refine inner m m0 (by omega) (fun h'' I' hm' u' => ih (by omega) h'' I' hm' u') _ ?_ (Int.le_refl _) _ ⟨fun b n1 n2 n3 => ?_, fun i hi => ?_, fun q q0 q1 => ?_, fun i i0 i1 => ?_⟩ ?_
      · rw [← ss]; exact le_mul1 (by omega) w.1
      · rw [upd_ob n2]; exact I.1 b n1 n2 n3
      · rw [upd_ob (by omega)]; exact I.2.1 i hi
      · by_cases eq : q = m
        · rw [eq, upd_at]
        · rw [upd_ix eq]; exact I.2.2.1 q (by omega) q1
      · rw [upd_ob (by omega)]; exact I.2.2.2 i i0 i1
      · rw [upd_ob (by omega)]; exact hm
  have o := outer (cN C) W.1 (Int.le_refl _)
  have s1 : stx C (cN C - 1) = 1 := by
    have z : ∀ p, cN C ≤ p → wid C p = 1 := fun p hp => by unfold wid; rw [W.2.2.2.1 p (by omega)]; rfl
    unfold stx st
    rcases (show cN C = 1 ∨ cN C = 2 ∨ cN C = 3 ∨ cN C = 4 by omega) with hc | hc | hc | hc
    · have := z 1 (by omega); have := z 2 (by omega); have := z 3 (by omega)
      rw [hc]; simp [*]
    · have := z 2 (by omega); have := z 3 (by omega)
      rw [hc]; simp [*]
    · have := z 3 (by omega)
      rw [hc]; simp [*]
    · rw [hc]; simp
  rw [s1] at o
  refine o _ ⟨fun b n1 n2 n3 => ?_, fun i hi => ?_, fun q q0 q1 => absurd q1 (by omega), fun i i0 i1 => ?_⟩ ?_ _
  · rw [upd_ob n1, upd_ob n3]
  · rw [upd_ix hi, upd_ob (by omega)]
  · rw [show i = 0 by omega, upd_ob (by omega), upd_at, ctI_0 W]
    unfold en
    simp
  · rw [upd_at]
end LT
