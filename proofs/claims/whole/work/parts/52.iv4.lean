/-! the r-th interval of a process -/
noncomputable def nIn (C : Cmp) (w : Wsh) (p : Int) : Int := if 0 ≤ p ∧ p < cN C then nIv C w p (cS C p + 1) else 1
noncomputable def bgn (C : Cmp) (w : Wsh) (p r : Int) : Int := fst (fun b => ivB C w p b ∧ nIv C w p b = r) (cS C p + 1)
def endP (C : Cmp) (w : Wsh) (p r x : Int) : Prop := okv C w p x ∧ nIv C w p (x + 1) = r + 1 ∧ (x = cS C p ∨ ¬ okv C w p (x + 1))
noncomputable def endv (C : Cmp) (w : Wsh) (p r : Int) : Int := fst (endP C w p r) (cS C p + 1)
theorem bgn_ok {C : Cmp} (W : Wf C) {w : Wsh} {p r : Int} (r0 : 0 ≤ r) (r1 : r < nIv C w p (cS C p + 1)) : 0 ≤ bgn C w p r ∧ bgn C w p r ≤ cS C p ∧ ivB C w p (bgn C w p r) ∧ nIv C w p (bgn C w p r) = r := by
  have hs := W.sz p
  obtain ⟨i, i0, i1, i2, i3⟩ := cntI_at (P := ivB C w p) (k := cS C p + 1) (by omega) r0 r1
  rcases fst_cases (P := fun b => ivB C w p b ∧ nIv C w p b = r) (n := cS C p + 1) (by omega) with ⟨-, z⟩ | ⟨a1, a2, a3, -⟩
  · exact absurd ⟨i2, i3⟩ (z i i0 i1)
  · exact ⟨a1, by unfold bgn; omega, a3.1, a3.2⟩
/-- from a prefix of the r-th interval on, its end -/
theorem end_ex {C : Cmp} {w : Wsh} {p r : Int} : ∀ k, k ≤ cS C p → 0 ≤ k → okv C w p k → nIv C w p (k + 1) = r + 1 → ∃ x, k ≤ x ∧ x ≤ cS C p ∧ endP C w p r x ∧ ∀ y, k ≤ y → y < x → okv C w p (y + 1) := by
  refine up_ind ?_ ?_
  · intro _ o n
    exact ⟨_, Int.le_refl _, Int.le_refl _, ⟨o, n, Or.inl rfl⟩, fun y y0 y1 => by omega⟩
  · intro k hk ih k0 o n
    by_cases c : okv C w p (k + 1)
    · have nb : ¬ ivB C w p (k + 1) := fun z => by
        rcases z.2 with z | z
        · omega
        · rw [show k + 1 - 1 = k by omega] at z; exact z o
      have e : nIv C w p (k + 1 + 1) = nIv C w p (k + 1) := cntI_n (by omega) nb
      obtain ⟨x, x0, x1, x2, x3⟩ := ih (by omega) c (by rw [e]; exact n)
      exact ⟨x, by omega, x1, x2, fun y y0 y1 => by
        by_cases ey : y = k
        · rw [ey]; exact c
        · exact x3 y (by omega) y1⟩
    · exact ⟨k, Int.le_refl _, by omega, ⟨o, n, Or.inr c⟩, fun y y0 y1 => by omega⟩
theorem end_uniq {C : Cmp} {w : Wsh} {p r x y : Int} (x0 : 0 ≤ x) (y1 : y ≤ cS C p) (hx : endP C w p r x) (hy : endP C w p r y) (h : x < y) : False := by
  obtain ⟨a1, a2, a3⟩ := hx
  obtain ⟨b1, b2, -⟩ := hy
  rcases a3 with z | z
  · omega
  · have := nIv_lt x0 z y (by omega) h b1
    omega
theorem endv_at {C : Cmp} {w : Wsh} {p r x : Int} (x0 : 0 ≤ x) (x1 : x ≤ cS C p) (hx : endP C w p r x) : endv C w p r = x := by
  refine fst_at x0 (by omega) hx (fun q q0 q1 hq => ?_)
  exact end_uniq q0 x1 hq hx q1
theorem endv_ok {C : Cmp} (W : Wf C) {w : Wsh} {p r : Int} (r0 : 0 ≤ r) (r1 : r < nIv C w p (cS C p + 1)) : 0 ≤ endv C w p r ∧ endv C w p r ≤ cS C p ∧ endP C w p r (endv C w p r) := by
  obtain ⟨b0, b1, b2, b3⟩ := bgn_ok W r0 r1
  have e : nIv C w p (bgn C w p r + 1) = nIv C w p (bgn C w p r) + 1 := cntI_y b0 b2
  obtain ⟨x, x0, x1, x2, -⟩ := end_ex (C := C) (w := w) (p := p) (r := r) _ b1 b0 b2.1 (by omega)
  rw [endv_at (by omega) x1 x2]
  exact ⟨by omega, x1, x2⟩
theorem IvOk.at {h : Nat → Int → Int} {C : Cmp} (W : Wf C) {w : Wsh} (I : IvOk h C w) {p r : Int} (p0 : 0 ≤ p) (p1 : p < cN C) (r0 : 0 ≤ r) (r1 : r < nIv C w p (cS C p + 1)) : h 38 (5 * p + r) = bgn C w p r ∧ h 39 (5 * p + r) = endv C w p r := by
  obtain ⟨b0, b1, b2, b3⟩ := bgn_ok W r0 r1
  obtain ⟨x0, x1, x2, x3, x4⟩ := endv_ok W r0 r1
  obtain ⟨-, R1, R2⟩ := I p p0 p1
  have u := R1 _ b0 (by omega) b2
  rw [b3] at u
  have v := R2 (endv C w p r) ⟨x0, by omega, x2, by rcases x4 with z | z; exact Or.inl (by omega); exact Or.inr z⟩
  rw [x3, show 5 * p + (r + 1) - 1 = 5 * p + r by omega] at v
  exact ⟨u, v⟩
/-- the intervals of a choice, two by two -/
def ovl (C : Cmp) (p q b x : Int) : Prop := b = 0 ∨ x = cS C q ∨ b - 1 < vec C q x p
section IV
variable {sw : Bool} {g : Nat → Nat → Nat} {h : Nat → Int → Int} {e : Nat} {C : Cmp} {c : Int → Int} {w : Wsh}
/-- a choice of intervals stands in cell 40 -/
def Cho (h : Nat → Int → Int) (C : Cmp) (w : Wsh) (d : Int → Int) : Prop := ∀ p, 0 ≤ p → p < cN C → h 40 p = d p ∧ 0 ≤ d p ∧ d p < nIv C w p (cS C p + 1)
theorem IV_beginsBeforeEnd_spec (hG : Gok sw g) (he : EvId e) (E : EvOk e h C) (I : IvOk h C w) {d : Int → Int} (D : Cho h C w d) {p q : Int} {K : Int → (Nat → Int → Int) → Prop} (p0 : 0 ≤ p) (p1 : p < cN C) (q0 : 0 ≤ q) (q1 : q < cN C) (hne : ¬ p = q)
    (kt : ovl C p q (bgn C w p (d p)) (endv C w q (d q)) → K 1 h) (kf : ¬ ovl C p q (bgn C w p (d p)) (endv C w q (d q)) → K 0 h) : IV_beginsBeforeEnd g h e p q K := by
  have W := E.2.2.1.1
  have hN := W.2.1
  have sp := W.sz p
  have sq := W.sz q
  obtain ⟨dp, dp0, dp1⟩ := D p p0 p1
  obtain ⟨dq, dq0, dq1⟩ := D q q0 q1
  have np := (nIv_le (C := C) (w := w) (p := p) (k := cS C p + 1) (by omega)).2.1
  have nq := (nIv_le (C := C) (w := w) (p := q) (k := cS C q + 1) (by omega)).2.1
  obtain ⟨b0, b1, -, -⟩ := bgn_ok W dp0 dp1
  obtain ⟨x0, x1, -⟩ := endv_ok W dq0 dq1
  refine IV_beginsBeforeEnd_wp hG he ?_
  rw [dp, dq, row5 p0 (by omega) dp0 (by omega), row5 q0 (by omega) dq0 (by omega), (I.at W p0 p1 dp0 dp1).1, (I.at W q0 q1 dq0 dq1).2, E.1.2.2.1 q q0 (by omega)]
  refine ⟨⟨p0, by omega⟩, ⟨by omega, by omega⟩, ?_⟩
  rintro v1 rfl
  refine ⟨⟨q0, by omega⟩, ⟨by omega, by omega⟩, ?_⟩
  rintro v2 rfl
  generalize hb : bgn C w p (d p) = b at *
  generalize hx : endv C w q (d q) = x at *
  refine ⟨fun z => kt (Or.inl z), fun nb => ⟨⟨q0, by omega⟩, fun nx => ⟨fun _ => ?_, fun z => absurd z hne⟩, fun z => kt (Or.inr (Or.inl z))⟩⟩
  rw [row9 q0 (by omega) x0 (by omega), row4 (by omega) (by omega) p0 (by omega), E.2.1.2.1 q x p q0 q1 x0 (by omega) p0 p1, mwi (z := b - 1) (by omega) (by omega)]
  refine ⟨⟨by omega, by omega⟩, fun z => kf (fun y => ?_), fun z => kt (Or.inr (Or.inr z))⟩
  rcases y with y | y | y
  · exact nb y
  · exact nx y
  · omega
theorem IV_isStrongChoice_spec (hG : Gok sw g) (he : EvId e) (E : EvOk e h C) (I : IvOk h C w) {d : Int → Int} (D : Cho h C w d) {K : Int → (Nat → Int → Int) → Prop}
    (kt : (∀ p q, 0 ≤ p → p < cN C → 0 ≤ q → q < cN C → ¬ p = q → ovl C p q (bgn C w p (d p)) (endv C w q (d q))) → K 1 h) (kf : (¬ ∀ p q, 0 ≤ p → p < cN C → 0 ≤ q → q < cN C → ¬ p = q → ovl C p q (bgn C w p (d p)) (endv C w q (d q))) → K 0 h) : IV_isStrongChoice g h e K := by
  have W := E.2.2.1.1
  have hN := W.2.1
  refine IV_isStrongChoice_wp hG he ?_
  have outer : ∀ p, p ≤ cN C → 0 ≤ p → (∀ r q, 0 ≤ r → r < p → 0 ≤ q → q < cN C → ¬ r = q → ovl C r q (bgn C w r (d r)) (endv C w q (d q))) → ∀ u, IV_isStrongChoice_2 g h e p u K := by
    refine up_ind ?_ ?_
    · intro _ hz u
      exact IV_isStrongChoice_2_wp hG he ⟨fun _ => kt hz, fun z => absurd z (by rw [E.1.1]; omega)⟩
    · intro p hp ih p0 hz u
      refine IV_isStrongChoice_2_wp hG he ⟨fun z => absurd z (by rw [E.1.1]; omega), fun _ => ?_⟩
      have inner : ∀ q, q ≤ cN C → 0 ≤ q → (∀ r, 0 ≤ r → r < q → ¬ p = r → ovl C p r (bgn C w p (d p)) (endv C w r (d r))) → IV_isStrongChoice_12 g h e p q K := by
        refine up_ind ?_ ?_
        · intro _ hy
          refine IV_isStrongChoice_12_wp hG he ⟨fun _ => ?_, fun z => absurd z (by rw [E.1.1]; omega)⟩
          rw [mwi (z := p + 1) (by omega) (by omega)]
          refine ih (by omega) (fun r q r0 r1 q0 q1 hne => ?_) _
          by_cases er : r = p
          · rw [er] at hne ⊢; exact hy q q0 q1 hne
          · exact hz r q r0 (by omega) q0 q1 hne
        · intro q hq ih2 q0 hy
          refine IV_isStrongChoice_12_wp hG he ⟨fun z => absurd z (by rw [E.1.1]; omega), fun _ => ?_⟩
          rw [mwi (z := q + 1) (by omega) (by omega)]
          have nx : (¬ p = q → ovl C p q (bgn C w p (d p)) (endv C w q (d q))) → IV_isStrongChoice_12 g h e p (q + 1) K := fun ho => ih2 (by omega) (fun r r0 r1 hne => by
            by_cases er : r = q
            · rw [er] at hne ⊢; exact ho hne
            · exact hy r r0 (by omega) hne)
          refine ⟨fun z => nx (fun y => absurd z y), fun hne => IV_beginsBeforeEnd_spec hG he E I D p0 hp q0 hq hne (fun ho => ⟨fun _ => nx (fun _ => ho), fun z => absurd z (by decide)⟩) (fun ho => ⟨fun z => absurd rfl z, fun _ => kf (fun y => ho (y p q p0 hp q0 hq hne))⟩)⟩
      exact inner 0 W.1 (Int.le_refl _) (fun r r0 r1 => by omega)
  exact outer 0 W.1 (Int.le_refl _) (fun r q r0 r1 => by omega) _
end IV
