/-! intervals: prefixes of a process with an allowed value -/
def okv (C : Cmp) (w : Wsh) (p k : Int) : Prop := bit (w.2.2 p) (vl C p k)
def ivB (C : Cmp) (w : Wsh) (p k : Int) : Prop := okv C w p k ∧ (k = 0 ∨ ¬ okv C w p (k - 1))
noncomputable def nIv (C : Cmp) (w : Wsh) (p k : Int) : Int := cntI (ivB C w p) k
theorem nIv_le {C : Cmp} {w : Wsh} {p k : Int} (h : 0 ≤ k) : 0 ≤ nIv C w p k ∧ 2 * nIv C w p k ≤ k + 1 ∧ (0 < k → ¬ okv C w p (k - 1) → 2 * nIv C w p k ≤ k) := by
  refine int_ind (P := fun k => 0 ≤ nIv C w p k ∧ 2 * nIv C w p k ≤ k + 1 ∧ (0 < k → ¬ okv C w p (k - 1) → 2 * nIv C w p k ≤ k)) ⟨Int.le_refl _, by show 2 * (0 : Int) ≤ 0 + 1; omega, fun z => absurd z (by omega)⟩ ?_ k h
  intro i hi ⟨a1, a2, a3⟩
  unfold nIv at *
  rw [show i + 1 - 1 = i by omega]
  by_cases b : ivB C w p i
  · rw [cntI_y hi b]
    refine ⟨by omega, ?_, fun _ z => absurd b.1 z⟩
    rcases b.2 with z | z
    · rw [z] at a2 ⊢
      rw [cntI_0]; omega
    · by_cases i0 : i = 0
      · rw [i0, cntI_0]; omega
      · have := a3 (by omega) z; omega
  · rw [cntI_n hi b]
    exact ⟨a1, by omega, fun _ _ => by omega⟩
theorem nIv_mono {C : Cmp} {w : Wsh} {p k m : Int} (h : 0 ≤ k) (hm : k ≤ m) : nIv C w p k ≤ nIv C w p m := cntI_mono h hm
/-- between an end and a later prefix of an interval another one begins -/
theorem nIv_lt {C : Cmp} {w : Wsh} {p x : Int} (x0 : 0 ≤ x) (hx : ¬ okv C w p (x + 1)) : ∀ m, 0 ≤ m → x < m → okv C w p m → nIv C w p (x + 1) < nIv C w p (m + 1) := by
  refine int_ind ?_ ?_
  · intro z; omega
  · intro m hm ih hl ho
    by_cases e : okv C w p m
    · by_cases em : m = x
      · rw [em] at ho; exact absurd ho hx
      · have := ih (by omega) e
        have := nIv_mono (C := C) (w := w) (p := p) (k := m + 1) (m := m + 1 + 1) (by omega) (by omega)
        omega
    · have b : ivB C w p (m + 1) := ⟨ho, Or.inr (by rw [show m + 1 - 1 = m by omega]; exact e)⟩
      have := nIv_mono (C := C) (w := w) (p := p) (k := x + 1) (m := m + 1) (by omega) (by omega)
      have : nIv C w p (m + 1 + 1) = nIv C w p (m + 1) + 1 := cntI_y (by omega) b
      omega
