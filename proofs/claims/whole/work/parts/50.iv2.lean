/-! the intervals, found -/
def ivE (C : Cmp) (w : Wsh) (p k x : Int) : Prop := 0 ≤ x ∧ x < k ∧ okv C w p x ∧ (x = k - 1 ∨ ¬ okv C w p (x + 1))
/-- the rows of the intervals of p as far as the prefixes below k tell -/
def IvR (h : Nat → Int → Int) (C : Cmp) (w : Wsh) (p k : Int) : Prop := h 37 p = nIv C w p k ∧ (∀ b, 0 ≤ b → b < k → ivB C w p b → h 38 (5 * p + nIv C w p b) = b) ∧ ∀ x, ivE C w p k x → h 39 (5 * p + nIv C w p (x + 1) - 1) = x
def IvOk (h : Nat → Int → Int) (C : Cmp) (w : Wsh) : Prop := ∀ p, 0 ≤ p → p < cN C → IvR h C w p (cS C p + 1)
theorem row5 {p k : Int} (p0 : 0 ≤ p) (p1 : p < 4) (k0 : 0 ≤ k) (k1 : k ≤ 5) : mw (mw (p * 5) + k) = 5 * p + k := by
  rw [mwi (z := p * 5) (by omega) (by omega), mwi (by omega) (by omega)]; omega
theorem IvR.in {h : Nat → Int → Int} {C : Cmp} {w : Wsh} {p k : Int} (R : IvR h C w p k) (k0 : 0 < k) (ho : okv C w p k) (hb : okv C w p (k - 1)) : IvR (mvUpd h 39 (5 * p + nIv C w p k - 1) k) C w p (k + 1) := by
  have nb : ¬ ivB C w p k := fun z => by rcases z.2 with z | z; omega; exact z hb
  have e : nIv C w p (k + 1) = nIv C w p k := cntI_n (by omega) nb
  refine ⟨by rw [upd_ob (by omega), R.1, e], fun b b0 b1 hb => ?_, fun x hx => ?_⟩
  · rw [upd_ob (by omega)]
    by_cases eb : b = k
    · rw [eb] at hb; exact absurd hb nb
    · exact R.2.1 b b0 (by omega) hb
  · obtain ⟨x0, x1, x2, x3⟩ := hx
    by_cases ex : x = k
    · rw [ex, e, upd_at]
    · have x4 : ¬ okv C w p (x + 1) := by rcases x3 with z | z; omega; exact z
      have x5 : ¬ x = k - 1 := fun z => x4 (by rw [z, show k - 1 + 1 = k by omega]; exact ho)
      have l := nIv_lt x0 x4 (k - 1) (by omega) (by omega) hb
      rw [show k - 1 + 1 = k by omega] at l
      rw [upd_ix (by omega)]
      exact R.2.2 x ⟨x0, by omega, x2, Or.inr x4⟩
theorem IvR.no {h : Nat → Int → Int} {C : Cmp} {w : Wsh} {p k : Int} (R : IvR h C w p k) (k0 : 0 ≤ k) (ho : ¬ okv C w p k) : IvR h C w p (k + 1) := by
  refine ⟨by rw [R.1]; exact (cntI_n k0 (fun z => ho z.1)).symm, fun b b0 b1 hb => ?_, fun x hx => ?_⟩
  · by_cases eb : b = k
    · rw [eb] at hb; exact absurd hb.1 ho
    · exact R.2.1 b b0 (by omega) hb
  · obtain ⟨x0, x1, x2, x3⟩ := hx
    by_cases ex : x = k
    · rw [ex] at x2; exact absurd x2 ho
    · exact R.2.2 x ⟨x0, by omega, x2, by rcases x3 with z | z; omega; exact Or.inr z⟩
theorem IvR.new {h : Nat → Int → Int} {C : Cmp} {w : Wsh} {p k : Int} (R : IvR h C w p k) (k0 : 0 ≤ k) (ho : okv C w p k) (hb : k = 0 ∨ ¬ okv C w p (k - 1)) : IvR (mvUpd (mvUpd (mvUpd h 38 (5 * p + nIv C w p k) k) 37 p (nIv C w p k + 1)) 39 (5 * p + nIv C w p k) k) C w p (k + 1) := by
  have e : nIv C w p (k + 1) = nIv C w p k + 1 := cntI_y k0 ⟨ho, hb⟩
  refine ⟨by rw [upd_ob (by omega), upd_at, e], fun b b0 b1 hb => ?_, fun x hx => ?_⟩
  · rw [upd_ob (by omega), upd_ob (by omega)]
    by_cases eb : b = k
    · rw [eb, upd_at]
    · have : nIv C w p b < nIv C w p k := cntI_lt b0 (by omega) hb
      rw [upd_ix (by omega)]
      exact R.2.1 b b0 (by omega) hb
  · obtain ⟨x0, x1, x2, x3⟩ := hx
    by_cases ex : x = k
    · rw [ex, e, show 5 * p + (nIv C w p k + 1) - 1 = 5 * p + nIv C w p k by omega, upd_at]
    · have l := nIv_mono (C := C) (w := w) (p := p) (k := x + 1) (m := k) (by omega) (by omega)
      rw [upd_ix (by omega), upd_ob (by omega), upd_ob (by omega)]
      exact R.2.2 x ⟨x0, by omega, x2, by rcases x3 with z | z; omega; exact Or.inr z⟩
