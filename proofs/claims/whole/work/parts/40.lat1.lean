/-! the places of the cuts: mixed digits -/
theorem div_mul {q r b : Int} (h0 : 0 ≤ r) (h1 : r < b) : (q * b + r) / b = q ∧ (q * b + r) % b = r := by
  have hb : 0 < b := by omega
  constructor
  · rw [Int.add_comm, Int.add_mul_ediv_right _ _ (by omega), Int.ediv_eq_zero_of_lt h0 h1]; omega
  · rw [Int.add_comm, Int.add_mul_emod_self_right, Int.emod_eq_of_lt h0 h1]
def wid (C : Cmp) (p : Int) : Int := cS C p + 1
def st (C : Cmp) (p : Int) : Int := if p = 0 then wid C 1 * wid C 2 * wid C 3 else if p = 1 then wid C 2 * wid C 3 else if p = 2 then wid C 3 else 1
def NP (C : Cmp) : Int := wid C 0 * wid C 1 * wid C 2 * wid C 3
def ixc (C : Cmp) (c : Int → Int) : Int := ((c 0 * wid C 1 + c 1) * wid C 2 + c 2) * wid C 3 + c 3
def ctI (C : Cmp) (x : Int) (p : Int) : Int := if p = 0 then x / wid C 3 / wid C 2 / wid C 1 else if p = 1 then x / wid C 3 / wid C 2 % wid C 1 else if p = 2 then x / wid C 3 % wid C 2 else if p = 3 then x % wid C 3 else 0
theorem wid_r {C : Cmp} (W : Wf C) (p : Int) : 1 ≤ wid C p ∧ wid C p ≤ 10 := by have := W.sz p; unfold wid; omega
theorem lt_mul {q r b B : Int} (q0 : 0 ≤ q) (qB : q < B) (h0 : 0 ≤ r) (h1 : r < b) : 0 ≤ q * b + r ∧ q * b + r < B * b := by
  have a1 := Int.mul_nonneg q0 (show 0 ≤ b by omega)
  have a2 := Int.mul_le_mul_of_nonneg_right (show q + 1 ≤ B by omega) (show 0 ≤ b by omega)
  rw [Int.add_mul] at a2
  omega
theorem In.w {C : Cmp} {c : Int → Int} (h : In C c) (p : Int) : 0 ≤ c p ∧ c p < wid C p := by have := h p; unfold wid; omega
theorem In.out {C : Cmp} (W : Wf C) {c : Int → Int} (h : In C c) {p : Int} (hp : ¬ (0 ≤ p ∧ p < cN C)) : c p = 0 := by have := h p; rw [W.2.2.2.1 p hp] at this; omega
theorem ixc_r {C : Cmp} {c : Int → Int} (h : In C c) : 0 ≤ ixc C c ∧ ixc C c < NP C := by
  have w0 := h.w 0; have w1 := h.w 1; have w2 := h.w 2; have w3 := h.w 3
  have a1 := lt_mul w0.1 w0.2 w1.1 w1.2
  have a2 := lt_mul a1.1 a1.2 w2.1 w2.2
  exact lt_mul a2.1 a2.2 w3.1 w3.2
theorem ctI_ixc {C : Cmp} (W : Wf C) {c : Int → Int} (h : In C c) : ctI C (ixc C c) = c := by
  have w0 := h.w 0; have w1 := h.w 1; have w2 := h.w 2; have w3 := h.w 3
  funext p
  unfold ctI ixc
  by_cases h0 : p = 0
  · rw [if_pos h0, (div_mul w3.1 w3.2).1, (div_mul w2.1 w2.2).1, (div_mul w1.1 w1.2).1, h0]
  · rw [if_neg h0]
    by_cases h1 : p = 1
    · rw [if_pos h1, (div_mul w3.1 w3.2).1, (div_mul w2.1 w2.2).1, (div_mul w1.1 w1.2).2, h1]
    · rw [if_neg h1]
      by_cases h2 : p = 2
      · rw [if_pos h2, (div_mul w3.1 w3.2).1, (div_mul w2.1 w2.2).2, h2]
      · rw [if_neg h2]
        by_cases h3 : p = 3
        · rw [if_pos h3, (div_mul w3.1 w3.2).2, h3]
        · rw [if_neg h3, h.out W]
          have := W.2.1
          omega
theorem div_lt {x b B : Int} (x0 : 0 ≤ x) (hb : 1 ≤ b) (h : x < B * b) : 0 ≤ x / b ∧ x / b < B := ⟨Int.ediv_nonneg x0 (by omega), Int.ediv_lt_of_lt_mul (by omega) h⟩
theorem ctI_in {C : Cmp} (W : Wf C) {x : Int} (x0 : 0 ≤ x) (x1 : x < NP C) : In C (ctI C x) := by
  have w0 := wid_r W 0; have w1 := wid_r W 1; have w2 := wid_r W 2; have w3 := wid_r W 3
  have a3 := div_lt x0 w3.1 x1
  have a2 := div_lt a3.1 w2.1 a3.2
  have a1 := div_lt a2.1 w1.1 a2.2
  intro p
  unfold ctI
  have hs := W.sz p
  by_cases h0 : p = 0
  · rw [if_pos h0, h0]
    unfold wid at a1 ⊢
    omega
  · rw [if_neg h0]
    by_cases h1 : p = 1
    · rw [if_pos h1, h1]
      have := Int.emod_nonneg (x / wid C 3 / wid C 2) (show wid C 1 ≠ 0 by omega)
      have := Int.emod_lt_of_pos (x / wid C 3 / wid C 2) (show 0 < wid C 1 by omega)
      unfold wid at *
      omega
    · rw [if_neg h1]
      by_cases h2 : p = 2
      · rw [if_pos h2, h2]
        have := Int.emod_nonneg (x / wid C 3) (show wid C 2 ≠ 0 by omega)
        have := Int.emod_lt_of_pos (x / wid C 3) (show 0 < wid C 2 by omega)
        unfold wid at *
        omega
      · rw [if_neg h2]
        by_cases h3 : p = 3
        · rw [if_pos h3, h3]
          have := Int.emod_nonneg x (show wid C 3 ≠ 0 by omega)
          have := Int.emod_lt_of_pos x (show 0 < wid C 3 by omega)
          unfold wid at *
          omega
        · rw [if_neg h3]; omega
theorem div_mod' (x b : Int) : x / b * b + x % b = x := by have := Int.mul_ediv_add_emod x b; rw [Int.mul_comm] at this; exact this
theorem ixc_ctI {C : Cmp} {x : Int} : ixc C (ctI C x) = x := by
  unfold ixc ctI
  simp only [if_true, show ¬ (1 : Int) = 0 by decide, show ¬ (2 : Int) = 0 by decide, show ¬ (2 : Int) = 1 by decide, show ¬ (3 : Int) = 0 by decide, show ¬ (3 : Int) = 1 by decide, show ¬ (3 : Int) = 2 by decide, if_false]
  rw [div_mod', div_mod', div_mod']
theorem ixc_inc {C : Cmp} {c : Int → Int} {p : Int} (h0 : 0 ≤ p) (h4 : p < 4) : ixc C (inc c p) = ixc C c + st C p := by
  unfold ixc inc st
  rcases (show p = 0 ∨ p = 1 ∨ p = 2 ∨ p = 3 by omega) with rfl | rfl | rfl | rfl <;> simp <;> grind
theorem NP_le {C : Cmp} (W : Wf C) : 1 ≤ NP C ∧ NP C ≤ 625 := by
  have key : ∀ a b c d : Fin 10, a.val + b.val + c.val + d.val ≤ 16 → (a.val + 1) * (b.val + 1) * (c.val + 1) * (d.val + 1) ≤ 625 := by decide +kernel
  have s0 := W.sz 0; have s1 := W.sz 1; have s2 := W.sz 2; have s3 := W.sz 3
  have hT := W.2.2.2.2.1
  unfold cT at hT
  unfold NP wid
  generalize cS C 0 = x0 at *
  generalize cS C 1 = x1 at *
  generalize cS C 2 = x2 at *
  generalize cS C 3 = x3 at *
  obtain ⟨n0, rfl⟩ := Int.eq_ofNat_of_zero_le s0.1
  obtain ⟨n1, rfl⟩ := Int.eq_ofNat_of_zero_le s1.1
  obtain ⟨n2, rfl⟩ := Int.eq_ofNat_of_zero_le s2.1
  obtain ⟨n3, rfl⟩ := Int.eq_ofNat_of_zero_le s3.1
  have k := key ⟨n0, by omega⟩ ⟨n1, by omega⟩ ⟨n2, by omega⟩ ⟨n3, by omega⟩ (by show n0 + n1 + n2 + n3 ≤ 16; omega)
  simp only at k
  have p1 : 1 ≤ (n0 + 1) * (n1 + 1) * (n2 + 1) * (n3 + 1) := Nat.succ_le_of_lt (Nat.mul_pos (Nat.mul_pos (Nat.mul_pos (by omega) (by omega)) (by omega)) (by omega))
  generalize hm : (n0 + 1) * (n1 + 1) * (n2 + 1) * (n3 + 1) = m at k p1
  have e : ((n0 : Int) + 1) * ((n1 : Int) + 1) * ((n2 : Int) + 1) * ((n3 : Int) + 1) = (m : Int) := by rw [← hm]; push_cast; rfl
  rw [e]
  omega
/-- the full cut's place is the last -/
theorem ixc_full {C : Cmp} : ixc C (cS C) = NP C - 1 := by unfold ixc NP wid; grind
theorem ctI_0 {C : Cmp} (W : Wf C) : ctI C 0 = fun _ => 0 := by
  have : ixc C (fun _ => 0) = 0 := by unfold ixc; simp
  have h := ctI_ixc W (c := fun _ => 0) (fun p => ⟨Int.le_refl _, (W.sz p).1⟩)
  rw [this] at h
  exact h
theorem st_pos {C : Cmp} (W : Wf C) (p : Int) : 1 ≤ st C p := by
  have w1 := wid_r W 1; have w2 := wid_r W 2; have w3 := wid_r W 3
  have a := Int.mul_pos (show 0 < wid C 2 by omega) (show 0 < wid C 3 by omega)
  have b := Int.mul_pos (Int.mul_pos (show 0 < wid C 1 by omega) (show 0 < wid C 2 by omega)) (show 0 < wid C 3 by omega)
  unfold st
  repeat' split
  all_goals omega
