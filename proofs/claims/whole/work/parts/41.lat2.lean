/-! paths to a cut -/
def sumI (f : Int → Int) (k : Int) : Int := it (fun q s => s + f q) 0 k
theorem sumI_s {f : Int → Int} {k : Int} (h : 0 ≤ k) : sumI f (k + 1) = sumI f k + f k := by unfold sumI; rw [it_s h]
theorem sumI_congr {f g : Int → Int} {k : Int} (h : ∀ i, 0 ≤ i → i < k → f i = g i) : sumI f k = sumI g k := it_congr fun i x h0 h1 => by rw [h i h0 h1]
theorem sumI_le {f g : Int → Int} {k : Int} (hk : 0 ≤ k) (h : ∀ i, 0 ≤ i → i < k → f i ≤ g i) : sumI f k ≤ sumI g k := by
  have key : ∀ m, 0 ≤ m → m ≤ k → sumI f m ≤ sumI g m := by
    refine int_ind ?_ ?_
    · intro _; exact Int.le_refl _
    · intro i hi ih hm
      rw [sumI_s hi, sumI_s hi]
      have := ih (by omega)
      have := h i hi (by omega)
      omega
  exact key k hk (Int.le_refl _)
theorem sumI_z (k : Int) : sumI (fun _ => 0) k = 0 := by
  rcases Int.lt_or_le k 0 with h | h
  · exact it_neg (by omega)
  · refine int_ind (P := fun k => sumI (fun _ => 0) k = 0) rfl ?_ k h
    intro i hi ih
    rw [sumI_s hi, ih]; rfl
theorem sumI_0 {f : Int → Int} {k : Int} (hk : 0 ≤ k) (h : ∀ i, 0 ≤ i → i < k → 0 ≤ f i) : 0 ≤ sumI f k := by
  have := sumI_le (f := fun _ => 0) hk h
  rwa [sumI_z] at this
theorem sumI_one {f g : Int → Int} {p d k : Int} (hk : 0 ≤ k) (p0 : 0 ≤ p) (p1 : p < k) (h : ∀ i, 0 ≤ i → i < k → ¬ i = p → f i = g i) (hp : f p = g p + d) : sumI f k = sumI g k + d := by
  have key : ∀ m, 0 ≤ m → m ≤ k → sumI f m = sumI g m + (if p < m then d else 0) := by
    refine int_ind ?_ ?_
    · intro _; rw [if_neg (by omega)]; rfl
    · intro i hi ih hm
      rw [sumI_s hi, sumI_s hi, ih (by omega)]
      by_cases e : i = p
      · subst e
        rw [if_neg (by omega), if_pos (by omega), hp]; omega
      · rw [h i hi (by omega) e]
        by_cases l : p < i
        · rw [if_pos l, if_pos (by omega)]; omega
        · rw [if_neg l, if_neg (by omega)]; omega
  rw [key k hk (Int.le_refl _), if_pos p1]
theorem sumI_get {f : Int → Int} {k : Int} (hk : 0 ≤ k) (h : 0 < sumI f k) : ∃ i, 0 ≤ i ∧ i < k ∧ 0 < f i := by
  have key : ∀ m, 0 ≤ m → m ≤ k → 0 < sumI f m → ∃ i, 0 ≤ i ∧ i < k ∧ 0 < f i := by
    refine int_ind ?_ ?_
    · intro _ h; exact absurd h (by show ¬ (0 : Int) < 0; omega)
    · intro i hi ih hm hs
      rw [sumI_s hi] at hs
      by_cases c : 0 < f i
      · exact ⟨i, hi, by omega, c⟩
      · exact ih (by omega) (by omega)
  exact key k hk (Int.le_refl _) h
theorem sumI_ge {f : Int → Int} {p k : Int} (hk : 0 ≤ k) (h : ∀ i, 0 ≤ i → i < k → 0 ≤ f i) (p0 : 0 ≤ p) (p1 : p < k) : f p ≤ sumI f k := by
  have a := sumI_one (f := f) (g := fun i => if i = p then 0 else f i) (d := f p) hk p0 p1 (fun i _ _ hi => by simp [hi]) (by simp)
  have b := sumI_0 (f := fun i => if i = p then 0 else f i) hk (fun i h0 h1 => by split <;> first | omega | exact h i h0 h1)
  omega
/-- one event less of a process -/
def dec (c : Int → Int) (p : Int) : Int → Int := fun q => if q = p then c q - 1 else c q
theorem dec_at {c : Int → Int} {p : Int} : dec c p p = c p - 1 := by simp [dec]
theorem dec_ne {c : Int → Int} {p q : Int} (h : ¬ q = p) : dec c p q = c q := by simp [dec, h]
theorem inc_dec {c : Int → Int} {p : Int} : inc (dec c p) p = c := by
  funext q
  by_cases h : q = p
  · rw [h, inc_at, dec_at]; omega
  · rw [inc_ne h, dec_ne h]
theorem dec_inc {c : Int → Int} {p : Int} : dec (inc c p) p = c := by
  funext q
  by_cases h : q = p
  · rw [h, dec_at, inc_at]; omega
  · rw [dec_ne h, inc_ne h]
theorem In.dec {C : Cmp} {c : Int → Int} (h : In C c) {p : Int} (hp : 0 < c p) : In C (dec c p) := by
  intro q
  have := h q
  by_cases e : q = p
  · rw [e, dec_at]; have := h p; omega
  · rw [dec_ne e]; exact this
theorem In.inc {C : Cmp} {c : Int → Int} (h : In C c) {p : Int} (hp : c p < cS C p) : In C (inc c p) := by
  intro q
  have := h q
  by_cases e : q = p
  · rw [e, inc_at]; have := h p; omega
  · rw [inc_ne e]; exact this
theorem lev_dec {c : Int → Int} {p : Int} (h0 : 0 ≤ p) (h1 : p < 4) : lev (dec c p) = lev c - 1 := by
  have := lev_inc (c := dec c p) h0 h1
  rw [inc_dec] at this
  omega
/-- how many paths lead to a cut of m events -/
noncomputable def np (C : Cmp) : Nat → (Int → Int) → Int
  | 0, _ => 1
  | m + 1, c => sumI (fun p => pick (0 < c p ∧ canF C (dec c p) p) (np C m (dec c p)) 0) (cN C)
noncomputable def npc (C : Cmp) (c : Int → Int) : Int := np C (lev c).toNat c
def fac : Nat → Nat
  | 0 => 1
  | n + 1 => (n + 1) * fac n
def fcp (c : Int → Int) : Int := (fac (c 0).toNat : Int) * fac (c 1).toNat * fac (c 2).toNat * fac (c 3).toNat
theorem fac_pos : ∀ n, 0 < fac n
  | 0 => Nat.one_pos
  | n + 1 => Nat.mul_pos (Nat.succ_pos n) (fac_pos n)
theorem fac_dec {x : Int} (h : 0 < x) : (fac x.toNat : Int) = x * fac (x - 1).toNat := by
  rw [show x.toNat = (x - 1).toNat + 1 by omega]
  show (((((x - 1).toNat + 1) * fac (x - 1).toNat) : Nat) : Int) = _
  push_cast
  rw [show (((x - 1).toNat : Nat) : Int) + 1 = x by omega]
theorem fcp_dec {c : Int → Int} {p : Int} (h0 : 0 ≤ p) (h1 : p < 4) (h : 0 < c p) : fcp c = c p * fcp (dec c p) := by
  unfold fcp dec
  rcases (show p = 0 ∨ p = 1 ∨ p = 2 ∨ p = 3 by omega) with rfl | rfl | rfl | rfl <;> simp <;> rw [fac_dec h] <;> grind
theorem fcp_pos {c : Int → Int} : 0 < fcp c := by
  unfold fcp
  have a0 := fac_pos (c 0).toNat; have a1 := fac_pos (c 1).toNat; have a2 := fac_pos (c 2).toNat; have a3 := fac_pos (c 3).toNat
  exact Int.mul_pos (Int.mul_pos (Int.mul_pos (by omega) (by omega)) (by omega)) (by omega)
theorem sum_lev {C : Cmp} (W : Wf C) {c : Int → Int} (hi : In C c) : sumI c (cN C) = lev c := by
  have hN := W.2.1
  have h0 := W.1
  have z := fun p (hp : ¬ (0 ≤ p ∧ p < cN C)) => hi.out W (p := p) hp
  have u0 : sumI c 0 = 0 := rfl
  have u1 : sumI c 1 = sumI c 0 + c 0 := sumI_s (k := 0) (by omega)
  have u2 : sumI c 2 = sumI c 1 + c 1 := sumI_s (k := 1) (by omega)
  have u3 : sumI c 3 = sumI c 2 + c 2 := sumI_s (k := 2) (by omega)
  have u4 : sumI c 4 = sumI c 3 + c 3 := sumI_s (k := 3) (by omega)
  unfold lev
  rcases (show cN C = 0 ∨ cN C = 1 ∨ cN C = 2 ∨ cN C = 3 ∨ cN C = 4 by omega) with h | h | h | h | h
  · have := z 0 (by omega); have := z 1 (by omega); have := z 2 (by omega); have := z 3 (by omega)
    rw [h]; omega
  · have := z 1 (by omega); have := z 2 (by omega); have := z 3 (by omega)
    rw [h]; omega
  · have := z 2 (by omega); have := z 3 (by omega)
    rw [h]; omega
  · have := z 3 (by omega)
    rw [h]; omega
  · rw [h]; omega
theorem sumI_mul {f : Int → Int} {d k : Int} (hk : 0 ≤ k) : sumI f k * d = sumI (fun i => f i * d) k := by
  refine int_ind (P := fun k => sumI f k * d = sumI (fun i => f i * d) k) ?_ ?_ k hk
  · exact Int.zero_mul d
  · intro i hi ih
    rw [sumI_s hi, sumI_s hi, Int.add_mul, ih]
theorem np_le {C : Cmp} (W : Wf C) : ∀ (m : Nat) (c : Int → Int), In C c → lev c = m → 0 ≤ np C m c ∧ np C m c * fcp c ≤ fac m := by
  intro m
  induction m with
  | zero =>
    intro c hi hl
    refine ⟨Int.zero_le_ofNat 1, ?_⟩
    have z : ∀ p, 0 ≤ p → p < 4 → c p = 0 := by
      unfold lev at hl
      have := hi 0; have := hi 1; have := hi 2; have := hi 3
      intro p h0 h1
      rcases (show p = 0 ∨ p = 1 ∨ p = 2 ∨ p = 3 by omega) with rfl | rfl | rfl | rfl <;> omega
    unfold fcp
    rw [z 0 (by omega) (by omega), z 1 (by omega) (by omega), z 2 (by omega) (by omega), z 3 (by omega) (by omega)]
    exact Int.le_refl _
  | succ m ih =>
    intro c hi hl
    have hN := W.2.1
    have t : ∀ p, 0 ≤ p → p < cN C → 0 ≤ pick (0 < c p ∧ canF C (dec c p) p) (np C m (dec c p)) 0 ∧ pick (0 < c p ∧ canF C (dec c p) p) (np C m (dec c p)) 0 * fcp c ≤ c p * fac m := by
      intro p p0 p1
      by_cases hc : 0 < c p ∧ canF C (dec c p) p
      · rw [pick_t hc]
        obtain ⟨i1, i2⟩ := ih (dec c p) (hi.dec hc.1) (by rw [lev_dec p0 (by omega), hl]; omega)
        refine ⟨i1, ?_⟩
        rw [fcp_dec p0 (by omega) hc.1, Int.mul_left_comm]
        exact Int.mul_le_mul_of_nonneg_left i2 (by omega)
      · rw [pick_f hc]
        have := hi p
        exact ⟨Int.le_refl _, by rw [Int.zero_mul]; exact Int.mul_nonneg this.1 (by omega)⟩
    refine ⟨sumI_0 W.1 (fun p h0 h1 => (t p h0 h1).1), ?_⟩
    show sumI _ _ * _ ≤ _
    rw [sumI_mul W.1]
    refine Int.le_trans (sumI_le (g := fun p => c p * fac m) W.1 (fun p h0 h1 => (t p h0 h1).2)) ?_
    rw [← sumI_mul W.1, sum_lev W hi, hl]
    show _ ≤ (((m + 1) * fac m : Nat) : Int)
    push_cast
    exact Int.le_refl _
theorem np_lt {C : Cmp} (W : Wf C) {c : Int → Int} (hi : In C c) : 0 ≤ npc C c ∧ npc C c < 2147483648 := by
  have key : ∀ a b c d : Fin 10, a.val + b.val + c.val + d.val ≤ 16 → fac (a.val + b.val + c.val + d.val) < 2147483648 * (fac a.val * fac b.val * fac c.val * fac d.val) := by decide +kernel
  have s0 := W.sz 0; have s1 := W.sz 1; have s2 := W.sz 2; have s3 := W.sz 3
  have i0 := hi 0; have i1 := hi 1; have i2 := hi 2; have i3 := hi 3
  have hT := W.2.2.2.2.1
  unfold cT at hT
  have l0 : 0 ≤ lev c := by unfold lev; omega
  obtain ⟨n1, n2⟩ := np_le W (lev c).toNat c hi (by omega)
  refine ⟨n1, ?_⟩
  have k := key ⟨(c 0).toNat, by omega⟩ ⟨(c 1).toNat, by omega⟩ ⟨(c 2).toNat, by omega⟩ ⟨(c 3).toNat, by omega⟩ (by show (c 0).toNat + (c 1).toNat + (c 2).toNat + (c 3).toNat ≤ 16; omega)
  simp only at k
  rw [show (c 0).toNat + (c 1).toNat + (c 2).toNat + (c 3).toNat = (lev c).toNat by unfold lev; omega] at k
  have k2 : (fac (lev c).toNat : Int) < 2147483648 * fcp c := by
    unfold fcp
    have k3 := Int.ofNat_lt.mpr k
    rw [Int.natCast_mul, Int.natCast_mul, Int.natCast_mul, Int.natCast_mul] at k3
    exact k3
  exact Int.lt_of_mul_lt_mul_right (Int.lt_of_le_of_lt n2 k2) (Int.le_of_lt fcp_pos)
theorem np_pth {C : Cmp} (W : Wf C) : ∀ (m : Nat) (c : Int → Int), In C c → lev c = m → (0 < np C m c ↔ Pth C m c) := by
  intro m
  induction m with
  | zero =>
    intro c hi hl
    refine ⟨fun _ => ?_, fun _ => (by show (0 : Int) < 1; omega)⟩
    unfold lev at hl
    have := hi 0; have := hi 1; have := hi 2; have := hi 3
    have hN := W.2.1
    intro p
    by_cases hp : 0 ≤ p ∧ p < 4
    · rcases (show p = 0 ∨ p = 1 ∨ p = 2 ∨ p = 3 by omega) with rfl | rfl | rfl | rfl <;> omega
    · exact hi.out W (by omega)
  | succ m ih =>
    intro c hi hl
    have hN := W.2.1
    constructor
    · intro h
      obtain ⟨p, p0, p1, h⟩ := sumI_get W.1 h
      by_cases hc : 0 < c p ∧ canF C (dec c p) p
      · rw [pick_t hc] at h
        exact ⟨p, dec c p, p0, p1, (ih _ (hi.dec hc.1) (by rw [lev_dec p0 (by omega), hl]; omega)).mp h, hc.2, inc_dec.symm⟩
      · rw [pick_f hc] at h; omega
    · rintro ⟨p, d, p0, p1, hd, hf, rfl⟩
      obtain ⟨j1, j2, j3⟩ := hd.fin W
      have hp : 0 < inc d p p := by rw [inc_at]; have := j1 p; omega
      have g := sumI_ge (f := fun q => pick (0 < inc d p q ∧ canF C (dec (inc d p) q) q) (np C m (dec (inc d p) q)) 0) (p := p) W.1 (fun q q0 q1 => ?_) p0 p1
      · rw [pick_t ⟨hp, by rw [dec_inc]; exact hf⟩, dec_inc] at g
        exact Int.lt_of_lt_of_le ((ih d j1 j3).mpr hd) g
      · by_cases hc : 0 < inc d p q ∧ canF C (dec (inc d p) q) q
        · rw [pick_t hc]
          exact (np_le W m _ (hi.dec hc.1) (by rw [lev_dec q0 (by omega), hl]; omega)).1
        · rw [pick_f hc]; exact Int.le_refl _
theorem lev_nn {C : Cmp} {c : Int → Int} (hi : In C c) : 0 ≤ lev c := by
  have := hi 0; have := hi 1; have := hi 2; have := hi 3
  unfold lev; omega
theorem npc_pos {C : Cmp} (V : Valid C) {c : Int → Int} (hi : In C c) : 0 < npc C c ↔ Cons C c := by
  have l := lev_nn hi
  unfold npc
  rw [np_pth V.1 _ c hi (by omega)]
  exact ⟨fun h => (h.fin V.1).2.1, fun h => reach V hi h⟩
