/-! all choices of intervals -/
noncomputable def lft (C : Cmp) (w : Wsh) (r p : Int) : Int := it (fun q x => x / nIn C w q) r p
noncomputable def dgt (C : Cmp) (w : Wsh) (r p : Int) : Int := lft C w r p % nIn C w p
noncomputable def allI (C : Cmp) (w : Wsh) (p : Int) : Int := it (fun q s => s * nIn C w q) 1 p
theorem lft_s {C : Cmp} {w : Wsh} {r p : Int} (h : 0 ≤ p) : lft C w r (p + 1) = lft C w r p / nIn C w p := by unfold lft; rw [it_s h]
theorem allI_s {C : Cmp} {w : Wsh} {p : Int} (h : 0 ≤ p) : allI C w (p + 1) = allI C w p * nIn C w p := by unfold allI; rw [it_s h]
theorem nIn_r {C : Cmp} (W : Wf C) {w : Wsh} {p : Int} : 0 ≤ nIn C w p ∧ nIn C w p ≤ 5 := by
  unfold nIn
  have hs := W.sz p
  have := nIv_le (C := C) (w := w) (p := p) (k := cS C p + 1) (by omega)
  split <;> omega
theorem nIn_in {C : Cmp} {w : Wsh} {p : Int} (p0 : 0 ≤ p) (p1 : p < cN C) : nIn C w p = nIv C w p (cS C p + 1) := by unfold nIn; rw [if_pos ⟨p0, p1⟩]
def pw5 (p : Int) : Int := if p = 0 then 1 else if p = 1 then 5 else if p = 2 then 25 else if p = 3 then 125 else 625
theorem allI_r {C : Cmp} (W : Wf C) {w : Wsh} : ∀ p, 0 ≤ p → p ≤ 4 → 0 ≤ allI C w p ∧ allI C w p ≤ pw5 p := by
  refine int_ind ?_ ?_
  · intro _; exact ⟨by show (0 : Int) ≤ 1; omega, Int.le_refl _⟩
  · intro p hp ih h4
    obtain ⟨a, b⟩ := ih (by omega)
    have n := nIn_r W (w := w) (p := p)
    rw [allI_s hp]
    have u := Int.mul_le_mul_of_nonneg_left n.2 a
    refine ⟨Int.mul_nonneg a n.1, ?_⟩
    unfold pw5 at *
    rcases (show p = 0 ∨ p = 1 ∨ p = 2 ∨ p = 3 by omega) with rfl | rfl | rfl | rfl <;> simp at * <;> omega
theorem allI_pos {C : Cmp} (W : Wf C) {w : Wsh} : ∀ p, 0 ≤ p → p ≤ 4 → 0 < allI C w p → ∀ q, 0 ≤ q → q < p → 1 ≤ nIn C w q := by
  refine int_ind ?_ ?_
  · intro _ _ q q0 q1; omega
  · intro p hp ih h4 h q q0 q1
    have n := nIn_r W (w := w) (p := p)
    have a := (allI_r W (w := w) p hp (by omega)).1
    rw [allI_s hp] at h
    by_cases z : nIn C w p = 0
    · rw [z, Int.mul_zero] at h; omega
    · by_cases y : allI C w p = 0
      · rw [y, Int.zero_mul] at h; omega
      · by_cases eq : q = p
        · rw [eq]; omega
        · exact ih (by omega) (by omega) q q0 (by omega)
theorem lft_0 {C : Cmp} {w : Wsh} {p : Int} (h : 0 ≤ p) : lft C w 0 p = 0 := by
  refine int_ind (P := fun p => lft C w 0 p = 0) rfl ?_ p h
  intro i hi ih
  rw [lft_s hi, ih]
  exact Int.zero_ediv _
theorem lft_nn {C : Cmp} (W : Wf C) {w : Wsh} {r p : Int} (r0 : 0 ≤ r) (h : 0 ≤ p) : 0 ≤ lft C w r p := by
  refine int_ind (P := fun p => 0 ≤ lft C w r p) r0 ?_ p h
  intro i hi ih
  rw [lft_s hi]
  exact Int.ediv_nonneg ih (nIn_r W).1
/-- one more, with the carry -/
theorem carry {x b : Int} (hb : 1 ≤ b) : (x % b + 1 < b → (x + 1) % b = x % b + 1 ∧ (x + 1) / b = x / b) ∧ (b ≤ x % b + 1 → (x + 1) % b = 0 ∧ (x + 1) / b = x / b + 1) := by
  have e := Int.mul_ediv_add_emod x b
  have m0 := Int.emod_nonneg x (show b ≠ 0 by omega)
  have m1 := Int.emod_lt_of_pos x (show 0 < b by omega)
  have ee : x / b * b = b * (x / b) := Int.mul_comm _ _
  constructor
  · intro h
    have := div_mul (q := x / b) (r := x % b + 1) (b := b) (by omega) h
    rw [show x / b * b + (x % b + 1) = x + 1 by omega] at this
    exact ⟨this.2, this.1⟩
  · intro h
    have := div_mul (q := x / b + 1) (r := 0) (b := b) (by omega) (by omega)
    rw [Int.add_mul, show x / b * b + 1 * b + 0 = x + 1 by omega] at this
    exact ⟨this.2, this.1⟩
def stC (C : Cmp) (w : Wsh) (r : Int) : Prop := ∀ p q, 0 ≤ p → p < cN C → 0 ≤ q → q < cN C → ¬ p = q → ovl C p q (bgn C w p (dgt C w r p)) (endv C w q (dgt C w r q))
/-- strong: some choice of intervals overlaps in every order -/
def str (C : Cmp) (w : Wsh) : Prop := ∃ r, 0 ≤ r ∧ r < allI C w (cN C) ∧ stC C w r
section IV
variable {sw : Bool} {g : Nat → Nat → Nat} {h : Nat → Int → Int} {e : Nat} {C : Cmp} {c : Int → Int} {w : Wsh}
theorem IvOk.keep {h h' : Nat → Int → Int} (I : IvOk h C w) (h1 : h' 37 = h 37) (h2 : h' 38 = h 38) (h3 : h' 39 = h 39) : IvOk h' C w := by
  unfold IvOk IvR at *
  rw [h1, h2, h3]; exact I
theorem IV_chooseNext_spec (hG : Gok sw g) (W : Wf C) (I : IvOk h C w) {r : Int} (r0 : 0 ≤ r) (np : ∀ p, 0 ≤ p → p < cN C → 1 ≤ nIn C w p) (D : ∀ p, 0 ≤ p → p < cN C → h 40 p = dgt C w r p) {K : (Nat → Int → Int) → Prop}
    (k : ∀ h', (∀ b, ¬ b = 40 → h' b = h b) → (∀ p, 0 ≤ p → p < cN C → h' 40 p = dgt C w (r + 1) p) → K h') : IV_chooseNext g h (cN C) K := by
  have hN := W.2.1
  refine IV_chooseNext_wp hG ?_
  have key : ∀ p, p ≤ cN C → 0 ≤ p → ∀ h', (∀ b, ¬ b = 40 → h' b = h b) → (∀ q, 0 ≤ q → q < p → h' 40 q = dgt C w (r + 1) q) → (∀ q, p ≤ q → q < cN C → h' 40 q = dgt C w r q) → lft C w (r + 1) p = lft C w r p + 1 → IV_chooseNext_2 g h' (cN C) p K := by
    refine up_ind ?_ ?_
    · intro _ h' F A B _
      exact IV_chooseNext_2_wp hG ⟨fun _ => k h' F A, fun z => absurd z (by omega)⟩
    · intro p hp ih p0 h' F A B L
      have n1 := np p p0 hp
      have n2 := nIn_r W (w := w) (p := p)
      have c := carry (x := lft C w r p) n1
      have m0 := Int.emod_nonneg (lft C w r p) (show nIn C w p ≠ 0 by omega)
      have m1 := Int.emod_lt_of_pos (lft C w r p) (show 0 < nIn C w p by omega)
      have ed : dgt C w r p = lft C w r p % nIn C w p := rfl
      have ed2 : dgt C w (r + 1) p = (lft C w r p + 1) % nIn C w p := by unfold dgt; rw [L]
      have e37 : h' 37 p = nIn C w p := by rw [F 37 (by omega), (I p p0 hp).1, nIn_in p0 hp]
      refine IV_chooseNext_2_wp hG ⟨fun z => absurd z (by omega), fun _ => ⟨⟨p0, by omega⟩, ⟨p0, by omega⟩, ?_⟩⟩
      rw [B p (Int.le_refl _) hp, mwi (z := dgt C w r p + 1) (by omega) (by omega)]
      rintro h1 rfl
      rw [upd_ob (b := 37) (a := 40) (by omega), e37, upd_at]
      refine ⟨⟨p0, by omega⟩, ⟨p0, by omega⟩, fun z => ⟨⟨p0, by omega⟩, ?_⟩, fun z => ?_⟩
      · rintro h2 rfl
        rw [mwi (z := p + 1) (by omega) (by omega)]
        obtain ⟨c1, c2⟩ := c.2 (by omega)
        refine ih (by omega) _ (fun b n => by rw [upd_ob n, upd_ob n]; exact F b n) (fun q q0 q1 => ?_) (fun q q0 q1 => ?_) ?_
        · by_cases eq : q = p
          · rw [eq, upd_at, ed2, c1]
          · rw [upd_ix eq, upd_ix eq]; exact A q q0 (by omega)
        · rw [upd_ix (by omega), upd_ix (by omega)]; exact B q (by omega) q1
        · rw [lft_s p0, lft_s p0, L, c2]
      · obtain ⟨c1, c2⟩ := c.1 (by omega)
        have same : ∀ q, p + 1 ≤ q → lft C w (r + 1) q = lft C w r q := by
          have key2 : ∀ m, 0 ≤ m → lft C w (r + 1) (p + 1 + m) = lft C w r (p + 1 + m) := by
            refine int_ind ?_ ?_
            · rw [show p + 1 + 0 = p + 1 by omega, lft_s p0, lft_s p0, L, c2]
            · intro m hm ihm
              rw [show p + 1 + (m + 1) = p + 1 + m + 1 by omega, lft_s (by omega), lft_s (by omega), ihm]
          intro q hq
          have := key2 (q - (p + 1)) (by omega)
          rwa [show p + 1 + (q - (p + 1)) = q by omega] at this
        refine k _ (fun b n => by rw [upd_ob n]; exact F b n) (fun q q0 q1 => ?_)
        by_cases eq : q = p
        · rw [eq, upd_at, ed2, c1, ed]
        · rw [upd_ix eq]
          by_cases l : q < p
          · exact A q q0 l
          · rw [B q (by omega) q1]
            unfold dgt
            rw [same q (by omega)]
  exact key 0 W.1 (Int.le_refl _) h (fun b _ => rfl) (fun q q0 q1 => by omega) (fun q q0 q1 => D q q0 q1) rfl
theorem IV_areStrong_spec (hG : Gok sw g) (he : EvId e) (E : EvOk e h C) (I : IvOk h C w) {K : Int → (Nat → Int → Int) → Prop} (kt : str C w → ∀ h', (∀ b, ¬ b = 40 → h' b = h b) → K 1 h') (kf : ¬ str C w → ∀ h', (∀ b, ¬ b = 40 → h' b = h b) → K 0 h') : IV_areStrong g h e K := by
  have W := E.2.2.1.1
  have hN := W.2.1
  have ed : e + 8 < 40 ∨ 40 < e := by unfold EvId at he; omega
  have ar := allI_r W (w := w) (cN C) W.1 hN
  have p5 : ∀ p, pw5 p ≤ 625 := fun p => by unfold pw5; repeat' split <;> omega
  have a625 := p5 (cN C)
  refine IV_areStrong_wp hG he ?_
  have second : ∀ r, r ≤ allI C w (cN C) → 0 ≤ r → (∀ s, 0 ≤ s → s < r → ¬ stC C w s) → ∀ h', (∀ b, ¬ b = 40 → h' b = h b) → (∀ p, 0 ≤ p → p < cN C → h' 40 p = dgt C w r p) → IV_areStrong_37 g h' e (allI C w (cN C)) r K := by
    refine up_ind ?_ ?_
    · intro _ hz h' F _
      exact IV_areStrong_37_wp hG he ⟨fun _ => kf (fun ⟨s, s0, s1, s2⟩ => hz s s0 s1 s2) h' F, fun z => absurd z (by omega)⟩
    · intro r hr ih r0 hz h' F D
      have np := allI_pos W (w := w) (cN C) W.1 hN (by omega)
      have E' := E.keep (h' := h') (fun b hb => F b (by omega))
      have I' := I.keep (h' := h') (F 37 (by omega)) (F 38 (by omega)) (F 39 (by omega))
      have Ch : Cho h' C w (dgt C w r) := fun p p0 p1 => by
        have n := np p p0 p1
        refine ⟨D p p0 p1, Int.emod_nonneg _ (by omega), ?_⟩
        rw [← nIn_in p0 p1]
        exact Int.emod_lt_of_pos _ (by omega)
      refine IV_areStrong_37_wp hG he ⟨fun z => absurd z (by omega), fun _ => IV_isStrongChoice_spec hG he E' I' Ch (fun y => ⟨fun z => absurd z (by decide), fun _ => kt ⟨r, r0, hr, y⟩ h' F⟩) (fun y => ⟨fun _ => ?_, fun z => absurd rfl z⟩)⟩
      rw [E'.1.1, mwi (z := r + 1) (by omega) (by omega)]
      refine IV_chooseNext_spec hG W I' r0 np D (fun h'' F' D' => ih (by omega) (fun s s0 s1 => ?_) h'' (fun b n => by rw [F' b n]; exact F b n) D')
      by_cases es : s = r
      · rw [es]; exact y
      · exact hz s s0 (by omega)
  have first : ∀ p, p ≤ cN C → 0 ≤ p → IV_areStrong_4 g h e (allI C w p) p K := by
    refine up_ind ?_ ?_
    · intro _
      refine IV_areStrong_4_wp hG he ⟨fun _ => ?_, fun z => absurd z (by rw [E.1.1]; omega)⟩
      refine AR_fill_spec hG mis40 (by decide) ?_
      refine second 0 ar.1 (Int.le_refl _) (fun s s0 s1 => by omega) _ (fun b n => ?_) (fun p p0 p1 => ?_)
      · funext i; rw [if_neg (fun z => n z.1)]
      · rw [if_pos ⟨rfl, p0, by omega⟩]
        unfold dgt
        rw [lft_0 p0, Int.zero_emod]
    · intro p hp ih p0
      refine IV_areStrong_4_wp hG he ⟨fun z => absurd z (by rw [E.1.1]; omega), fun _ => ⟨⟨p0, by omega⟩, ?_⟩⟩
      have a := allI_r W (w := w) (p + 1) (by omega) (by omega)
      have a6 := p5 (p + 1)
      rw [allI_s p0, nIn_in p0 hp] at a
      rw [(I p p0 hp).1, mwi (z := allI C w p * _) (by omega) (by omega), mwi (z := p + 1) (by omega) (by omega)]
      rintro v2 rfl
      have ih := ih (by omega)
      rw [allI_s p0, nIn_in p0 hp] at ih
      exact ih
  exact first 0 W.1 (Int.le_refl _)
end IV
