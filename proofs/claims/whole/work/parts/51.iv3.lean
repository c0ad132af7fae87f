/-! IV_find -/
theorem IvR.keep {h h' : Nat → Int → Int} {C : Cmp} {w : Wsh} {q : Int} (W : Wf C) (R : IvR h C w q (cS C q + 1)) (h1 : h' 37 q = h 37 q) (h2 : ∀ i, i < 5 * q + 5 → h' 38 i = h 38 i) (h3 : ∀ i, i < 5 * q + 5 → h' 39 i = h 39 i) : IvR h' C w q (cS C q + 1) := by
  have hs := W.sz q
  refine ⟨by rw [h1]; exact R.1, fun b b0 b1 hb => ?_, fun x hx => ?_⟩
  · have : nIv C w q b < nIv C w q (b + 1) := cntI_lt b0 (by omega) hb
    have := (nIv_le (C := C) (w := w) (p := q) (k := b + 1) (by omega)).2.1
    rw [h2 _ (by omega)]; exact R.2.1 b b0 b1 hb
  · have x0 := hx.1; have x1 := hx.2.1
    have := (nIv_le (C := C) (w := w) (p := q) (k := x + 1) (by omega)).2.1
    rw [h3 _ (by omega)]; exact R.2.2 x hx
section IV
variable {sw : Bool} {g : Nat → Nat → Nat} {h : Nat → Int → Int} {e : Nat} {C : Cmp} {c : Int → Int} {w : Wsh}
theorem IV_find_spec (hG : Gok sw g) (he : EvId e) (E : EvOk e h C) (P : PrOk h w) {K : (Nat → Int → Int) → Prop} (k : ∀ h', (∀ b, ¬ b = 37 → ¬ b = 38 → ¬ b = 39 → h' b = h b) → IvOk h' C w → K h') : IV_find g h e K := by
  have W := E.2.2.1.1
  have hN := W.2.1
  have ed : e + 8 < 37 ∨ 39 < e := by unfold EvId at he; omega
  refine IV_find_wp hG he ?_
  refine AR_fill_spec hG mis37 (by decide) ?_
  have outer : ∀ p, p ≤ cN C → 0 ≤ p → ∀ h', (∀ b, ¬ b = 37 → ¬ b = 38 → ¬ b = 39 → h' b = h b) → (∀ q, 0 ≤ q → q < p → IvR h' C w q (cS C q + 1)) → (∀ q, p ≤ q → q < 4 → h' 37 q = 0) → ∀ u4 u5 u6, IV_find_10 g h' e p u4 u5 u6 K := by
    refine up_ind ?_ ?_
    · intro _ h' F I _ u4 u5 u6
      have E' := E.keep (h' := h') (fun b hb => F b (by omega) (by omega) (by omega))
      exact IV_find_10_wp hG he ⟨fun _ => k h' F I, fun z => absurd z (by rw [E'.1.1]; omega)⟩
    · intro p hp ih p0 h' F I Z u4 u5 u6
      have hs := W.sz p
      have E' := E.keep (h' := h') (fun b hb => F b (by omega) (by omega) (by omega))
      refine IV_find_10_wp hG he ⟨fun z => absurd z (by rw [E'.1.1]; omega), fun _ => ?_⟩
      have inner : ∀ k', k' ≤ cS C p + 1 → 0 ≤ k' → ∀ h', (∀ b, ¬ b = 37 → ¬ b = 38 → ¬ b = 39 → h' b = h b) → (∀ q, 0 ≤ q → q < p → IvR h' C w q (cS C q + 1)) → (∀ q, p + 1 ≤ q → q < 4 → h' 37 q = 0) → IvR h' C w p k' → ∀ l, ((l = 1 ∧ 0 < k' ∧ okv C w p (k' - 1)) ∨ (l = 0 ∧ (k' = 0 ∨ ¬ okv C w p (k' - 1)))) → ∀ u6, IV_find_24 g h' e p l k' u6 K := by
        refine up_ind ?_ ?_
        · intro _ h' F I Z R l hl u6
          have E' := E.keep (h' := h') (fun b hb => F b (by omega) (by omega) (by omega))
          refine IV_find_24_wp hG he ⟨⟨p0, by omega⟩, fun _ => ?_, fun z => absurd z (by rw [E'.1.2.2.1 p p0 (by omega)]; omega)⟩
          rw [mwi (z := p + 1) (by omega) (by omega)]
          refine ih (by omega) h' F (fun q q0 q1 => ?_) Z _ _ _
          by_cases eq : q = p
          · rw [eq]; exact R
          · exact I q q0 (by omega)
        · intro k' hk ih2 k0 h' F I Z R l hl u6
          have E' := E.keep (h' := h') (fun b hb => F b (by omega) (by omega) (by omega))
          have P' := P.keep (F 31 (by omega) (by omega) (by omega)) (F 32 (by omega) (by omega) (by omega))
          have nl := nIv_le (C := C) (w := w) (p := p) k0
          refine IV_find_24_wp hG he ⟨⟨p0, by omega⟩, fun z => absurd z (by rw [E'.1.2.2.1 p p0 (by omega)]; omega), fun _ => ?_⟩
          rw [row10 p0 (by omega) k0 (by omega), (E'.2.1.2.2 p k' p0 hp k0 (by omega)).1, P'.2.2.1 p p0 (by omega), mwi (z := k' + 1) (by omega) (by omega), R.1]
          refine ⟨⟨by omega, by omega⟩, ⟨p0, by omega⟩, fun hz => ?_, fun hz => ⟨fun l1 => ?_, fun l0 => ?_⟩⟩
          · have no : ¬ okv C w p k' := fun y => y hz
            exact ih2 (by omega) h' F I Z (R.no k0 no) 0 (Or.inr ⟨rfl, Or.inr (by rw [show k' + 1 - 1 = k' by omega]; exact no)⟩) _
          · have yes : okv C w p k' := hz
            rcases hl with ⟨-, h1, h2⟩ | ⟨h1, -⟩
            · have np : 1 ≤ nIv C w p k' := by
                have l := nIv_le (C := C) (w := w) (p := p) (k := k' - 1) (by omega)
                by_cases y : 0 < nIv C w p k'
                · omega
                · exfalso
                  -- an allowed prefix lies in some interval
                  have key : ∀ m, 0 ≤ m → okv C w p m → 0 < nIv C w p (m + 1) := by
                    refine int_ind ?_ ?_
                    · intro o
                      have : nIv C w p (0 + 1) = nIv C w p 0 + 1 := cntI_y (by omega) ⟨o, Or.inl rfl⟩
                      have : nIv C w p 0 = 0 := cntI_0
                      omega
                    · intro m hm ihm o
                      by_cases om : okv C w p m
                      · have := ihm om
                        have := nIv_mono (C := C) (w := w) (p := p) (k := m + 1) (m := m + 1 + 1) (by omega) (by omega)
                        omega
                      · have : nIv C w p (m + 1 + 1) = nIv C w p (m + 1) + 1 := cntI_y (by omega) ⟨o, Or.inr (by rw [show m + 1 - 1 = m by omega]; exact om)⟩
                        have := (nIv_le (C := C) (w := w) (p := p) (k := m + 1) (by omega)).1
                        omega
                  have := key (k' - 1) (by omega) h2
                  rw [show k' - 1 + 1 = k' by omega] at this
                  omega
              rw [row5 p0 (by omega) nl.1 (by omega), mwi (z := 5 * p + nIv C w p k' - 1) (by omega) (by omega)]
              refine ⟨⟨p0, by omega⟩, ⟨by omega, by omega⟩, ?_⟩
              rintro h1 rfl
              refine ih2 (by omega) _ (fun b n1 n2 n3 => by rw [upd_ob n3]; exact F b n1 n2 n3) (fun q q0 q1 => (I q q0 q1).keep W (by rw [upd_ob (by omega)]) (fun i _ => by rw [upd_ob (by omega)]) (fun i hi => upd_ix (by omega))) (fun q q0 q1 => by rw [upd_ob (by omega)]; exact Z q q0 q1) (R.in h1 yes h2) 1 (Or.inl ⟨rfl, by omega, by rw [show k' + 1 - 1 = k' by omega]; exact yes⟩) _
            · exact absurd h1 l1
          · have yes : okv C w p k' := hz
            rcases hl with ⟨h1, -, -⟩ | ⟨-, h1⟩
            · omega
            · have nw : nIv C w p (k' + 1) = nIv C w p k' + 1 := cntI_y k0 ⟨yes, h1⟩
              have nl2 := (nIv_le (C := C) (w := w) (p := p) (k := k' + 1) (by omega)).2.1
              rw [row5 p0 (by omega) nl.1 (by omega)]
              refine ⟨⟨p0, by omega⟩, ⟨by omega, by omega⟩, ?_⟩
              rintro h2 rfl
              refine ⟨⟨p0, by omega⟩, ⟨p0, by omega⟩, ?_⟩
              rw [upd_ob (b := 37) (a := 38) (by omega), R.1, mwi (z := nIv C w p k' + 1) (by omega) (by omega)]
              rintro h3 rfl
              rw [upd_at, row5 p0 (by omega) (by omega) (by omega), mwi (z := 5 * p + (nIv C w p k' + 1) - 1) (by omega) (by omega), show 5 * p + (nIv C w p k' + 1) - 1 = 5 * p + nIv C w p k' by omega]
              refine ⟨⟨p0, by omega⟩, ⟨by omega, by omega⟩, ?_⟩
              rintro h4 rfl
              refine ih2 (by omega) _ (fun b n1 n2 n3 => by rw [upd_ob n3, upd_ob n1, upd_ob n2]; exact F b n1 n2 n3) (fun q q0 q1 => (I q q0 q1).keep W (by rw [upd_ob (by omega), upd_ix (by omega), upd_ob (by omega)]) (fun i hi => by rw [upd_ob (by omega), upd_ob (by omega), upd_ix (by omega)]) (fun i hi => by rw [upd_ix (by omega), upd_ob (by omega), upd_ob (by omega)])) (fun q q0 q1 => by rw [upd_ob (by omega), upd_ix (by omega), upd_ob (by omega)]; exact Z q q0 q1) (R.new k0 yes h1) 1 (Or.inl ⟨rfl, by omega, by rw [show k' + 1 - 1 = k' by omega]; exact yes⟩) _
      exact inner 0 (by omega) (Int.le_refl _) h' F I (fun q q0 q1 => Z q (by omega) q1) ⟨by rw [Z p (Int.le_refl _) (by omega)]; rfl, fun b b0 b1 => by omega, fun x hx => by have := hx.1; have := hx.2.1; omega⟩ 0 (Or.inr ⟨rfl, Or.inl rfl⟩) _
  refine outer 0 W.1 (Int.le_refl _) _ (fun b n1 n2 n3 => ?_) (fun q q0 q1 => by omega) (fun q q0 q1 => ?_) _ _ _
  · funext i; rw [if_neg (fun z => n1 z.1)]
  · rw [if_pos ⟨rfl, q0, by omega⟩]
end IV
