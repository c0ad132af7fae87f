section MD
variable {sw : Bool} {g : Nat → Nat → Nat} {h : Nat → Int → Int} {C : Cmp} {c : Int → Int} {w : Wsh}
theorem VLo.mono {h' : Nat → Int → Int} {d e : Int → Int} (L : VLo h' C d) (hle : ∀ q, e q ≤ d q) : VLo h' C e := fun p k q p0 p1 k0 k1 q0 q1 => by
  obtain ⟨a1, a2, a3⟩ := L p k q p0 p1 k0 k1 q0 q1
  exact ⟨a1, a2, fun z => a3 (by have := hle p; omega)⟩
theorem MD_layVectors_spec (hG : Gok sw g) (R : MdR h C) (V : Valid C) (iV : IsV C (vec C)) (P : ∀ p k, 0 ≤ p → p < cN C → 0 ≤ k → k < cS C p → h 72 (9 * p + k) = cPt C p k) {K : (Nat → Int → Int) → Prop}
    (kk : ∀ h', (∀ b, ¬ b = 73 → h' b = h b) → (∀ p k q, 0 ≤ p → p < cN C → 0 ≤ k → k < cS C p → 0 ≤ q → q < cN C → h' 73 (4 * (9 * p + k) + q) = vec C p k q) → K h') : MD_layVectors g h K := by
  have W := V.1
  have hN := W.2.1
  have hT := cT_r W
  obtain ⟨W', f, wt, O⟩ := id V
  have Fm : ∀ t : Nat, (t : Int) < cT C → ∀ q, f t q ≤ f (t + 1) q := fun t ht q => O.mono ht q
  -- one event more is right after each turn
  have sweep : ∀ t : Nat, (t : Int) < cT C → ∀ u3, (∀ h' u2 u3, (∀ b, ¬ b = 73 → h' b = h b) → VLo h' C (f (t + 1)) → MD_layVectors_24 g h' (t + 1) u2 u3 K) → ∀ h', (∀ b, ¬ b = 73 → h' b = h b) → VLo h' C (f t) → MD_layVectors_32 g h' t 0 u3 K := by
    intro t ht u3 next h0 F0 L0
    obtain ⟨w0, w1, wc, wf⟩ := O.2.1 t ht
    have wr := wc.1
    have inner : ∀ p, 0 ≤ p → p < cN C → (∀ h' u3, (∀ b, ¬ b = 73 → h' b = h b) → VLo h' C (f t) → (wt t < p + 1 → VLo h' C (f (t + 1))) → MD_layVectors_32 g h' t (p + 1) u3 K) →
        ∀ k : Int, k ≤ cS C p → ∀ h', 0 ≤ k → (∀ b, ¬ b = 73 → h' b = h b) → VLo h' C (f t) → ((wt t < p ∨ wt t = p ∧ f t p < k) → VLo h' C (f (t + 1))) → MD_layVectors_42 g h' t p k K := by
      intro p p0 p1 nx
      have hs := W.sz p
      refine up_ind ?_ ?_
      · intro h' k0 F L D
        refine MD_layVectors_42_wp hG ⟨⟨p0, by omega⟩, fun _ => ?_, fun z => absurd z (by rw [F 69 (by omega), R.2.1 p p0 (by omega)]; omega)⟩
        rw [mwi (by omega) (by omega)]
        refine nx h' _ F L (fun z => D ?_)
        by_cases e : wt t = p
        · exact Or.inr ⟨e, by rw [← e]; exact wr⟩
        · exact Or.inl (by omega)
      · intro k hk ih h' k0 F L D
        have R' : MdR h' C := R.keep (by rw [F 68 (by omega)]) (F 69 (by omega)) (F 70 (by omega)) (F 71 (by omega))
        have P' : ∀ p k, 0 ≤ p → p < cN C → 0 ≤ k → k < cS C p → h' 72 (9 * p + k) = cPt C p k := fun p k a b e d => by rw [F 72 (by omega)]; exact P p k a b e d
        refine MD_layVectors_42_wp hG ⟨⟨p0, by omega⟩, fun z => absurd z (by rw [F 69 (by omega), R.2.1 p p0 (by omega)]; omega), fun _ => ?_⟩
        rw [mwi (z := k + 1) (by omega) (by omega)]
        rcases Classical.em (wt t < p ∨ wt t = p ∧ f t p < k) with z | z
        · refine MD_layVector_spec hG R' V iV P' (D z) p0 p1 k0 hk (fun h2 F2 L2 _ => ih h2 (by omega) (fun b nb => (F2 b nb).trans (F b nb)) (L2.mono (Fm t ht)) (fun _ => L2))
        · refine MD_layVector_spec hG R' V iV P' L p0 p1 k0 hk (fun h2 F2 L2 M2 => ih h2 (by omega) (fun b nb => (F2 b nb).trans (F b nb)) L2 (fun z2 => ?_))
          have e1 : wt t = p := by omega
          have e2 : f t p = k := by omega
          refine M2 (f (t + 1)) (fun q => ?_) (by omega) (fun hk2 => ?_)
          · rw [wf, e1]
            by_cases eq : q = p
            · rw [eq, inc_at, if_pos rfl]; omega
            · rw [inc_ne eq, if_neg eq]
          · have hn := recv_pt V p0 p1 k0 hk hk2
            refine (isNth_lt hn ((O.fin W t (by omega)).1 _).1).mpr ?_
            have := wc.2
            rw [e1, e2] at this
            exact this hk2
    have outer : ∀ p : Int, p ≤ cN C → ∀ h' u3, 0 ≤ p → (∀ b, ¬ b = 73 → h' b = h b) → VLo h' C (f t) → (wt t < p → VLo h' C (f (t + 1))) → MD_layVectors_32 g h' t p u3 K := by
      refine up_ind ?_ ?_
      · intro h' u3 _ F L D
        refine MD_layVectors_32_wp hG ⟨fun _ => ?_, fun z => absurd z (by rw [F 68 (by omega), R.1]; omega)⟩
        rw [mwi (by omega) (by omega)]
        exact next h' _ _ F (D w1)
      · intro p hp ih h' u3 p0 F L D
        refine MD_layVectors_32_wp hG ⟨fun z => absurd z (by rw [F 68 (by omega), R.1]; omega), fun _ => ?_⟩
        refine inner p p0 hp (fun h' u3 F L D => ih h' u3 (by omega) F L D) 0 (W.sz p).1 h' (Int.le_refl _) F L (fun z => D ?_)
        have := ((O.fin W t (by omega)).1 p).1
        omega
    exact outer 0 W.1 h0 u3 (Int.le_refl _) F0 L0 (fun z => by omega)
  -- when all are right they stay so
  have still : ∀ t : Int, t ≤ 17 → ∀ h' u2 u3, 0 ≤ t → (∀ b, ¬ b = 73 → h' b = h b) → VLo h' C (cS C) → MD_layVectors_24 g h' t u2 u3 K := by
    refine up_ind ?_ ?_
    · intro h' u2 u3 _ F L
      exact MD_layVectors_24_wp hG ⟨fun _ => kk h' F (fun p k q p0 p1 k0 k1 q0 q1 => (L p k q p0 p1 k0 k1 q0 q1).2.2 k1), fun z => absurd z (by omega)⟩
    · intro t ht ih h' u2 u3 t0 F L
      refine MD_layVectors_24_wp hG ⟨fun z => absurd z (by omega), fun _ => ?_⟩
      have outer : ∀ p : Int, p ≤ cN C → ∀ h' u3, 0 ≤ p → (∀ b, ¬ b = 73 → h' b = h b) → VLo h' C (cS C) → MD_layVectors_32 g h' t p u3 K := by
        refine up_ind ?_ ?_
        · intro h' u3 _ F L
          refine MD_layVectors_32_wp hG ⟨fun _ => ?_, fun z => absurd z (by rw [F 68 (by omega), R.1]; omega)⟩
          rw [mwi (by omega) (by omega)]
          exact ih h' _ _ (by omega) F L
        · intro p hp ih2 h' u3 p0 F L
          refine MD_layVectors_32_wp hG ⟨fun z => absurd z (by rw [F 68 (by omega), R.1]; omega), fun _ => ?_⟩
          have hs := W.sz p
          have inner : ∀ k : Int, k ≤ cS C p → ∀ h', 0 ≤ k → (∀ b, ¬ b = 73 → h' b = h b) → VLo h' C (cS C) → MD_layVectors_42 g h' t p k K := by
            refine up_ind ?_ ?_
            · intro h' k0 F L
              refine MD_layVectors_42_wp hG ⟨⟨p0, by omega⟩, fun _ => ?_, fun z => absurd z (by rw [F 69 (by omega), R.2.1 p p0 (by omega)]; omega)⟩
              rw [mwi (by omega) (by omega)]
              exact ih2 h' _ (by omega) F L
            · intro k hk ih3 h' k0 F L
              have R' : MdR h' C := R.keep (by rw [F 68 (by omega)]) (F 69 (by omega)) (F 70 (by omega)) (F 71 (by omega))
              have P' : ∀ p k, 0 ≤ p → p < cN C → 0 ≤ k → k < cS C p → h' 72 (9 * p + k) = cPt C p k := fun p k a b e d => by rw [F 72 (by omega)]; exact P p k a b e d
              refine MD_layVectors_42_wp hG ⟨⟨p0, by omega⟩, fun z => absurd z (by rw [F 69 (by omega), R.2.1 p p0 (by omega)]; omega), fun _ => ?_⟩
              rw [mwi (z := k + 1) (by omega) (by omega)]
              exact MD_layVector_spec hG R' V iV P' L p0 hp k0 hk (fun h2 F2 L2 _ => ih3 h2 (by omega) (fun b nb => (F2 b nb).trans (F b nb)) L2)
          exact inner 0 hs.1 h' (Int.le_refl _) F L
      exact outer 0 W.1 h' _ (Int.le_refl _) F L
  have turns : ∀ t : Int, t ≤ cT C → ∀ h' u2 u3, 0 ≤ t → (∀ b, ¬ b = 73 → h' b = h b) → VLo h' C (f t.toNat) → MD_layVectors_24 g h' t u2 u3 K := by
    refine up_ind ?_ ?_
    · intro h' u2 u3 _ F L
      refine still _ (by omega) h' u2 u3 hT.1 F ?_
      have e : f (cT C).toNat = cS C := by funext q; exact O.2.2 _ (by omega) q
      rw [← e]; exact L
    · intro t ht ih h' u2 u3 t0 F L
      refine MD_layVectors_24_wp hG ⟨fun z => absurd z (by omega), fun _ => ?_⟩
      have en : ((t.toNat : Nat) : Int) = t := by omega
      have s := sweep t.toNat (by omega) u3 (fun h' u2 u3 F L => ?_) h' F L
      · rw [en] at s; exact s
      · have i := ih h' u2 u3 (by omega) F (by rw [show (t + 1).toNat = t.toNat + 1 by omega]; exact L)
        rw [en]; exact i
  have zero : ∀ i : Int, i ≤ 144 → ∀ h' u2 u3, 0 ≤ i → (∀ b, ¬ b = 73 → h' b = h b) → (∀ j, 0 ≤ j → j < i → h' 73 j = 0) → MD_layVectors_2 g h' i u2 u3 K := by
    refine up_ind ?_ ?_
    · intro h' u2 u3 _ F Z
      refine MD_layVectors_2_wp hG ⟨fun _ => turns 0 hT.1 h' _ _ (Int.le_refl _) F (fun p k q p0 p1 k0 k1 q0 q1 => ?_), fun z => absurd z (by omega)⟩
      have hs := W.sz p
      rw [Z _ (by omega) (by omega)]
      refine ⟨Int.le_refl _, (vec_nn V iV p0 p1 k0 k1 q0 q1).1, fun z => ?_⟩
      rw [show (0 : Int).toNat = 0 from rfl, O.1 p] at z
      omega
    · intro i hi ih h' u2 u3 i0 F Z
      refine MD_layVectors_2_wp hG ⟨fun z => absurd z (by omega), fun _ => ?_⟩
      simp (disch := omega) only [mwi, forall_eq, bd]
      refine ih _ _ _ (by omega) (fun b nb => by rw [upd_ob nb]; exact F b nb) (fun j j0 j1 => ?_)
      by_cases e : j = i
      · rw [e, upd_at]
      · rw [upd_ix e]; exact Z j j0 (by omega)
  refine MD_layVectors_wp hG ?_
  exact zero 0 (by omega) h _ _ (Int.le_refl _) (fun _ _ => rfl) (fun j j0 j1 => by omega)
/-- what changes() leaves -/
theorem MD_changes_spec (hG : Gok sw g) (R : MdR h C) (V : Valid C) (hn : 1 ≤ cN C) {K : (Nat → Int → Int) → Prop}
    (kk : ∀ h', (∀ b, ¬ b = 68 → ¬ b = 72 → ¬ b = 73 → h' b = h b) → (∀ i, ¬ i = 10 → ¬ i = 12 → h' 68 i = h 68 i) → h' 68 10 = 0 → h' 68 12 = 0 → MdOk h' C → K h') : MD_changes g h K := by
  obtain ⟨iV⟩ : Nonempty (IsV C (vec C)) := ⟨vec_isV V⟩
  refine MD_changes_wp hG ?_
  simp only [forall_eq]
  have R2 : MdR (mvUpd (mvUpd h 68 10 0) 68 12 0) C := R.keep (by rw [upd_ix (by omega), upd_ix (by omega)]) (by rw [upd_ob (by omega), upd_ob (by omega)]) (by rw [upd_ob (by omega), upd_ob (by omega)]) (by rw [upd_ob (by omega), upd_ob (by omega)])
  refine MD_layPartners_spec hG R2 V.1 (fun h3 F3 P3 => ?_)
  have R3 : MdR h3 C := R2.keep (by rw [F3 68 (by omega)]) (F3 69 (by omega)) (F3 70 (by omega)) (F3 71 (by omega))
  refine MD_layVectors_spec hG R3 V iV P3 (fun h4 F4 L4 => ?_)
  have o : ∀ b, ¬ b = 72 → ¬ b = 73 → h4 b = mvUpd (mvUpd h 68 10 0) 68 12 0 b := fun b n2 n3 => (F4 b n3).trans (F3 b n2)
  refine kk h4 (fun b n1 n2 n3 => by rw [o b n2 n3, upd_ob n1, upd_ob n1]) (fun i n1 n2 => by rw [o 68 (by omega) (by omega), upd_ix n2, upd_ix n1]) (by rw [o 68 (by omega) (by omega), upd_ix (by omega), upd_at]) (by rw [o 68 (by omega) (by omega), upd_at]) ⟨R3.keep (by rw [F4 68 (by omega)]) (F4 69 (by omega)) (F4 70 (by omega)) (F4 71 (by omega)), ⟨fun p k p0 p1 k0 k1 => by rw [F4 72 (by omega)]; exact P3 p k p0 p1 k0 k1, L4⟩, V, iV, hn⟩
end MD
