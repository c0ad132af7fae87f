/-! digest: the model, the whole -/
section DG
variable {sw : Bool} {g : Nat → Nat → Nat} {h h0 : Nat → Int → Int} {A : Sta} {a : Int}
theorem MD_mixPlayed_spec {K : (Nat → Int → Int) → Prop} (hG : Gok sw g) (P : StP A) (ne : ¬ sps A = -1) (D : DM h0 A a h) (k : ∀ h', DM h0 A (dT A (dY (sst A) a (sps A))) h' → K h') : MD_mixPlayed g h K := by
  have W := P.1
  have hT := cT_r W
  have eT : sps A = cT (sC A) := by
    rcases P.2.2.2.1 with z | ⟨z, -⟩
    · exact absurd z ne
    · exact z
  have tail : ∀ h, DM h0 A (dY (sst A) a (sps A)) h → MD_mixPlayed_29 g h 0 K := by
    intro h D
    obtain ⟨e1, e2⟩ := D.2.1.2.2.2.2.2.1
    unfold dT at k
    refine MD_mixPlayed_29_wp hG ⟨fun z => absurd z (by decide), fun _ => ⟨fun z => ?_, fun z => ?_⟩⟩
    · rw [if_pos (e1.mp z)] at k; exact k h D
    · have n : ¬ stk A = 0 := fun y => z (e1.mpr y)
      rw [if_neg n] at k
      refine ⟨fun y => absurd rfl y, fun _ => ?_⟩
      rw [(e2 n).1, mwi (by omega) (by omega)]
      rintro h3 rfl
      have D1 := D.put (v := scu A)
      generalize mvUpd h 68 44 (mwl ((mwl (31 * (h 68 44))) + scu A)) = h3 at D1 ⊢
      obtain ⟨f1, f2⟩ := D1.2.1.2.2.2.2.2.1
      refine MD_mixPlayed_29_wp hG ⟨fun z => absurd z (by decide), fun _ => ⟨fun z => absurd (f1.mp z) n, fun _ => ⟨fun _ => ⟨fun y => absurd rfl y, fun _ => ?_⟩, fun y => absurd y (by decide)⟩⟩⟩
      rw [(f2 n).2.1, mwi (by omega) (by omega)]
      rintro h4 rfl
      have D2 := D1.put (v := sfo A)
      generalize mvUpd h3 68 44 (mwl ((mwl (31 * (h3 68 44))) + sfo A)) = h4 at D2 ⊢
      obtain ⟨q1, q2⟩ := D2.2.1.2.2.2.2.2.1
      refine MD_mixPlayed_29_wp hG ⟨fun z => absurd z (by decide), fun _ => ⟨fun z => absurd (q1.mp z) n, fun _ => ⟨fun _ => ⟨fun _ => ?_, fun y => absurd y (by decide)⟩, fun y => absurd y (by decide)⟩⟩⟩
      rw [(q2 n).2.2, mwi (by omega) (by omega)]
      rintro h5 rfl
      exact MD_mixPlayed_29_wp hG ⟨fun _ => k _ (D2.put (v := sla A)), fun z => absurd z (by decide)⟩
  have key : ∀ i : Int, i ≤ sps A → 0 ≤ i → ∀ h, DM h0 A (dY (sst A) a i) h → MD_mixPlayed_2 g h i K := by
    refine up_ind ?_ ?_
    · intro _ h D
      exact MD_mixPlayed_2_wp hG (MD_eventsAll_spec hG D.2.1.2.1 W ⟨fun _ => tail h D, fun z => absurd z (by omega)⟩)
    · intro i hi ih i0 h D
      refine MD_mixPlayed_2_wp hG (MD_eventsAll_spec hG D.2.1.2.1 W ⟨fun z => absurd z (by omega), fun _ => ⟨⟨i0, by omega⟩, ?_⟩⟩)
      rw [D.2.1.2.2.2.2.1.2 i i0 hi, mwi (z := i + 1) (by omega) (by omega)]
      rintro h3 rfl
      have ih := ih (by omega)
      unfold dY at ih D
      rw [it_s i0] at ih
      exact ih _ D.put
  exact MD_mixPlayed_wp hG (key 0 (by omega) (Int.le_refl _) h D)
theorem MD_digest_spec {K : Int → (Nat → Int → Int) → Prop} (hG : Gok sw g) (P : StP A) (I : InvM h A) (k : ∀ h', FrM h h' → InvM h' A → K (aDigest A) h') : MD_digest g h K := by
  have W := P.1
  have hN0 := W.1
  obtain ⟨n0, n1, -⟩ := P.2.2.1
  have key : ∀ h', DM h A (aDigest A) h' → K (h' 68 44) h' := fun h' D => by rw [D.2.2]; exact k h' D.1 D.2.1
  unfold aDigest at key
  have tail : ∀ h' u, DM h A (d0 A) h' → MD_digest_33 g h' u K := by
    generalize d0 A = b at key
    intro h' u D
    have counts : ∀ x : Int, x ≤ 8 → 0 ≤ x → ∀ h', DM h A (dC A (dY (scd A) (dT A (dY (sst A) b (sps A))) (sn A)) x) h' → MD_digest_73 g h' x K := by
      refine up_ind ?_ ?_
      · intro _ h' D
        exact MD_digest_73_wp hG ⟨fun _ => key h' D, fun z => absurd z (by omega)⟩
      · intro x hx ih x0 h' D
        refine MD_digest_73_wp hG ⟨fun z => absurd z (by omega), fun _ => MD_howMany_spec hG P D.2.1 ?_⟩
        rw [mwi (z := x + 1) (by omega) (by omega)]
        rintro h3 rfl
        have ih := ih (by omega)
        unfold dC at ih D
        rw [it_s x0] at ih
        exact ih _ D.put
    have page : ∀ i : Int, i ≤ sn A → 0 ≤ i → ∀ h', DM h A (dY (scd A) (dT A (dY (sst A) b (sps A))) i) h' → MD_digest_46 g h' i K := by
      refine up_ind ?_ ?_
      · intro _ h' D
        exact MD_digest_46_wp hG ⟨fun _ => counts 0 (by omega) (Int.le_refl _) h' D, fun z => absurd z (by rw [D.2.1.1.1]; omega)⟩
      · intro i hi ih i0 h' D
        refine MD_digest_46_wp hG ⟨fun z => absurd z (by rw [D.2.1.1.1]; omega), fun _ => ⟨⟨i0, by omega⟩, ?_⟩⟩
        rw [D.2.1.1.2 i i0 hi, mwi (z := i + 1) (by omega) (by omega)]
        rintro h3 rfl
        have ih := ih (by omega)
        unfold dY at ih D
        rw [it_s i0] at ih
        exact ih _ D.put
    refine MD_digest_33_wp hG ⟨fun z => ?_, fun z => ?_⟩
    · have e := D.2.1.2.2.2.2.1.1.mp z
      have t0 : stk A = 0 := by
        rcases P.2.2.2.2 with y | y
        · exact y
        · exact absurd e y
      refine page 0 n0 (Int.le_refl _) h' ?_
      have e1 : dT A (dY (sst A) b (sps A)) = b := by
        unfold dT dY
        rw [if_pos t0, it_neg (by omega)]
      rw [e1]
      exact D
    · exact MD_mixPlayed_spec hG P (fun y => z (D.2.1.2.2.2.2.1.1.mpr y)) D (fun h2 D2 => page 0 n0 (Int.le_refl _) h2 D2)
  have second : ∀ h' u, DM h A (pick (cN (sC A) = 0) 1549 (dB (sC A) (sW A) 1549)) h' → MD_digest_22 g h' u K := by
    intro h' u D
    have R := D.2.1.2.1
    unfold d0 at tail
    refine MD_digest_22_wp hG ⟨fun z => ?_, fun z => ⟨fun z2 => ?_, fun z2 => ?_⟩⟩
    · rw [R.1] at z
      rw [pick_t (by omega)] at tail D
      exact tail h' u D
    · rw [R.1] at z
      rw [D.2.1.2.2.2.1.1] at z2
      rw [pick_f (by omega)] at D
      rw [pick_f (by omega), pick_f z2] at tail
      exact tail h' u D
    · rw [R.1] at z
      rw [D.2.1.2.2.2.1.1] at z2
      rw [pick_f (by omega)] at D
      rw [pick_f (by omega), pick_t z2] at tail
      exact MD_mixAll_spec hG z z2 D (fun h2 D2 => tail h2 u D2)
  refine MD_digest_wp hG ?_
  rintro h1 rfl
  have D1 : DM h A 1549 (mvUpd h 68 44 1549) := ⟨fun b hb => upd_ob (by omega), I.mod2 (fun b b1 b2 => upd_ob (by omega)) (fun i hi => upd_ix (by omega)), upd_at⟩
  generalize mvUpd h 68 44 1549 = h1 at D1 ⊢
  have R := D1.2.1.2.1
  rw [R.1]
  refine ⟨fun z => ?_, fun z => ?_⟩
  · rw [pick_t (by omega)] at second
    exact second h1 _ D1
  · rw [pick_f (by omega)] at second
    exact MD_mixEvents_spec hG z D1 (fun h2 D2 => MD_mixCuts_spec hG z D2 (fun h3 D3 => second h3 _ (by unfold dB; exact D3)))
end DG
