/-! the model: run() -/
section MD
variable {sw : Bool} {g : Nat → Nat → Nat} {h : Nat → Int → Int} {C : Cmp} {c : Int → Int} {w : Wsh}
theorem MD_areOthers_spec (hG : Gok sw g) {s : Pst} (R : NwR h s) (P : Pwf s.1) {K : Int → (Nat → Int → Int) → Prop} (kt : Oth s.1 → K 1 h) (kf : ¬ Oth s.1 → K 0 h) : MD_areOthers g h K := by
  obtain ⟨R1, R2, R3, R4, R5⟩ := id R
  have hN := P.2.1
  refine MD_areOthers_wp hG ?_
  have outer : ∀ p : Int, p ≤ cN s.1 → 0 ≤ p → ∀ y u v, y = pick (∀ q k, 0 ≤ q → q < p → 0 ≤ k → k < cS s.1 q → cK s.1 q k = 0 ∨ (¬ cD s.1 q k = q ∧ cD s.1 q k < cN s.1)) 1 0 → MD_areOthers_4 g h y p u v K := by
    refine up_ind ?_ ?_
    · intro _ y u v hy
      refine MD_areOthers_4_wp hG ⟨fun _ => ?_, fun z => absurd z (by rw [R1]; omega)⟩
      rcases Classical.em (Oth s.1) with a | a
      · rw [hy, pick_t (fun q k q0 q1 k0 k1 => a q k q0 q1 k0 k1)]; exact ⟨Or.inr rfl, kt a⟩
      · rw [hy, pick_f (fun z => a (fun q k q0 q1 k0 k1 => z q k q0 q1 k0 k1))]; exact ⟨Or.inl rfl, kf a⟩
    · intro p hp ih p0 y u v hy
      have sp := P.sz p
      refine MD_areOthers_4_wp hG ⟨fun z => absurd z (by rw [R1]; omega), fun _ => ?_⟩
      have inner : ∀ k : Int, k ≤ cS s.1 p → 0 ≤ k → ∀ y v, y = pick (∀ q m, 0 ≤ q → (q < p ∨ q = p ∧ m < k) → 0 ≤ m → m < cS s.1 q → cK s.1 q m = 0 ∨ (¬ cD s.1 q m = q ∧ cD s.1 q m < cN s.1)) 1 0 → MD_areOthers_14 g h y p k v K := by
        refine up_ind ?_ ?_
        · intro k0 y v hy
          refine MD_areOthers_14_wp hG ⟨⟨p0, by omega⟩, fun _ => ?_, fun z => absurd z (by rw [R4 p p0 (by omega)]; omega)⟩
          rw [mwi (by omega) (by omega)]
          refine ih (by omega) y _ _ (hy.trans (pick_cg ⟨fun z q m q0 q1 m0 m1 => z q m q0 ?_ m0 m1, fun z q m q0 q1 m0 m1 => z q m q0 (by omega) m0 m1⟩))
          by_cases e : q = p
          · subst e; exact Or.inr ⟨rfl, m1⟩
          · exact Or.inl (by omega)
        · intro k hk ih2 k0 y v hy
          obtain ⟨r1, r2⟩ := R5 p k p0 hp k0 hk
          have nx : ∀ y' v, (y' = 1 ∧ ¬ y = 0 ∧ (cK s.1 p k = 0 ∨ (¬ cD s.1 p k = p ∧ cD s.1 p k < cN s.1))) ∨ (y' = 0 ∧ (y = 0 ∨ ¬ (cK s.1 p k = 0 ∨ (¬ cD s.1 p k = p ∧ cD s.1 p k < cN s.1)))) → MD_areOthers_14 g h y' p (k + 1) v K := fun y' v hc => by
            refine ih2 (by omega) y' v ?_
            have ext : (∀ q m, 0 ≤ q → (q < p ∨ q = p ∧ m < k + 1) → 0 ≤ m → m < cS s.1 q → cK s.1 q m = 0 ∨ (¬ cD s.1 q m = q ∧ cD s.1 q m < cN s.1)) ↔ (∀ q m, 0 ≤ q → (q < p ∨ q = p ∧ m < k) → 0 ≤ m → m < cS s.1 q → cK s.1 q m = 0 ∨ (¬ cD s.1 q m = q ∧ cD s.1 q m < cN s.1)) ∧ (cK s.1 p k = 0 ∨ (¬ cD s.1 p k = p ∧ cD s.1 p k < cN s.1)) := by
              constructor
              · intro z
                exact ⟨fun q m q0 q1 m0 m1 => z q m q0 (by omega) m0 m1, z p k p0 (Or.inr ⟨rfl, by omega⟩) k0 hk⟩
              · rintro ⟨z1, z2⟩ q m q0 q1 m0 m1
                by_cases e : q = p ∧ m = k
                · rw [e.1, e.2]; exact z2
                · exact z1 q m q0 (by omega) m0 m1
            rw [pick_cg ext]
            rcases hc with ⟨a1, a2, a3⟩ | ⟨a1, a2⟩
            · rw [a1]
              rw [hy, pick_1] at a2
              exact (pick_t ⟨a2, a3⟩).symm
            · rw [a1]
              refine (pick_f (fun z => ?_)).symm
              rcases a2 with a2 | a2
              · rw [hy, pick_0] at a2
                exact a2 z.1
              · exact a2 z.2
          refine MD_areOthers_14_wp hG ⟨⟨p0, by omega⟩, fun z => absurd z (by rw [R4 p p0 (by omega)]; omega), fun _ => ?_⟩
          simp (disch := omega) only [mwi, forall_eq, bd, r1, r2, R1]
          refine ⟨fun y0 => nx 0 _ (Or.inr ⟨rfl, Or.inl y0⟩), fun y0 => ⟨fun z => nx 1 _ (Or.inl ⟨rfl, y0, Or.inl z⟩), fun z => ⟨fun z2 => nx 0 _ (Or.inr ⟨rfl, Or.inr (fun q => ?_)⟩), fun z2 => ⟨fun z3 => nx 0 _ (Or.inr ⟨rfl, Or.inr (fun q => ?_)⟩), fun z3 => nx 1 _ (Or.inl ⟨rfl, y0, Or.inr ⟨z2, z3⟩⟩)⟩⟩⟩⟩
          · rcases q with q | q
            · exact z q
            · exact q.1 z2
          · rcases q with q | q
            · exact z q
            · omega
      refine inner 0 sp.1 (Int.le_refl _) y v (hy.trans (pick_cg ⟨fun z q m q0 q1 m0 m1 => ?_, fun z q m q0 q1 m0 m1 => z q m q0 (Or.inl q1) m0 m1⟩))
      rcases q1 with q1 | q1
      · exact z q m q0 q1 m0 m1
      · omega
  exact outer 0 P.1 (Int.le_refl _) 1 _ _ (pick_t (fun q k q0 q1 => by omega)).symm
theorem MD_canComeNew_spec (hG : Gok sw g) {s : Pst} (R : NwR h s) (W : Wf s.1) (hg : ∀ q, 0 ≤ q → q < 4 → h 80 q = c q) (hi : In s.1 c) {p : Int} {K : Int → (Nat → Int → Int) → Prop} (p0 : 0 ≤ p) (p1 : p < cN s.1) (kt : canF s.1 c p → K 1 h) (kf : ¬ canF s.1 c p → K 0 h) : MD_canComeNew g h p K := by
  obtain ⟨R1, R2, R3, R4, R5⟩ := id R
  have hN := W.2.1
  have hs := W.sz p
  have cp := hi p
  have Ro : ∀ q m, 0 ≤ q → q < cN s.1 → m ≤ cS s.1 q → ∀ i, 0 ≤ i → i < m → h 78 (9 * q + i) = cK s.1 q i ∧ h 79 (9 * q + i) = cD s.1 q i := fun q m q0 q1 hm i i0 i1 => R5 q i q0 q1 i0 (by omega)
  refine MD_canComeNew_wp hG ?_
  simp (disch := omega) only [bd, hg, R4]
  refine ⟨fun n => ?_, fun z => kf (fun y => by have := y.1; omega)⟩
  obtain ⟨r1, r2⟩ := R5 p (c p) p0 p1 cp.1 (by omega)
  simp (disch := omega) only [mwi, bd, forall_eq, r1, r2]
  refine ⟨fun hk => ?_, fun hk => kt ⟨by omega, fun z => absurd z hk⟩⟩
  rcases W.2.2.2.2.2 p (c p) p0 p1 cp.1 (by omega) with ⟨z, -⟩ | ⟨-, b1, b2, b3⟩
  · omega
  · have cd := hi (cD s.1 p (c p))
    have sd := W.sz (cD s.1 p (c p))
    rw [hg _ b1 (by omega)]
    refine ⟨⟨b1, by omega⟩, MD_newOf_spec (C := s.1) hG b1 (by omega) cd.1 (by omega) (Ro _ _ b1 b2 cd.2) ?_⟩
    rw [hg p p0 (by omega)]
    refine MD_newOf_spec (C := s.1) hG p0 (by omega) cp.1 (by omega) (Ro _ _ p0 p1 cp.2) ?_
    exact ⟨fun z => kf (fun y => by have := y.2 hk; omega), fun z => kt ⟨by omega, fun _ => z⟩⟩
theorem MD_isOrdered_spec (hG : Gok sw g) {s : Pst} (R : NwR h s) (W : Wf s.1) {K : Int → (Nat → Int → Int) → Prop} (kt : Valid s.1 → ∀ h', (∀ b, ¬ b = 80 → h' b = h b) → K 1 h') (kf : ¬ Valid s.1 → ∀ h', (∀ b, ¬ b = 80 → h' b = h b) → K 0 h') : MD_isOrdered g h K := by
  obtain ⟨R1, R2, R3, R4, R5⟩ := id R
  have hN := W.2.1
  have hT := cT_r W
  have kR : ∀ h' : Nat → Int → Int, (∀ b, ¬ b = 80 → h' b = h b) → NwR h' s := fun h' F => by
    unfold NwR
    rw [F 68 (by omega), F 77 (by omega), F 78 (by omega), F 79 (by omega)]
    exact R
  refine MD_isOrdered_wp hG ?_
  have turns : ∀ t : Int, t ≤ 16 → 0 ≤ t → ∀ (h' : Nat → Int → Int) (c : Int → Int) (m : Nat) u, (∀ b, ¬ b = 80 → h' b = h b) → (∀ q, 0 ≤ q → q < 4 → h' 80 q = c q) → Pth s.1 m c → (Valid s.1 → t ≤ m ∨ cT s.1 ≤ m) → MD_isOrdered_24 g h' m t u K := by
    refine up_ind ?_ ?_
    · intro _ h' c m u F G Pt Vt
      obtain ⟨i1, i2, i3⟩ := Pth.fin W m c Pt
      refine MD_isOrdered_24_wp hG ⟨fun _ => ?_, fun y => absurd y (by omega)⟩
      rw [(kR h' F).2.1]
      refine ⟨fun n => kf (fun V => n ?_) h' F, fun y => kt (valid_of W Pt y) h' F⟩
      have := lev_le i1
      have := Vt V
      omega
    · intro t ht ih t0 h' c m u F G Pt Vt
      obtain ⟨i1, i2, i3⟩ := Pth.fin W m c Pt
      refine MD_isOrdered_24_wp hG ⟨fun y => absurd y (by omega), fun _ => ?_⟩
      have sweep : ∀ p : Int, p ≤ cN s.1 → 0 ≤ p → ∀ (h' : Nat → Int → Int) (d : Int → Int) (k : Nat), (∀ b, ¬ b = 80 → h' b = h b) → (∀ q, 0 ≤ q → q < 4 → h' 80 q = d q) → Pth s.1 k d → m ≤ k → (k = m → d = c ∧ ∀ q, 0 ≤ q → q < p → ¬ canF s.1 c q) → MD_isOrdered_32 g h' k t p K := by
        refine up_ind ?_ ?_
        · intro _ h' d k F G Pk mk hz
          obtain ⟨j1, j2, j3⟩ := Pth.fin W k d Pk
          refine MD_isOrdered_32_wp hG ⟨fun _ => ?_, fun y => absurd y (by rw [(kR h' F).1]; omega)⟩
          rw [mwi (by omega) (by omega)]
          refine ih (by omega) h' d k _ F G Pk (fun V => ?_)
          have := Vt V
          by_cases e : k = m
          · obtain ⟨-, e2⟩ := hz e
            right
            refine Classical.byContradiction (fun n => ?_)
            obtain ⟨q, q0, q1, q2⟩ := can_go V i1 (by omega)
            exact e2 q q0 q1 q2
          · omega
        · intro p hp ih2 p0 h' d k F G Pk mk hz
          obtain ⟨j1, j2, j3⟩ := Pth.fin W k d Pk
          have := lev_le j1
          have dp := j1 p
          have sp := W.sz p
          refine MD_isOrdered_32_wp hG ⟨fun y => absurd y (by rw [(kR h' F).1]; omega), fun _ => MD_canComeNew_spec hG (kR h' F) W G j1 p0 hp (fun cf => ⟨fun y => absurd y (by decide), fun _ => ?_⟩) (fun cf => ⟨fun _ => ?_, fun y => absurd rfl y⟩)⟩
          · have c1 := cf.1
            have ep := G p p0 (by omega)
            simp (disch := omega) only [mwi, forall_eq, bd, ep]
            refine ih2 (by omega) _ (inc d p) (k + 1) (fun b nb => by rw [upd_ob nb]; exact F b nb) (fun q q0 q1 => ?_) ⟨p, d, p0, hp, Pk, cf, rfl⟩ (by omega) (fun e => by omega)
            by_cases e : q = p
            · rw [e, upd_at, inc_at]
            · rw [upd_ix e, inc_ne e]; exact G q q0 q1
          · rw [mwi (by omega) (by omega)]
            refine ih2 (by omega) h' d k F G Pk mk (fun e => ?_)
            obtain ⟨e1, e2⟩ := hz e
            refine ⟨e1, fun q q0 q1 => ?_⟩
            by_cases eq : q = p
            · rw [eq, ← e1]; exact cf
            · exact e2 q q0 (by omega)
      exact sweep 0 W.1 (Int.le_refl _) h' c m F G Pt (Nat.le_refl _) (fun _ => ⟨rfl, fun q q0 q1 => by omega⟩)
  have first : ∀ i : Int, i ≤ 4 → 0 ≤ i → ∀ (h' : Nat → Int → Int) u v, (∀ b, ¬ b = 80 → h' b = h b) → (∀ q, 0 ≤ q → q < i → h' 80 q = 0) → MD_isOrdered_2 g h' i u v K := by
    refine up_ind ?_ ?_
    · intro _ h' u v F G
      exact MD_isOrdered_2_wp hG ⟨fun _ => turns 0 (by omega) (Int.le_refl _) h' (fun _ => 0) 0 _ F G (fun _ => rfl) (fun _ => Or.inl (by omega)), fun y => absurd y (by omega)⟩
    · intro i hi ih i0 h' u v F G
      refine MD_isOrdered_2_wp hG ⟨fun y => absurd y (by omega), fun _ => ?_⟩
      simp (disch := omega) only [bd, forall_eq, mwi]
      refine ih (by omega) _ u v (fun b nb => by rw [upd_ob nb]; exact F b nb) (fun q q0 q1 => ?_)
      by_cases e : q = i
      · rw [e, upd_at]
      · rw [upd_ix e]; exact G q q0 (by omega)
  exact first 0 (by omega) (Int.le_refl _) h _ _ (fun _ _ => rfl) (fun q q0 q1 => by omega)
theorem MD_run_spec (hG : Gok sw g) {cd : Int → Int} {n : Int} (n0 : 0 ≤ n) (n1 : n ≤ 36) (L : h 68 17 = n) (D : ∀ i, 0 ≤ i → i < n → h 76 i = cd i) (hc : ∀ i, 0 ≤ i → i < n → 32 ≤ cd i ∧ cd i ≤ 126) {K : Int → (Nat → Int → Int) → Prop}
    (kt : txOk cd n → ∀ h', (∀ b, ¬ (68 ≤ b ∧ b ≤ 74) → ¬ (77 ≤ b ∧ b ≤ 80) → h' b = h b) → (∀ i, ¬ (i = 0 ∨ i = 9 ∨ i = 10 ∨ i = 12 ∨ i = 17) → ¬ (19 ≤ i ∧ i ≤ 21) → h' 68 i = h 68 i) → h' 68 9 = mw (h 68 9 + 1) → h' 68 10 = 0 → h' 68 12 = 0 → h' 68 17 = 0 → (∀ p, 0 ≤ p → p < 4 → h' 74 p = 1023) → MdOk h' (pst cd n).1 → K (cN (pst cd n).1) h')
    (kf : ¬ txOk cd n → ∀ h', (∀ b, ¬ b = 68 → ¬ (77 ≤ b ∧ b ≤ 80) → h' b = h b) → (∀ i, ¬ (19 ≤ i ∧ i ≤ 21) → h' 68 i = h 68 i) → K (-103) h') : MD_run g h K := by
  refine MD_run_wp hG (MD_read_spec hG n0 n1 L D hc (fun h1 F1 G1 N1 => ?_))
  rw [G1 17 (by omega), L]
  have F1' : ∀ b, ¬ b = 68 → ¬ (77 ≤ b ∧ b ≤ 80) → h1 b = h b := fun b a1 a2 => F1 b a1 (by omega) (by omega) (by omega)
  refine ⟨fun ne => kf (fun z => ne z.1) h1 F1' G1, fun e1 => ?_⟩
  have R := N1 e1
  obtain ⟨R1, R2, R3, R4, R5⟩ := id R
  have P := (pst_I n n0 (flt_ok n0 e1)).1
  rw [R3, R1]
  refine ⟨fun ne => kf (fun z => ne z.2.1) h1 F1' G1, fun e2 => ⟨fun le => kf (fun z => by have := z.2.2.1; omega) h1 F1' G1, fun e3 => MD_areOthers_spec hG R P (fun O => ⟨fun z => absurd z (by decide), fun _ => ?_⟩) (fun O => ⟨fun _ => kf (fun z => O z.2.2.2.1) h1 F1' G1, fun z => absurd rfl z⟩)⟩⟩
  have W := (wf_iff P).mp O
  have hN := W.2.1
  refine MD_isOrdered_spec hG R W (fun V h5 F5 => ⟨fun z => absurd z (by decide), fun _ => ?_⟩) (fun V h5 F5 => ⟨fun _ => kf (fun z => V z.2.2.2.2) h5 (fun b a1 a2 => (F5 b (by omega)).trans (F1' b a1 a2)) (fun i hi => by rw [F5 68 (by omega)]; exact G1 i hi), fun z => absurd rfl z⟩)
  have T : txOk cd n := ⟨e1, e2, by omega, O, V⟩
  simp only [forall_eq]
  have e19 : h5 68 19 = cN (pst cd n).1 := by rw [F5 68 (by omega)]; exact R1
  have FA : ∀ b, ¬ b = 68 → ¬ (77 ≤ b ∧ b ≤ 80) → h5 b = h b := fun b a1 a2 => (F5 b (by omega)).trans (F1' b a1 a2)
  have GA : ∀ i, ¬ (19 ≤ i ∧ i ≤ 21) → h5 68 i = h 68 i := fun i hi => by rw [F5 68 (by omega)]; exact G1 i hi
  have second : ∀ i : Int, i ≤ 36 → 0 ≤ i → ∀ (h' : Nat → Int → Int) u, (∀ b, ¬ (68 ≤ b ∧ b ≤ 71) → ¬ b = 74 → h' b = h5 b) → (∀ i, ¬ i = 0 → h' 68 i = h5 68 i) → h' 68 0 = cN (pst cd n).1 → (∀ p, 0 ≤ p → p < 4 → h' 69 p = cS (pst cd n).1 p ∧ h' 74 p = 1023) → (∀ j, 0 ≤ j → j < i → h' 70 j = h5 78 j ∧ h' 71 j = h5 79 j) → MD_run_98 g h' u i K := by
    refine up_ind ?_ ?_
    · intro _ h' u F G z0 A B
      refine MD_run_98_wp hG ⟨fun _ => ?_, fun y => absurd y (by omega)⟩
      simp only [forall_eq]
      have R' : MdR (mvUpd (mvUpd h' 68 9 (mw (h' 68 9 + 1))) 68 17 0) (pst cd n).1 := ⟨by rw [upd_ix (by omega), upd_ix (by omega)]; exact z0, fun p p0 p1 => by rw [upd_ob (by omega), upd_ob (by omega)]; exact (A p p0 p1).1, fun p k p0 p1 k0 k1 => by
        have := W.sz p
        rw [upd_ob (by omega), upd_ob (by omega), upd_ob (by omega), upd_ob (by omega), (B (9 * p + k) (by omega) (by omega)).1, (B (9 * p + k) (by omega) (by omega)).2, F5 78 (by omega), F5 79 (by omega)]
        exact R5 p k p0 p1 k0 k1⟩
      refine MD_changes_spec hG R' V (by omega) (fun h3 F3 G3 a10 a12 E3 => ?_)
      rw [E3.1.1]
      refine kt T h3 (fun b a1 a2 => by rw [F3 b (by omega) (by omega) (by omega), upd_ob (by omega), upd_ob (by omega), F b (by omega) (by omega)]; exact FA b (by omega) a2) (fun i a1 a2 => by rw [G3 i (by omega) (by omega), upd_ix (by omega), upd_ix (by omega), G i (by omega)]; exact GA i a2) ?_ a10 a12 (by rw [G3 17 (by omega) (by omega), upd_at]) (fun p p0 p1 => by rw [F3 74 (by omega) (by omega) (by omega), upd_ob (by omega), upd_ob (by omega)]; exact (A p p0 p1).2) E3
      rw [G3 9 (by omega) (by omega), upd_ix (by omega), upd_at, G 9 (by omega), GA 9 (by omega)]
    · intro i hi ih i0 h' u F G z0 A B
      refine MD_run_98_wp hG ⟨fun y => absurd y (by omega), fun _ => ?_⟩
      simp (disch := omega) only [bd, forall_eq, mwi, upd_ob]
      refine ih (by omega) _ u (fun b a1 a2 => by rw [upd_ob (by omega), upd_ob (by omega)]; exact F b a1 a2) (fun i ni => by rw [upd_ob (by omega), upd_ob (by omega)]; exact G i ni) (by rw [upd_ob (by omega), upd_ob (by omega)]; exact z0) (fun p p0 p1 => by rw [upd_ob (by omega), upd_ob (by omega), upd_ob (by omega), upd_ob (by omega)]; exact A p p0 p1) (fun j j0 j1 => ?_)
      rw [upd_no (b := 70) (fun z => by omega)]
      by_cases e : j = i
      · rw [e, upd_at, upd_at, F 78 (by omega) (by omega), F 79 (by omega) (by omega)]; exact ⟨rfl, rfl⟩
      · rw [upd_ix e, upd_ix e, upd_ob (by omega)]; exact B j j0 (by omega)
  have first : ∀ i : Int, i ≤ 4 → 0 ≤ i → ∀ (h' : Nat → Int → Int) u, (∀ b, ¬ (68 ≤ b ∧ b ≤ 69) → ¬ b = 74 → h' b = h5 b) → (∀ i, ¬ i = 0 → h' 68 i = h5 68 i) → h' 68 0 = cN (pst cd n).1 → (∀ p, 0 ≤ p → p < i → h' 69 p = cS (pst cd n).1 p ∧ h' 74 p = 1023) → MD_run_64 g h' u i K := by
    refine up_ind ?_ ?_
    · intro _ h' u F G z0 A
      exact MD_run_64_wp hG ⟨fun _ => second 0 (by omega) (Int.le_refl _) h' u (fun b a1 a2 => F b (by omega) a2) G z0 A (fun j j0 j1 => by omega), fun y => absurd y (by omega)⟩
    · intro i hi ih i0 h' u F G z0 A
      refine MD_run_64_wp hG ⟨fun y => absurd y (by omega), fun _ => ?_⟩
      simp (disch := omega) only [bd, forall_eq, mwi]
      refine ih (by omega) _ u (fun b a1 a2 => by rw [upd_ob (by omega), upd_ob (by omega)]; exact F b a1 a2) (fun i ni => by rw [upd_ob (by omega), upd_ob (by omega)]; exact G i ni) (by rw [upd_ob (by omega), upd_ob (by omega)]; exact z0) (fun p p0 p1 => ?_)
      rw [upd_ob (b := 69) (a := 74) (by omega)]
      by_cases e : p = i
      · rw [e, upd_at, upd_at, F 77 (by omega) (by omega), F5 77 (by omega)]
        exact ⟨R4 i i0 hi, rfl⟩
      · rw [upd_ix e, upd_ix e, upd_ob (by omega)]; exact A p p0 (by omega)
  rw [e19]
  exact first 0 (by omega) (Int.le_refl _) _ _ (fun b a1 a2 => upd_ob (by omega)) (fun i ni => upd_ix ni) upd_at (fun p p0 p1 => by omega)
end MD
