/-! the page: the class -/
theorem m9 {x y : Int} : x * 9 + y = 9 * x + y := by omega
/-- a computation while it is written into the rows of e; N: how many processes are said -/
def DrR (e : Nat) (h : Nat → Int → Int) (C : Cmp) (N : Int) : Prop := h e 0 = N ∧ h e 1 = cT C ∧ (∀ p, 0 ≤ p → p < 4 → h (e + 1) p = cS C p) ∧ ∀ p k, 0 ≤ p → p < 4 → 0 ≤ k → k < cS C p → h (e + 2) (9 * p + k) = cK C p k ∧ h (e + 3) (9 * p + k) = cD C p k
theorem DrR.ev {e : Nat} {h : Nat → Int → Int} {C : Cmp} (R : DrR e h C (cN C)) (hN : cN C ≤ 4) : EvR e h C := ⟨R.1, R.2.1, R.2.2.1, fun p k p0 p1 k0 k1 => R.2.2.2 p k p0 (by omega) k0 k1⟩
theorem EvR.dr {e : Nat} {h : Nat → Int → Int} {C : Cmp} (R : EvR e h C) (W : Wf C) : DrR e h C (cN C) := ⟨R.1, R.2.1, R.2.2.1, fun p k p0 p1 k0 k1 => by
  by_cases hp : p < cN C
  · exact R.2.2.2 p k p0 hp k0 k1
  · rw [W.2.2.2.1 p (by omega)] at k1; omega⟩
theorem DrR.keep {e : Nat} {h h' : Nat → Int → Int} {C : Cmp} {N : Int} (R : DrR e h C N) (h0 : h' e = h e) (h1 : h' (e + 1) = h (e + 1)) (h2 : h' (e + 2) = h (e + 2)) (h3 : h' (e + 3) = h (e + 3)) : DrR e h' C N := by
  unfold DrR
  rw [h0, h1, h2, h3]; exact R
theorem DrR.add {e : Nat} {h : Nat → Int → Int} {C : Cmp} {N : Int} (R : DrR e h C N) (hs : ∀ q, 0 ≤ cS C q ∧ cS C q ≤ 9) {p k d : Int} (p0 : 0 ≤ p) (p4 : p < 4) (h9 : cS C p < 9) : DrR e (mvUpd (mvUpd (mvUpd (mvUpd h (e + 2) (9 * p + cS C p) k) (e + 3) (9 * p + cS C p) d) (e + 1) p (cS C p + 1)) e 1 (cT C + 1)) (addE C p k d) N := by
  obtain ⟨R1, R2, R3, R4⟩ := R
  refine ⟨by rw [upd_ix (by omega), upd_ob (by omega), upd_ob (by omega), upd_ob (by omega)]; exact R1, by rw [upd_at, addE_T p0 p4], fun q q0 q1 => ?_, fun q i q0 q1 i0 i1 => ?_⟩
  · rw [upd_ob (by omega), addE_S]
    by_cases eq : q = p
    · rw [eq, upd_at, if_pos rfl]
    · rw [upd_ix eq, if_neg eq, upd_ob (by omega), upd_ob (by omega)]; exact R3 q q0 q1
  · rw [addE_S] at i1
    have sq := hs q
    have sp := hs p
    rw [upd_ob (b := e + 2) (by omega), upd_ob (b := e + 2) (by omega), upd_ob (b := e + 2) (by omega), upd_ob (b := e + 3) (by omega), upd_ob (b := e + 3) (by omega), addE_K, addE_D]
    by_cases en : q = p ∧ i = cS C p
    · rw [if_pos en, if_pos en, en.1, en.2, upd_at, upd_at]
      exact ⟨rfl, rfl⟩
    · rw [if_neg en, if_neg en]
      have i2 : i < cS C q := by
        by_cases eq : q = p
        · rw [if_pos eq] at i1
          have : ¬ i = cS C p := fun z => en ⟨eq, z⟩
          rw [← eq] at this
          omega
        · rw [if_neg eq] at i1; exact i1
      rw [upd_ix (fun z => en (by omega)), upd_ix (fun z => en (by omega)), upd_ob (by omega)]
      exact R4 q i q0 q1 i0 i2
/-- what has been read stays -/
theorem pst_keep {cd : Int → Int} {i : Int} (i0 : 0 ≤ i) : ∀ k, 0 ≤ k → ∀ p m, m < cS (pst cd i).1 p → cK (pst cd (i + k)).1 p m = cK (pst cd i).1 p m ∧ cD (pst cd (i + k)).1 p m = cD (pst cd i).1 p m ∧ cS (pst cd i).1 p ≤ cS (pst cd (i + k)).1 p := by
  refine int_ind ?_ ?_
  · intro p m _
    rw [Int.add_zero]
    exact ⟨rfl, rfl, Int.le_refl _⟩
  · intro k k0 ih p m hm
    obtain ⟨a1, a2, a3⟩ := ih p m hm
    rw [← Int.add_assoc, pst_s (by omega)]
    rw [← a1, ← a2]
    have add : ∀ x y, cK (addE (pst cd (i + k)).1 (cN (pst cd (i + k)).1 - 1) x y) p m = cK (pst cd (i + k)).1 p m ∧ cD (addE (pst cd (i + k)).1 (cN (pst cd (i + k)).1 - 1) x y) p m = cD (pst cd (i + k)).1 p m ∧ cS (pst cd i).1 p ≤ cS (addE (pst cd (i + k)).1 (cN (pst cd (i + k)).1 - 1) x y) p := fun x y => by
      rw [addE_K, addE_D, addE_S, if_neg (fun z => by have := z.2; rw [← z.1] at this; omega), if_neg (fun z => by have := z.2; rw [← z.1] at this; omega)]
      refine ⟨rfl, rfl, ?_⟩
      split <;> omega
    unfold pnx
    split
    · split
      · exact ⟨rfl, rfl, a3⟩
      · split
        · exact ⟨rfl, rfl, a3⟩
        · split
          · exact ⟨rfl, rfl, a3⟩
          · exact add _ _
    · exact add _ _
theorem pst_N {cd : Int → Int} {i : Int} (i0 : 0 ≤ i) : ∀ k, 0 ≤ k → cN (pst cd i).1 ≤ cN (pst cd (i + k)).1 := by
  refine int_ind (by rw [Int.add_zero]; exact Int.le_refl _) ?_
  intro k k0 ih
  rw [← Int.add_assoc, pst_s (by omega)]
  unfold pnx
  split
  · split
    · show cN (pst cd i).1 ≤ cN (pst cd (i + k)).1 + 1; omega
    · split
      · exact ih
      · split <;> exact ih
  · exact ih
def cpc (cd : Int → Int) (k : Int) : Int := it (fun i s => if cd i = 59 then s + 1 else s) 1 k
theorem cpc_s {cd : Int → Int} {k : Int} (h : 0 ≤ k) : cpc cd (k + 1) = if cd k = 59 then cpc cd k + 1 else cpc cd k := by unfold cpc; rw [it_s h]
theorem cpc_r {cd : Int → Int} {k : Int} (h : 0 ≤ k) : 1 ≤ cpc cd k ∧ cpc cd k ≤ k + 1 := by
  refine int_ind (P := fun k => 1 ≤ cpc cd k ∧ cpc cd k ≤ k + 1) (by show (1 : Int) ≤ 1 ∧ (1 : Int) ≤ 0 + 1; omega) ?_ k h
  intro i i0 ih
  rw [cpc_s i0]
  split <;> omega
theorem cpc_N {cd : Int → Int} : ∀ k, 0 ≤ k → (∀ j, 0 ≤ j → j < k → pok (pst cd j) (cd j)) → cN (pst cd k).1 = cpc cd k := by
  refine int_ind (fun _ => rfl) ?_
  intro k k0 ih hz
  have ih := ih (fun j j0 j1 => hz j j0 (by omega))
  have o := hz k k0 (by omega)
  rw [pst_s k0, cpc_s k0, ← ih]
  unfold pok at o
  unfold pnx
  by_cases e : (pst cd k).2 = -1
  · rw [if_pos e] at o ⊢
    by_cases e59 : cd k = 59
    · rw [if_pos e59, if_pos e59]; rfl
    · rw [if_neg e59, if_neg e59]
      split
      · rfl
      · split <;> rfl
  · rw [if_neg e] at o ⊢
    rw [if_neg (by omega)]; rfl
section PG
variable {sw : Bool} {g : Nat → Nat → Nat} {h : Nat → Int → Int} {e : Nat} {cd : Int → Int} {n : Int}
theorem PG_isDigit_spec (hG : Gok sw g) {x : Int} {K : Int → (Nat → Int → Int) → Prop} (kt : 48 ≤ x ∧ x ≤ 57 → K 1 h) (kf : ¬ (48 ≤ x ∧ x ≤ 57) → K 0 h) : PG_isDigit g h x K :=
  PG_isDigit_wp hG ⟨fun z => kf (by omega), fun z => ⟨fun z2 => kf (by omega), fun z2 => kt ⟨z, z2⟩⟩⟩
theorem PG_countProcesses_spec (hG : Gok sw g) (n0 : 0 ≤ n) (n1 : n ≤ 36) (L : h 4 1 = n) (D : ∀ i, 0 ≤ i → i < n → h 5 i = cd i) {K : Int → (Nat → Int → Int) → Prop} (k : K (cpc cd n) h) : PG_countProcesses g h K := by
  refine PG_countProcesses_wp hG ?_
  have key : ∀ i : Int, i ≤ n → 0 ≤ i → PG_countProcesses_4 g h (cpc cd i) i K := by
    refine up_ind ?_ ?_
    · intro _
      exact PG_countProcesses_4_wp hG ⟨fun _ => k, fun y => absurd y (by omega)⟩
    · intro i hi ih i0
      have cr := cpc_r (cd := cd) i0
      have ih := ih (by omega)
      rw [cpc_s i0] at ih
      refine PG_countProcesses_4_wp hG ⟨fun y => absurd y (by omega), fun _ => ⟨⟨i0, by omega⟩, ?_⟩⟩
      rw [D i i0 hi, mwi (z := i + 1) (by omega) (by omega), mwi (z := cpc cd i + 1) (by omega) (by omega)]
      refine ⟨fun ne => ?_, fun y => ?_⟩
      · rw [if_neg ne] at ih; exact ih
      · rw [if_pos y] at ih; exact ih
  exact key 0 n0 (Int.le_refl _)
theorem PG_firstFault_spec (hG : Gok sw g) (n0 : 0 ≤ n) (n1 : n ≤ 36) (L : h 4 1 = n) (D : ∀ i, 0 ≤ i → i < n → h 5 i = cd i) {K : Int → (Nat → Int → Int) → Prop} (k : K (flt cd n) h) : PG_firstFault g h K := by
  refine PG_firstFault_wp hG ?_
  have key : ∀ i : Int, i ≤ n → 0 ≤ i → (∀ j, 0 ≤ j → j < i → pok (pst cd j) (cd j)) → ∀ a b d f u, a = cN (pst cd i).1 → ((pst cd i).2 = -1 → b = cS (pst cd i).1 (cN (pst cd i).1 - 1) ∧ d = cT (pst cd i).1 ∧ f = 0) → (¬ (pst cd i).2 = -1 → b = cS (pst cd i).1 (cN (pst cd i).1 - 1) + 1 ∧ d = cT (pst cd i).1 + 1 ∧ f = 1) → PG_firstFault_12 g h a b d f i u K := by
    refine up_ind ?_ ?_
    · intro _ hz a b d f u _ _ _
      rw [flt_no n0 hz] at k
      exact PG_firstFault_12_wp hG ⟨fun _ => by rw [L]; exact k, fun y => absurd y (by omega)⟩
    · intro i hi ih i0 hz a b d f u ha hb1 hb2
      obtain ⟨P, N1, hb⟩ := pst_I i i0 hz
      have hN := P.2.1
      have sn := P.sz (cN (pst cd i).1 - 1)
      have hT := P.2.2.2.2.1
      have hT0 : 0 ≤ cT (pst cd i).1 := by
        have a0 := P.sz 0; have a1 := P.sz 1; have a2 := P.sz 2; have a3 := P.sz 3
        unfold cT; omega
      have bad : ¬ pok (pst cd i) (cd i) → K i h := fun o => by
        rw [flt_at i0 hi o hz] at k; exact k
      have ih := ih (by omega)
      have good : pok (pst cd i) (cd i) → ∀ a b d f u, a = cN (pnx (pst cd i) (cd i)).1 → ((pnx (pst cd i) (cd i)).2 = -1 → b = cS (pnx (pst cd i) (cd i)).1 (cN (pnx (pst cd i) (cd i)).1 - 1) ∧ d = cT (pnx (pst cd i) (cd i)).1 ∧ f = 0) → (¬ (pnx (pst cd i) (cd i)).2 = -1 → b = cS (pnx (pst cd i) (cd i)).1 (cN (pnx (pst cd i) (cd i)).1 - 1) + 1 ∧ d = cT (pnx (pst cd i) (cd i)).1 + 1 ∧ f = 1) → PG_firstFault_12 g h a b d f (mw (i + 1)) u K := fun o a b d f u h1 h2 h3 => by
        rw [mwi (by omega) (by omega)]
        have ih := ih (fun j j0 j1 => by
          by_cases e : j = i
          · rw [e]; exact o
          · exact hz j j0 (by omega)) a b d f u
        rw [pst_s i0] at ih
        exact ih h1 h2 h3
      unfold pok pnx at good
      unfold pok at bad
      generalize hs : pst cd i = s at *
      generalize hc : cd i = c at *
      refine PG_firstFault_12_wp hG ⟨fun y => absurd y (by omega), fun _ => ⟨⟨i0, by omega⟩, ?_⟩⟩
      rw [D i i0 hi, hc]
      simp only [forall_eq]
      by_cases e : s.2 = -1
      · obtain ⟨b1, d1, f1⟩ := hb1 e
        rw [if_pos e] at good bad
        rw [if_pos e] at good
        refine ⟨fun _ => ⟨fun ne => ?_, fun e59 => ?_⟩, fun y => absurd f1 y⟩
        · rw [if_neg ne] at good bad
          rw [if_neg ne] at good
          have room : ¬ b = 9 → ¬ d = 16 → cS s.1 (cN s.1 - 1) < 9 ∧ cT s.1 < 16 := fun y1 y2 => by omega
          refine PG_isDigit_spec hG (fun dg => ⟨fun _ => ⟨fun y => bad (by omega), fun y => ⟨fun y2 => PG_isDigit_spec hG (fun _ => ⟨fun _ => ?_, fun z => absurd z (by decide)⟩) (fun z => absurd dg z), fun y2 => bad (by omega)⟩⟩, fun z => absurd z (by decide)⟩) (fun dg => ⟨fun z => absurd rfl z, fun _ => ⟨fun y33 => ⟨fun y => bad (by omega), fun y => ⟨fun y2 => PG_isDigit_spec hG (fun z => absurd z dg) (fun _ => ⟨fun z => absurd rfl z, fun _ => ?_⟩), fun y2 => bad (by omega)⟩⟩, fun n33 => ⟨fun y63 => ⟨fun y => bad (by omega), fun y => ⟨fun y2 => PG_isDigit_spec hG (fun z => absurd z dg) (fun _ => ⟨fun z => absurd rfl z, fun _ => ?_⟩), fun y2 => bad (by omega)⟩⟩, fun n63 => bad (by omega)⟩⟩⟩)
          · rw [if_neg (show ¬ c = 33 by omega), if_neg (show ¬ c = 63 by omega)] at good
            refine good ⟨room y y2, Or.inr (Or.inr dg)⟩ a _ _ _ _ ha (fun _ => ?_) (fun z => absurd rfl z)
            rw [addE_N, addE_S, if_pos rfl, addE_T (by omega) (by omega), mwi (by omega) (by omega), mwi (by omega) (by omega), b1, d1]
            exact ⟨rfl, rfl, rfl⟩
          · rw [if_pos y33] at good
            refine good ⟨room y y2, Or.inl y33⟩ a _ _ _ _ ha (fun z => absurd (show (1 : Int) = -1 from z) (by decide)) (fun _ => ?_)
            rw [mwi (by omega) (by omega), mwi (by omega) (by omega), b1, d1]
            exact ⟨rfl, rfl, rfl⟩
          · rw [if_neg n33, if_pos y63] at good
            refine good ⟨room y y2, Or.inr (Or.inl y63)⟩ a _ _ _ _ ha (fun z => absurd (show (2 : Int) = -1 from z) (by decide)) (fun _ => ?_)
            rw [mwi (by omega) (by omega), mwi (by omega) (by omega), b1, d1]
            exact ⟨rfl, rfl, rfl⟩
        · rw [if_pos e59] at good bad
          rw [if_pos e59] at good
          refine ⟨fun y => good (by omega) _ _ _ _ _ ?_ (fun _ => ⟨?_, ?_, f1⟩) (fun z => absurd rfl z), fun y => bad (by omega)⟩
          · rw [mwi (by omega) (by omega), ha]; rfl
          · show 0 = cS s.1 (cN s.1 + 1 - 1)
            rw [P.2.2.2.1 _ (by omega)]
          · rw [d1]; rfl
      · obtain ⟨b1, d1, f1⟩ := hb2 e
        rw [if_neg e] at good bad
        rw [if_neg e] at good
        refine ⟨fun y => by omega, fun _ => ⟨fun y => bad (by omega), fun y => ⟨fun y2 => good ⟨y, y2⟩ a b d 0 _ ha (fun _ => ?_) (fun z => absurd rfl z), fun y2 => bad (by omega)⟩⟩⟩
        rw [addE_N, addE_S, if_pos rfl, addE_T (by omega) (by omega)]
        exact ⟨b1, d1, rfl⟩
  have e1 : cN (pst cd 0).1 = 1 := rfl
  exact key 0 n0 (Int.le_refl _) (fun j j0 j1 => by omega) 1 0 0 0 none rfl (fun _ => ⟨rfl, rfl, rfl⟩) (fun z => absurd rfl z)
theorem EV_begin_spec (hG : Gok sw g) (he : EvId e) {x : Int} {K : (Nat → Int → Int) → Prop} (k : ∀ h', (∀ b, ¬ b = e → ¬ b = e + 1 → h' b = h b) → (∀ i, ¬ i = 0 → ¬ i = 1 → h' e i = h e i) → h' e 0 = x → h' e 1 = 0 → (∀ p, 0 ≤ p → p < 4 → h' (e + 1) p = 0) → K h') : EV_begin g h e x K := by
  refine EV_begin_wp hG he ?_
  simp only [forall_eq]
  refine AR_fill_spec hG (miE1 he) (by decide) (k _ (fun b a1 a2 => ?_) (fun i n0 n1 => ?_) ?_ ?_ (fun p p0 p1 => ?_))
  · funext i
    rw [if_neg (fun y => a2 y.1), upd_ob a1, upd_ob a1]
  · show (if _ then _ else _) = _
    rw [if_neg (fun y => by omega), upd_ix n1, upd_ix n0]
  · show (if _ then _ else _) = _
    rw [if_neg (fun y => by omega), upd_ix (by omega), upd_at]
  · show (if _ then _ else _) = _
    rw [if_neg (fun y => by omega), upd_at]
  · show (if _ then _ else _) = _
    rw [if_pos ⟨rfl, by omega, by omega⟩]
theorem PG_readInto_spec (hG : Gok sw g) (he : EvId e) (n0 : 0 ≤ n) (n1 : n ≤ 36) (L : h 4 1 = n) (D : ∀ i, 0 ≤ i → i < n → h 5 i = cd i) {K : Int → (Nat → Int → Int) → Prop}
    (kt : flt cd n = n → (pst cd n).2 = -1 → 2 ≤ cN (pst cd n).1 → Oth (pst cd n).1 → ∀ h', (∀ b, ¬ (e ≤ b ∧ b ≤ e + 3) → h' b = h b) → (∀ i, ¬ i = 0 → ¬ i = 1 → h' e i = h e i) → EvR e h' (pst cd n).1 → K 1 h') (kf : ¬ (flt cd n = n ∧ (pst cd n).2 = -1 ∧ 2 ≤ cN (pst cd n).1 ∧ Oth (pst cd n).1) → ∀ h', (∀ b, ¬ (e ≤ b ∧ b ≤ e + 3) → h' b = h b) → (∀ i, ¬ i = 0 → ¬ i = 1 → h' e i = h e i) → K 0 h') : PG_readInto g h e K := by
  have he0 : 6 ≤ e := by rcases he with rfl | rfl | rfl <;> omega
  refine PG_readInto_wp hG he (PG_countProcesses_spec hG n0 n1 L D (PG_firstFault_spec hG n0 n1 L D ?_))
  have fr := flt_r (cd := cd) n0
  rw [L]
  refine ⟨fun lt => kf (fun z => by omega) h (fun _ _ => rfl) (fun _ _ _ => rfl), fun ge => ?_⟩
  have fe : flt cd n = n := by omega
  have oks := flt_ok n0 fe
  have eN := cpc_N n n0 oks
  rw [← eN]
  refine ⟨fun N2 => ?_, fun N1 => kf (fun z => by omega) h (fun _ _ => rfl) (fun _ _ _ => rfl)⟩
  have Pn := (pst_I n n0 oks).1
  have hN := Pn.2.1
  refine EV_begin_spec hG he (fun h1 F1 G1 a0 a1 a2 => ?_)
  -- by how much is left
  have key : ∀ (m : Nat) (i : Int), n - i ≤ m → 0 ≤ i → i ≤ n → (pst cd i).2 = -1 → (∀ p k, 0 ≤ p → p < cN (pst cd i).1 → 0 ≤ k → k < cS (pst cd i).1 p → cK (pst cd i).1 p k = 0 ∨ (¬ cD (pst cd i).1 p k = p ∧ cD (pst cd i).1 p k < cN (pst cd n).1)) → ∀ (h' : Nat → Int → Int) u v x, (∀ b, ¬ (e ≤ b ∧ b ≤ e + 3) → h' b = h b) → (∀ i, ¬ i = 0 → ¬ i = 1 → h' e i = h e i) → DrR e h' (pst cd i).1 (cN (pst cd n).1) → PG_readInto_33 g h' e u (cN (pst cd i).1 - 1) i v x K := by
    intro m
    induction m with
    | zero =>
      intro i hm i0 i1 hb O h' u v x F G R
      have ei : i = n := by omega
      subst ei
      exact PG_readInto_33_wp hG he ⟨fun _ => kt fe hb N2 O h' F G (R.ev hN), fun y => absurd y (by rw [F 4 (by omega), L]; omega)⟩
    | succ m ih =>
      intro i hm i0 i1 hb O h' u v x F G R
      by_cases ei : i = n
      · subst ei
        exact PG_readInto_33_wp hG he ⟨fun _ => kt fe hb N2 O h' F G (R.ev hN), fun y => absurd y (by rw [F 4 (by omega), L]; omega)⟩
      have hi : i < n := by omega
      obtain ⟨P, N1, -⟩ := pst_I i i0 (fun j j0 j1 => oks j j0 (by omega))
      have hNi := P.2.1
      have Nle := pst_N (cd := cd) i0 (n - i) (by omega)
      rw [show i + (n - i) = n by omega] at Nle
      have sn := P.sz (cN (pst cd i).1 - 1)
      have hT := P.2.2.2.2.1
      have hT0 : 0 ≤ cT (pst cd i).1 := by
        have a0 := P.sz 0; have a1 := P.sz 1; have a2 := P.sz 2; have a3 := P.sz 3
        unfold cT; omega
      have o := oks i i0 hi
      have e1 := pst_s (cd := cd) i0
      unfold pok at o
      unfold pnx at e1
      rw [if_pos hb] at o e1
      obtain ⟨R1, R2, R3, R4⟩ := id R
      have r3 := R3 (cN (pst cd i).1 - 1) (by omega) (by omega)
      have e9 : mw (mw ((cN (pst cd i).1 - 1) * 9) + cS (pst cd i).1 (cN (pst cd i).1 - 1)) = 9 * (cN (pst cd i).1 - 1) + cS (pst cd i).1 (cN (pst cd i).1 - 1) := row9 (by omega) (by omega) sn.1 sn.2
      have othA : ∀ k d, (k = 0 ∨ (¬ d = cN (pst cd i).1 - 1 ∧ d < cN (pst cd n).1)) → ∀ p q, 0 ≤ p → p < cN (addE (pst cd i).1 (cN (pst cd i).1 - 1) k d) → 0 ≤ q → q < cS (addE (pst cd i).1 (cN (pst cd i).1 - 1) k d) p → cK (addE (pst cd i).1 (cN (pst cd i).1 - 1) k d) p q = 0 ∨ (¬ cD (addE (pst cd i).1 (cN (pst cd i).1 - 1) k d) p q = p ∧ cD (addE (pst cd i).1 (cN (pst cd i).1 - 1) k d) p q < cN (pst cd n).1) := fun k d hk p q p0 p1 q0 q1 => by
        rw [addE_N] at p1
        rw [addE_S] at q1
        rw [addE_K, addE_D]
        by_cases en : p = cN (pst cd i).1 - 1 ∧ q = cS (pst cd i).1 (cN (pst cd i).1 - 1)
        · rw [if_pos en, if_pos en, en.1]; exact hk
        · rw [if_neg en, if_neg en]
          refine O p q p0 p1 q0 ?_
          by_cases eq : p = cN (pst cd i).1 - 1
          · rw [if_pos eq] at q1
            have : ¬ q = cS (pst cd i).1 (cN (pst cd i).1 - 1) := fun z => en ⟨eq, z⟩
            rw [← eq] at this
            omega
          · rw [if_neg eq] at q1; exact q1
      have fr4 : ∀ y1 i1 y2 i2 y3 i3 y4, (∀ b, ¬ (e ≤ b ∧ b ≤ e + 3) → mvUpd (mvUpd (mvUpd (mvUpd h' (e + 2) i1 y1) (e + 3) i2 y2) (e + 1) i3 y3) e 1 y4 b = h b) ∧ (∀ j, ¬ j = 0 → ¬ j = 1 → mvUpd (mvUpd (mvUpd (mvUpd h' (e + 2) i1 y1) (e + 3) i2 y2) (e + 1) i3 y3) e 1 y4 e j = h e j) := fun y1 i1 y2 i2 y3 i3 y4 => ⟨fun b nb => by rw [upd_ob (by omega), upd_ob (by omega), upd_ob (by omega), upd_ob (by omega)]; exact F b nb, fun j n0 n1 => by rw [upd_ix n1, upd_ob (by omega), upd_ob (by omega), upd_ob (by omega)]; exact G j n0 n1⟩
      refine PG_readInto_33_wp hG he ⟨fun y => absurd y (by rw [F 4 (by omega), L]; omega), fun _ => ⟨⟨i0, by omega⟩, ?_⟩⟩
      simp only [forall_eq]
      rw [F 5 (by omega), D i i0 hi]
      refine ⟨fun n59 => ?_, fun y59 => ?_⟩
      · rw [if_neg n59] at o e1
        refine PG_isDigit_spec hG (fun dg => ⟨fun z => absurd z (by decide), fun _ => ?_⟩) (fun dg => ⟨fun _ => ?_, fun z => absurd rfl z⟩)
        · rw [if_neg (by omega), if_neg (by omega)] at e1
          simp (disch := omega) only [r3, m9, bd, forall_eq, upd_ob, R2, mwi]
          have ih := ih (i + 1) (by omega) (by omega) (by omega)
          rw [e1] at ih
          refine ih rfl (othA _ _ (Or.inl rfl)) _ u _ _ (fr4 _ _ _ _ _ _ _).1 (fr4 _ _ _ _ _ _ _).2 ?_
          exact R.add (fun q => P.sz q) (by omega) (by omega) o.1.1
        · -- a message: two letters
          have kb : ∃ k, (k = 1 ∧ cd i = 33 ∨ k = 2 ∧ cd i = 63) ∧ pst cd (i + 1) = ((pst cd i).1, k) := by
            by_cases y33 : cd i = 33
            · rw [if_pos y33] at e1; exact ⟨1, Or.inl ⟨rfl, y33⟩, e1⟩
            · have y63 : cd i = 63 := by omega
              rw [if_neg y33, if_pos y63] at e1; exact ⟨2, Or.inr ⟨rfl, y63⟩, e1⟩
          obtain ⟨k, hk, e2⟩ := kb
          rw [mwi (z := i + 1) (by omega) (by omega), F 4 (by omega), L]
          refine ⟨fun le => ?_, fun lt => ⟨⟨by omega, by omega⟩, ?_⟩⟩
          · have en : i + 1 = n := by omega
            have bad : K 0 h' := kf (fun z => by
              have z2 := z.2.1
              rw [← en, e2] at z2
              have z2 : k = -1 := z2
              omega) h' F G
            exact ⟨fun _ => bad, fun _ => ⟨fun _ => bad, fun _ => bad⟩⟩
          · have o2 := oks (i + 1) (by omega) lt
            unfold pok at o2
            rw [e2] at o2
            rw [if_neg (show ¬ k = -1 by omega)] at o2
            have e3 : pst cd (i + 2) = (addE (pst cd i).1 (cN (pst cd i).1 - 1) k (cd (i + 1) - 48), -1) := by
              have e4 := pst_s (cd := cd) (k := i + 1) (by omega)
              rw [show i + 1 + 1 = i + 2 by omega, e2] at e4
              rw [e4]
              unfold pnx
              rw [if_neg (show ¬ k = -1 by omega)]
            -- the message stands in the end
            have last := pst_keep (cd := cd) (i := i + 2) (by omega) (n - (i + 2)) (by omega) (cN (pst cd i).1 - 1) (cS (pst cd i).1 (cN (pst cd i).1 - 1)) (by rw [e3, addE_S, if_pos rfl]; omega)
            rw [show i + 2 + (n - (i + 2)) = n by omega, e3, addE_K, addE_D, addE_S, if_pos ⟨rfl, rfl⟩, if_pos ⟨rfl, rfl⟩, if_pos rfl] at last
            have bad : ¬ (¬ cd (i + 1) - 48 = cN (pst cd i).1 - 1 ∧ cd (i + 1) - 48 < cN (pst cd n).1) → K 0 h' := fun hn => kf (fun z => by
              rcases z.2.2.2 (cN (pst cd i).1 - 1) (cS (pst cd i).1 (cN (pst cd i).1 - 1)) (by omega) (by omega) sn.1 (by omega) with q | q
              · omega
              · rw [last.2.1] at q; exact hn q) h' F G
            rw [F 5 (by omega), D (i + 1) (by omega) lt, mwi (z := cd (i + 1) - 48) (by omega) (by omega), R1]
            refine ⟨fun y => absurd y (by omega), fun _ => ⟨fun y => absurd y (by omega), fun _ => ⟨fun y => absurd y (by omega), fun _ => ⟨fun y => bad (fun z => by omega), fun v1 => ⟨fun y => bad (fun z => z.1 y.symm), fun v2 => ?_⟩⟩⟩⟩⟩
            have fin : ∀ y1, PG_readInto_33 g (mvUpd (mvUpd (mvUpd (mvUpd h' (e + 2) (9 * (cN (pst cd i).1 - 1) + cS (pst cd i).1 (cN (pst cd i).1 - 1)) k) (e + 3) (9 * (cN (pst cd i).1 - 1) + cS (pst cd i).1 (cN (pst cd i).1 - 1)) (cd (i + 1) - 48)) (e + 1) (cN (pst cd i).1 - 1) (cS (pst cd i).1 (cN (pst cd i).1 - 1) + 1)) e 1 (cT (pst cd i).1 + 1)) e u (cN (pst cd i).1 - 1) (i + 1 + 1) (some (cd i)) y1 K := fun y1 => by
              have ih := ih (i + 2) (by omega) (by omega) (by omega)
              rw [e3] at ih
              rw [show i + 1 + 1 = i + 2 by omega]
              refine ih rfl (othA _ _ (Or.inr ⟨fun y => v2 y.symm, v1⟩)) _ u _ _ (fr4 _ _ _ _ _ _ _).1 (fr4 _ _ _ _ _ _ _).2 ?_
              exact R.add (fun q => P.sz q) (by omega) (by omega) o.1.1
            refine ⟨fun n33 => ?_, fun y33 => ?_⟩
            · have ek : k = 2 := by omega
              subst ek
              simp (disch := omega) only [r3, m9, bd, forall_eq, upd_ob, R2, mwi]
              exact fin _
            · have ek : k = 1 := by omega
              subst ek
              simp (disch := omega) only [r3, m9, bd, forall_eq, upd_ob, R2, mwi]
              exact fin _
      · rw [if_pos y59] at o e1
        rw [mwi (z := i + 1) (by omega) (by omega), mwi (z := cN (pst cd i).1 - 1 + 1) (by omega) (by omega)]
        have ih := ih (i + 1) (by omega) (by omega) (by omega)
        rw [e1] at ih
        have eN2 : cN (cN (pst cd i).1 + 1, (pst cd i).1.2) - 1 = cN (pst cd i).1 - 1 + 1 := by show cN (pst cd i).1 + 1 - 1 = _; omega
        have ih := ih rfl (fun p q p0 p1 q0 q1 => by
          have p1 : p < cN (pst cd i).1 + 1 := p1
          have q1 : q < cS (pst cd i).1 p := q1
          by_cases ep : p < cN (pst cd i).1
          · exact O p q p0 ep q0 q1
          · rw [P.2.2.2.1 p (by omega)] at q1; omega) h' u (some (cd i)) x F G R
        rw [eN2] at ih
        rw [y59] at ih ⊢
        exact ih
  have h0 := key n.toNat 0 (by omega) (Int.le_refl _) n0 rfl (fun p k _ _ k0 k1 => by
    have k1 : k < 0 := k1
    omega) h1 (some (cN (pst cd n).1)) none none (fun b nb => F1 b (by omega) (by omega)) G1 ⟨a0, a1, a2, fun p k _ _ k0 k1 => by
    have k1 : k < 0 := k1
    omega⟩
  exact h0
end PG
