/-! the page: what a text says, letter by letter -/
/-- one event more of a process -/
def addE (C : Cmp) (p k d : Int) : Cmp := (cN C, fun q => if q = p then cS C q + 1 else cS C q, fun q i => if q = p ∧ i = cS C p then k else cK C q i, fun q i => if q = p ∧ i = cS C p then d else cD C q i)
theorem addE_N {C : Cmp} {p k d : Int} : cN (addE C p k d) = cN C := rfl
theorem addE_S {C : Cmp} {p k d q : Int} : cS (addE C p k d) q = if q = p then cS C q + 1 else cS C q := rfl
theorem addE_K {C : Cmp} {p k d q i : Int} : cK (addE C p k d) q i = if q = p ∧ i = cS C p then k else cK C q i := rfl
theorem addE_D {C : Cmp} {p k d q i : Int} : cD (addE C p k d) q i = if q = p ∧ i = cS C p then d else cD C q i := rfl
theorem addE_T {C : Cmp} {p k d : Int} (p0 : 0 ≤ p) (p4 : p < 4) : cT (addE C p k d) = cT C + 1 := by
  unfold cT
  simp only [addE_S]
  rcases (show p = 0 ∨ p = 1 ∨ p = 2 ∨ p = 3 by omega) with rfl | rfl | rfl | rfl <;> simp <;> omega
/-- what is seen of the texts ahead of the question who is meant -/
def Pwf (C : Cmp) : Prop := 0 ≤ cN C ∧ cN C ≤ 4 ∧ (∀ p, 0 ≤ p → p < cN C → 0 ≤ cS C p ∧ cS C p ≤ 9) ∧ (∀ p, ¬ (0 ≤ p ∧ p < cN C) → cS C p = 0) ∧ cT C ≤ 16 ∧ ∀ p k, 0 ≤ p → p < cN C → 0 ≤ k → k < cS C p → (cK C p k = 0 ∧ 0 ≤ cD C p k ∧ cD C p k ≤ 9) ∨ ((cK C p k = 1 ∨ cK C p k = 2) ∧ 0 ≤ cD C p k ∧ cD C p k ≤ 3)
def Oth (C : Cmp) : Prop := ∀ p k, 0 ≤ p → p < cN C → 0 ≤ k → k < cS C p → cK C p k = 0 ∨ (¬ cD C p k = p ∧ cD C p k < cN C)
theorem Pwf.sz {C : Cmp} (h : Pwf C) (p : Int) : 0 ≤ cS C p ∧ cS C p ≤ 9 := by
  by_cases hp : 0 ≤ p ∧ p < cN C
  · exact h.2.2.1 p hp.1 hp.2
  · rw [h.2.2.2.1 p hp]; omega
theorem wf_iff {C : Cmp} (P : Pwf C) : Oth C ↔ Wf C := by
  constructor
  · intro O
    refine ⟨P.1, P.2.1, P.2.2.1, P.2.2.2.1, P.2.2.2.2.1, fun p k p0 p1 k0 k1 => ?_⟩
    rcases P.2.2.2.2.2 p k p0 p1 k0 k1 with a | ⟨a, b1, b2⟩
    · exact Or.inl a
    · rcases O p k p0 p1 k0 k1 with z | z
      · omega
      · exact Or.inr ⟨a, b1, z.2, z.1⟩
  · intro W p k p0 p1 k0 k1
    rcases W.2.2.2.2.2 p k p0 p1 k0 k1 with a | ⟨a, b1, b2, b3⟩
    · exact Or.inl a.1
    · exact Or.inr ⟨b3, b2⟩
theorem Pwf.add {C : Cmp} (P : Pwf C) {p k d : Int} (p0 : 0 ≤ p) (p1 : p < cN C) (hs : cS C p < 9) (ht : cT C < 16) (hk : (k = 0 ∧ 0 ≤ d ∧ d ≤ 9) ∨ ((k = 1 ∨ k = 2) ∧ 0 ≤ d ∧ d ≤ 3)) : Pwf (addE C p k d) := by
  have hN := P.2.1
  refine ⟨P.1, P.2.1, fun q q0 q1 => ?_, fun q hq => ?_, by rw [addE_T p0 (by omega)]; omega, fun q i q0 q1 i0 i1 => ?_⟩
  · have := P.sz q
    rw [addE_S]
    split
    · rename_i e; subst e; omega
    · exact this
  · rw [addE_N] at hq
    rw [addE_S, if_neg (fun e => hq (by omega))]
    exact P.2.2.2.1 q hq
  · rw [addE_N] at q1
    rw [addE_S] at i1
    rw [addE_K, addE_D]
    by_cases e : q = p ∧ i = cS C p
    · rw [if_pos e, if_pos e]; exact hk
    · rw [if_neg e, if_neg e]
      refine P.2.2.2.2.2 q i q0 q1 i0 ?_
      by_cases eq : q = p
      · rw [if_pos eq] at i1
        have : ¬ i = cS C p := fun z => e ⟨eq, z⟩
        rw [← eq] at this
        omega
      · rw [if_neg eq] at i1; exact i1
abbrev Pst : Type := Cmp × Int
def pok (s : Pst) (c : Int) : Prop := if s.2 = -1 then (if c = 59 then cN s.1 < 4 else (cS s.1 (cN s.1 - 1) < 9 ∧ cT s.1 < 16) ∧ (c = 33 ∨ c = 63 ∨ (48 ≤ c ∧ c ≤ 57))) else 48 ≤ c ∧ c ≤ 51
def pnx (s : Pst) (c : Int) : Pst := if s.2 = -1 then (if c = 59 then ((cN s.1 + 1, s.1.2), -1) else if c = 33 then (s.1, 1) else if c = 63 then (s.1, 2) else (addE s.1 (cN s.1 - 1) 0 (c - 48), -1)) else (addE s.1 (cN s.1 - 1) s.2 (c - 48), -1)
def ps0 : Pst := ((1, fun _ => 0, fun _ _ => 0, fun _ _ => 0), -1)
def pst (cd : Int → Int) (k : Int) : Pst := it (fun i s => pnx s (cd i)) ps0 k
theorem pst_s {cd : Int → Int} {k : Int} (h : 0 ≤ k) : pst cd (k + 1) = pnx (pst cd k) (cd k) := by unfold pst; rw [it_s h]
def PsI (s : Pst) : Prop := Pwf s.1 ∧ 1 ≤ cN s.1 ∧ (s.2 = -1 ∨ ((s.2 = 1 ∨ s.2 = 2) ∧ cS s.1 (cN s.1 - 1) < 9 ∧ cT s.1 < 16))
theorem ps0_I : PsI ps0 := by
  refine ⟨⟨?_, ?_, fun p _ _ => ?_, fun p _ => rfl, ?_, fun p k _ _ k0 k1 => ?_⟩, ?_, Or.inl rfl⟩
  · show (0 : Int) ≤ 1; omega
  · show (1 : Int) ≤ 4; omega
  · show (0 : Int) ≤ 0 ∧ (0 : Int) ≤ 9; omega
  · show (0 : Int) + 0 + 0 + 0 ≤ 16; omega
  · have k1 : k < 0 := k1; omega
  · show (1 : Int) ≤ 1; omega
theorem PsI.nx {s : Pst} (I : PsI s) {c : Int} (ho : pok s c) : PsI (pnx s c) := by
  obtain ⟨P, n1, hb⟩ := I
  have hN := P.2.1
  unfold pok at ho
  unfold pnx
  by_cases e : s.2 = -1
  · rw [if_pos e] at ho ⊢
    by_cases e59 : c = 59
    · rw [if_pos e59] at ho ⊢
      refine ⟨⟨?_, ?_, fun p p0 p1 => P.sz p, fun p hp => ?_, P.2.2.2.2.1, fun p k p0 p1 k0 k1 => ?_⟩, ?_, Or.inl rfl⟩
      · show 0 ≤ cN s.1 + 1; omega
      · show cN s.1 + 1 ≤ 4; omega
      · have hp : ¬ (0 ≤ p ∧ p < cN s.1 + 1) := hp
        exact P.2.2.2.1 p (by omega)
      · have p1 : p < cN s.1 + 1 := p1
        have k1 : k < cS s.1 p := k1
        by_cases ep : p < cN s.1
        · exact P.2.2.2.2.2 p k p0 ep k0 k1
        · rw [P.2.2.2.1 p (by omega)] at k1; omega
      · show 1 ≤ cN s.1 + 1; omega
    · rw [if_neg e59] at ho ⊢
      obtain ⟨⟨h9, h16⟩, hc⟩ := ho
      by_cases e33 : c = 33
      · rw [if_pos e33]
        exact ⟨P, n1, Or.inr ⟨Or.inl rfl, h9, h16⟩⟩
      · rw [if_neg e33]
        by_cases e63 : c = 63
        · rw [if_pos e63]
          exact ⟨P, n1, Or.inr ⟨Or.inr rfl, h9, h16⟩⟩
        · rw [if_neg e63]
          exact ⟨P.add (by omega) (by omega) h9 h16 (Or.inl ⟨rfl, by omega, by omega⟩), n1, Or.inl rfl⟩
  · rw [if_neg e] at ho ⊢
    rcases hb with hb | ⟨hb, h9, h16⟩
    · exact absurd hb e
    · exact ⟨P.add (by omega) (by omega) h9 h16 (Or.inr ⟨hb, by omega, by omega⟩), n1, Or.inl rfl⟩
/-- the first fault of a text of n letters -/
noncomputable def ftx (cd : Int → Int) (n : Int) : Int := fst (fun i => ¬ pok (pst cd i) (cd i)) n
noncomputable def flt (cd : Int → Int) (n : Int) : Int := if ftx cd n = -1 then n else ftx cd n
theorem flt_at {cd : Int → Int} {n i : Int} (i0 : 0 ≤ i) (i1 : i < n) (hp : ¬ pok (pst cd i) (cd i)) (hz : ∀ j, 0 ≤ j → j < i → pok (pst cd j) (cd j)) : flt cd n = i := by
  have e : ftx cd n = i := fst_at i0 i1 hp (fun j j0 j1 z => z (hz j j0 j1))
  unfold flt
  rw [e, if_neg (by omega)]
theorem flt_no {cd : Int → Int} {n : Int} (n0 : 0 ≤ n) (hz : ∀ j, 0 ≤ j → j < n → pok (pst cd j) (cd j)) : flt cd n = n := by
  have e : ftx cd n = -1 := fst_none n0 (fun j j0 j1 z => z (hz j j0 j1))
  unfold flt
  rw [if_pos e]
theorem flt_ok {cd : Int → Int} {n : Int} (n0 : 0 ≤ n) (h : flt cd n = n) : ∀ j, 0 ≤ j → j < n → pok (pst cd j) (cd j) := by
  rcases fst_cases (P := fun i => ¬ pok (pst cd i) (cd i)) n0 with ⟨-, z⟩ | ⟨a1, a2, a3, -⟩
  · exact fun j j0 j1 => Classical.byContradiction (z j j0 j1)
  · have e : ¬ ftx cd n = -1 := by unfold ftx; omega
    unfold flt at h
    rw [if_neg e] at h
    unfold ftx at h
    omega
theorem flt_r {cd : Int → Int} {n : Int} (n0 : 0 ≤ n) : 0 ≤ flt cd n ∧ flt cd n ≤ n := by
  unfold flt ftx
  rcases fst_cases (P := fun i => ¬ pok (pst cd i) (cd i)) n0 with ⟨e, z⟩ | ⟨a1, a2, a3, -⟩
  · rw [if_pos e]; omega
  · rw [if_neg (by omega)]; omega
theorem pst_I {cd : Int → Int} : ∀ k, 0 ≤ k → (∀ j, 0 ≤ j → j < k → pok (pst cd j) (cd j)) → PsI (pst cd k) := by
  refine int_ind ?_ ?_
  · intro _; exact ps0_I
  · intro k k0 ih hz
    rw [pst_s k0]
    exact (ih (fun j j0 j1 => hz j j0 (by omega))).nx (hz k k0 (by omega))
/-- whether the page is the text of a computation -/
noncomputable def txOk (cd : Int → Int) (n : Int) : Prop := flt cd n = n ∧ (pst cd n).2 = -1 ∧ 2 ≤ cN (pst cd n).1 ∧ Oth (pst cd n).1 ∧ Valid (pst cd n).1
/-- what has been read stands in the model's rows -/
def NwR (h : Nat → Int → Int) (s : Pst) : Prop := h 68 19 = cN s.1 ∧ h 68 20 = cT s.1 ∧ h 68 21 = s.2 ∧ (∀ p, 0 ≤ p → p < 4 → h 77 p = cS s.1 p) ∧ ∀ p k, 0 ≤ p → p < cN s.1 → 0 ≤ k → k < cS s.1 p → h 78 (9 * p + k) = cK s.1 p k ∧ h 79 (9 * p + k) = cD s.1 p k
section MD
variable {sw : Bool} {g : Nat → Nat → Nat} {h : Nat → Int → Int} {C : Cmp} {c : Int → Int} {w : Wsh}
theorem NwR.add {s : Pst} (R : NwR h s) (P : Pwf s.1) (n1 : 1 ≤ cN s.1) {k d : Int} (h9 : cS s.1 (cN s.1 - 1) < 9) : NwR (mvUpd (mvUpd (mvUpd (mvUpd (mvUpd h 78 (9 * (cN s.1 - 1) + cS s.1 (cN s.1 - 1)) k) 79 (9 * (cN s.1 - 1) + cS s.1 (cN s.1 - 1)) d) 77 (cN s.1 - 1) (cS s.1 (cN s.1 - 1) + 1)) 68 20 (cT s.1 + 1)) 68 21 (-1)) (addE s.1 (cN s.1 - 1) k d, -1) := by
  obtain ⟨R1, R2, R3, R4, R5⟩ := R
  have hN := P.2.1
  refine ⟨by rw [upd_ix (by omega), upd_ix (by omega), upd_ob (by omega), upd_ob (by omega), upd_ob (by omega)]; exact R1, by rw [upd_ix (by omega), upd_at, addE_T (by omega) (by omega)], upd_at, fun p p0 p1 => ?_, fun p i p0 p1 i0 i1 => ?_⟩
  · rw [upd_ob (by omega), upd_ob (by omega), addE_S]
    by_cases e : p = cN s.1 - 1
    · rw [e, upd_at, if_pos rfl]
    · rw [upd_ix e, if_neg e, upd_ob (by omega), upd_ob (by omega)]; exact R4 p p0 p1
  · rw [addE_N] at p1
    rw [addE_S] at i1
    have sp := P.sz p
    have sn := P.sz (cN s.1 - 1)
    rw [upd_ob (b := 78) (by omega), upd_ob (b := 78) (by omega), upd_ob (b := 78) (by omega), upd_ob (b := 78) (by omega), upd_ob (b := 79) (by omega), upd_ob (b := 79) (by omega), upd_ob (b := 79) (by omega), addE_K, addE_D]
    by_cases e : p = cN s.1 - 1 ∧ i = cS s.1 (cN s.1 - 1)
    · rw [if_pos e, if_pos e, e.1, e.2, upd_at, upd_at]
      exact ⟨rfl, rfl⟩
    · rw [if_neg e, if_neg e]
      have i2 : i < cS s.1 p := by
        by_cases eq : p = cN s.1 - 1
        · rw [if_pos eq] at i1
          have : ¬ i = cS s.1 (cN s.1 - 1) := fun z => e ⟨eq, z⟩
          rw [← eq] at this
          omega
        · rw [if_neg eq] at i1; exact i1
      rw [upd_ix (fun z => e (by omega)), upd_ix (fun z => e (by omega)), upd_ob (by omega)]
      exact R5 p i p0 p1 i0 i2
theorem MD_takes_spec (hG : Gok sw g) {s : Pst} (R : NwR h s) (I : PsI s) {x : Int} (hx : 32 ≤ x ∧ x ≤ 126) {K : Int → (Nat → Int → Int) → Prop} (kt : pok s x → ∀ h', (∀ b, ¬ b = 68 → ¬ b = 77 → ¬ b = 78 → ¬ b = 79 → h' b = h b) → (∀ i, ¬ (19 ≤ i ∧ i ≤ 21) → h' 68 i = h 68 i) → NwR h' (pnx s x) → K 1 h') (kf : ¬ pok s x → ∀ h', (∀ b, ¬ b = 68 → ¬ b = 77 → ¬ b = 78 → ¬ b = 79 → h' b = h b) → (∀ i, ¬ (19 ≤ i ∧ i ≤ 21) → h' 68 i = h 68 i) → K 0 h') : MD_takes g h x K := by
  obtain ⟨P, n1, hb⟩ := I
  obtain ⟨R1, R2, R3, R4, R5⟩ := id R
  have hN := P.2.1
  have sn := P.sz (cN s.1 - 1)
  have hT := P.2.2.2.2.1
  have hT0 : 0 ≤ cT s.1 := by
    have a0 := P.sz 0; have a1 := P.sz 1; have a2 := P.sz 2; have a3 := P.sz 3
    unfold cT; omega
  unfold pok pnx at kt
  unfold pok at kf
  have f1 : ∀ y i, 19 ≤ i → i ≤ 21 → (∀ b, ¬ b = 68 → ¬ b = 77 → ¬ b = 78 → ¬ b = 79 → mvUpd h 68 i y b = h b) ∧ (∀ j, ¬ (19 ≤ j ∧ j ≤ 21) → mvUpd h 68 i y 68 j = h 68 j) := fun y i i0 i1 => ⟨fun b a1 a2 a3 a4 => upd_ob a1, fun j hj => upd_ix (by omega)⟩
  have f5 : ∀ y1 i1 y2 i2 y3 i3 y4 y5, (∀ b, ¬ b = 68 → ¬ b = 77 → ¬ b = 78 → ¬ b = 79 → mvUpd (mvUpd (mvUpd (mvUpd (mvUpd h 78 i1 y1) 79 i2 y2) 77 i3 y3) 68 20 y4) 68 21 y5 b = h b) ∧ (∀ j, ¬ (19 ≤ j ∧ j ≤ 21) → mvUpd (mvUpd (mvUpd (mvUpd (mvUpd h 78 i1 y1) 79 i2 y2) 77 i3 y3) 68 20 y4) 68 21 y5 68 j = h 68 j) := fun y1 i1 y2 i2 y3 i3 y4 y5 => ⟨fun b a1 a2 a3 a4 => by rw [upd_ob a1, upd_ob a1, upd_ob a2, upd_ob a4, upd_ob a3], fun j hj => by rw [upd_ix (by omega), upd_ix (by omega), upd_ob (by omega), upd_ob (by omega), upd_ob (by omega)]⟩
  have k68 : ∀ y, NwR (mvUpd h 68 21 y) (s.1, y) := fun y => ⟨by rw [upd_ix (by omega)]; exact R1, by rw [upd_ix (by omega)]; exact R2, upd_at, fun p p0 p1 => by rw [upd_ob (by omega)]; exact R4 p p0 p1, fun p k p0 p1 k0 k1 => by rw [upd_ob (by omega), upd_ob (by omega)]; exact R5 p k p0 p1 k0 k1⟩
  have s77 := R4 (cN s.1 - 1) (by omega) (by omega)
  refine MD_takes_wp hG ?_
  simp (disch := omega) only [R1, R2, R3, s77, mwi, bd, forall_eq, upd_ob, upd_ix]
  refine ⟨fun e => ?_, fun e => ?_⟩
  · rw [if_pos e] at kt kf
    rw [if_pos e] at kt
    refine ⟨fun e59 => ?_, fun e59 => ?_⟩
    · rw [if_neg e59] at kt kf
      rw [if_neg e59] at kt
      refine ⟨fun z9 => ?_, fun z9 => ⟨fun z16 => ?_, fun z16 => ?_⟩⟩
      · have kf := kf (fun y => by omega)
        exact ⟨fun _ => kf _ (f1 _ _ (by omega) (by omega)).1 (f1 _ _ (by omega) (by omega)).2, fun _ => ⟨fun _ => kf h (fun _ _ _ _ _ => rfl) (fun _ _ => rfl), fun _ => kf _ (f1 _ _ (by omega) (by omega)).1 (f1 _ _ (by omega) (by omega)).2⟩⟩
      · have kf := kf (fun y => by omega)
        exact ⟨fun _ => kf _ (f1 _ _ (by omega) (by omega)).1 (f1 _ _ (by omega) (by omega)).2, fun _ => ⟨fun _ => kf h (fun _ _ _ _ _ => rfl) (fun _ _ => rfl), fun _ => kf _ (f1 _ _ (by omega) (by omega)).1 (f1 _ _ (by omega) (by omega)).2⟩⟩
      · refine ⟨fun y33 => ⟨fun n => absurd y33 n, fun _ => ?_⟩, fun n33 => ⟨fun n63 => ⟨fun z => kf (fun y => by omega) h (fun _ _ _ _ _ => rfl) (fun _ _ => rfl), fun z => ⟨fun z2 => kf (fun y => by omega) h (fun _ _ _ _ _ => rfl) (fun _ _ => rfl), fun z2 => ?_⟩⟩, fun y63 => ⟨fun _ => ?_, fun y => absurd y n33⟩⟩⟩
        · rw [if_pos y33] at kt
          exact kt ⟨⟨z9, z16⟩, Or.inl y33⟩ _ (f1 _ _ (by omega) (by omega)).1 (f1 _ _ (by omega) (by omega)).2 (k68 1)
        · rw [if_neg n33, if_neg n63] at kt
          simp (disch := omega) only [R1, R2, R3, s77, mwi, bd, forall_eq, upd_ob, upd_ix]
          exact kt ⟨⟨z9, z16⟩, Or.inr (Or.inr ⟨z, z2⟩)⟩ _ (f5 _ _ _ _ _ _ _ _).1 (f5 _ _ _ _ _ _ _ _).2 (R.add P n1 z9)
        · rw [if_neg n33, if_pos y63] at kt
          exact kt ⟨⟨z9, z16⟩, Or.inr (Or.inl y63)⟩ _ (f1 _ _ (by omega) (by omega)).1 (f1 _ _ (by omega) (by omega)).2 (k68 2)
    · rw [if_pos e59] at kt kf
      rw [if_pos e59] at kt
      refine ⟨fun z => kf (fun y => by omega) _ (f1 _ _ (by omega) (by omega)).1 (f1 _ _ (by omega) (by omega)).2, fun z => kt z _ (f1 _ _ (by omega) (by omega)).1 (f1 _ _ (by omega) (by omega)).2 ⟨upd_at, by rw [upd_ix (by omega)]; exact R2, by rw [upd_ix (by omega)]; exact R3.trans e, fun p p0 p1 => by rw [upd_ob (by omega)]; exact R4 p p0 p1, fun p k p0 p1 k0 k1 => ?_⟩⟩
      have p1 : p < cN s.1 + 1 := p1
      have k1 : k < cS s.1 p := k1
      rw [upd_ob (by omega), upd_ob (by omega)]
      by_cases ep : p < cN s.1
      · exact R5 p k p0 ep k0 k1
      · rw [P.2.2.2.1 p (by omega)] at k1; omega
  · rw [if_neg e] at kt kf
    rw [if_neg e] at kt
    rcases hb with hb | ⟨hb, h9, h16⟩
    · exact absurd hb e
    refine ⟨fun z => kf (fun y => by omega) h (fun _ _ _ _ _ => rfl) (fun _ _ => rfl), fun z => ⟨fun z2 => kf (fun y => by omega) h (fun _ _ _ _ _ => rfl) (fun _ _ => rfl), fun z2 => ?_⟩⟩
    simp (disch := omega) only [R1, R2, R3, s77, mwi, bd, forall_eq, upd_ob, upd_ix]
    exact kt ⟨z, z2⟩ _ (f5 _ _ _ _ _ _ _ _).1 (f5 _ _ _ _ _ _ _ _).2 (R.add P n1 h9)
theorem MD_read_spec (hG : Gok sw g) {cd : Int → Int} {n : Int} (n0 : 0 ≤ n) (n1 : n ≤ 36) (L : h 68 17 = n) (D : ∀ i, 0 ≤ i → i < n → h 76 i = cd i) (hc : ∀ i, 0 ≤ i → i < n → 32 ≤ cd i ∧ cd i ≤ 126) {K : Int → (Nat → Int → Int) → Prop} (k : ∀ h', (∀ b, ¬ b = 68 → ¬ b = 77 → ¬ b = 78 → ¬ b = 79 → h' b = h b) → (∀ i, ¬ (19 ≤ i ∧ i ≤ 21) → h' 68 i = h 68 i) → (flt cd n = n → NwR h' (pst cd n)) → K (flt cd n) h') : MD_read g h K := by
  refine MD_read_wp hG ?_
  simp only [forall_eq]
  have second : ∀ i : Int, i ≤ n → 0 ≤ i → ∀ (h' : Nat → Int → Int), (∀ b, ¬ b = 68 → ¬ b = 77 → ¬ b = 78 → ¬ b = 79 → h' b = h b) → (∀ i, ¬ (19 ≤ i ∧ i ≤ 21) → h' 68 i = h 68 i) → NwR h' (pst cd i) → (∀ j, 0 ≤ j → j < i → pok (pst cd j) (cd j)) → MD_read_37 g h' i K := by
    refine up_ind ?_ ?_
    · intro _ h' F G R hz
      have k := k h' F G (fun _ => R)
      rw [flt_no n0 hz] at k
      exact MD_read_37_wp hG ⟨fun _ => k, fun y => absurd y (by rw [G 17 (by omega), L]; omega)⟩
    · intro i hi ih i0 h' F G R hz
      refine MD_read_37_wp hG ⟨fun y => absurd y (by rw [G 17 (by omega), L]; omega), fun _ => ⟨⟨i0, by omega⟩, ?_⟩⟩
      rw [F 76 (by omega) (by omega) (by omega) (by omega), D i i0 hi]
      refine MD_takes_spec hG R (pst_I i i0 hz) (hc i i0 hi) (fun o h2 F2 G2 R2 => ⟨fun y => absurd y (by decide), fun _ => ?_⟩) (fun o h2 F2 G2 => ⟨fun _ => ?_, fun y => absurd rfl y⟩)
      · rw [mwi (by omega) (by omega)]
        refine ih (by omega) h2 (fun b a1 a2 a3 a4 => (F2 b a1 a2 a3 a4).trans (F b a1 a2 a3 a4)) (fun j hj => (G2 j hj).trans (G j hj)) (by rw [pst_s i0]; exact R2) (fun j j0 j1 => ?_)
        by_cases e : j = i
        · rw [e]; exact o
        · exact hz j j0 (by omega)
      · have e := flt_at i0 hi o hz
        have k := k h2 (fun b a1 a2 a3 a4 => (F2 b a1 a2 a3 a4).trans (F b a1 a2 a3 a4)) (fun j hj => (G2 j hj).trans (G j hj)) (fun z => by omega)
        rw [e] at k
        exact k
  have first : ∀ i : Int, i ≤ 4 → 0 ≤ i → ∀ (h' : Nat → Int → Int), (∀ b, ¬ b = 68 → ¬ b = 77 → h' b = h b) → (∀ i, ¬ (19 ≤ i ∧ i ≤ 21) → h' 68 i = h 68 i) → h' 68 19 = 1 → h' 68 20 = 0 → h' 68 21 = -1 → (∀ j, 0 ≤ j → j < i → h' 77 j = 0) → MD_read_17 g h' i K := by
    refine up_ind ?_ ?_
    · intro _ h' F G a b c D2
      refine MD_read_17_wp hG ⟨fun _ => second 0 n0 (Int.le_refl _) h' (fun b a1 a2 _ _ => F b a1 a2) G ⟨a, b, c, D2, fun p k p0 p1 k0 k1 => ?_⟩ (fun j j0 j1 => by omega), fun y => absurd y (by omega)⟩
      have k1 : k < 0 := k1
      omega
    · intro i hi ih i0 h' F G a b c D2
      refine MD_read_17_wp hG ⟨fun y => absurd y (by omega), fun _ => ?_⟩
      simp (disch := omega) only [bd, forall_eq, mwi]
      refine ih (by omega) _ (fun b a1 a2 => by rw [upd_ob a2]; exact F b a1 a2) (fun j hj => by rw [upd_ob (by omega)]; exact G j hj) (by rw [upd_ob (by omega)]; exact a) (by rw [upd_ob (by omega)]; exact b) (by rw [upd_ob (by omega)]; exact c) (fun j j0 j1 => ?_)
      by_cases e : j = i
      · rw [e, upd_at]
      · rw [upd_ix e]; exact D2 j j0 (by omega)
  exact first 0 (by omega) (Int.le_refl _) _ (fun b a1 a2 => by rw [upd_ob a1, upd_ob a1, upd_ob a1]) (fun j hj => by rw [upd_ix (by omega), upd_ix (by omega), upd_ix (by omega)]) (by rw [upd_ix (by omega), upd_ix (by omega), upd_at]) (by rw [upd_ix (by omega), upd_at]) upd_at (fun j j0 j1 => by omega)
end MD
