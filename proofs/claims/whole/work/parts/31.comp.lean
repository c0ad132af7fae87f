/-! computations: counts, partners, order, cuts -/
/-- how many of a kind with another process are among the first k events of p -/
def cOf (C : Cmp) (p K q k : Int) : Int := it (fun i s => if cK C p i = K ∧ cD C p i = q then s + 1 else s) 0 k
theorem cOf_0 {C : Cmp} {p K q : Int} : cOf C p K q 0 = 0 := rfl
theorem cOf_s {C : Cmp} {p K q k : Int} (h : 0 ≤ k) : cOf C p K q (k + 1) = if cK C p k = K ∧ cD C p k = q then cOf C p K q k + 1 else cOf C p K q k := by
  unfold cOf
  rw [it_s h]
theorem cOf_le {C : Cmp} {p K q k : Int} (h : 0 ≤ k) : 0 ≤ cOf C p K q k ∧ cOf C p K q k ≤ k := by
  refine int_ind (P := fun k => 0 ≤ cOf C p K q k ∧ cOf C p K q k ≤ k) ⟨Int.le_refl _, Int.le_refl _⟩ ?_ k h
  intro i hi ih
  rw [cOf_s hi]
  split <;> omega
theorem cOf_mono {C : Cmp} {p K q k m : Int} (h : 0 ≤ k) (hm : k ≤ m) : cOf C p K q k ≤ cOf C p K q m := by
  have key : ∀ d : Nat, cOf C p K q k ≤ cOf C p K q (k + d) := by
    intro d
    induction d with
    | zero => rw [show k + ((0 : Nat) : Int) = k by omega]; exact Int.le_refl _
    | succ d ih =>
      rw [show k + ((d + 1 : Nat) : Int) = (k + d) + 1 by omega, cOf_s (by omega)]
      split <;> omega
  have := key (m - k).toNat
  rwa [show k + ((m - k).toNat : Int) = m by omega] at this
theorem cOf_lt {C : Cmp} {p K q k m : Int} (h : 0 ≤ k) (hm : k < m) (hk : cK C p k = K) (hd : cD C p k = q) : cOf C p K q k < cOf C p K q m := by
  have h1 := cOf_mono (C := C) (p := p) (K := K) (q := q) (k := k + 1) (m := m) (by omega) (by omega)
  rw [cOf_s h, if_pos ⟨hk, hd⟩] at h1
  omega
/-- event s of p is the one of a kind with q behind b such -/
def isNth (C : Cmp) (p K q b s : Int) : Prop := 0 ≤ s ∧ s < cS C p ∧ cK C p s = K ∧ cD C p s = q ∧ cOf C p K q s = b
theorem isNth_uniq {C : Cmp} {p K q b s t : Int} (h : isNth C p K q b s) (h2 : isNth C p K q b t) : s = t := by
  obtain ⟨a1, a2, a3, a4, a5⟩ := h
  obtain ⟨b1, b2, b3, b4, b5⟩ := h2
  rcases Int.lt_trichotomy s t with c | c | c
  · have := cOf_lt a1 c a3 a4; omega
  · exact c
  · have := cOf_lt b1 c b3 b4; omega
theorem isNth_lt {C : Cmp} {p K q b s m : Int} (h : isNth C p K q b s) (hm : 0 ≤ m) : s < m ↔ b < cOf C p K q m := by
  obtain ⟨a1, a2, a3, a4, a5⟩ := h
  constructor
  · intro c
    have := cOf_lt a1 c a3 a4
    omega
  · intro c
    rcases Int.lt_or_le s m with d | d
    · exact d
    · have := cOf_mono (C := C) (p := p) (K := K) (q := q) hm d
      omega
/-- the first such among the first n; -1: none -/
def cNth (C : Cmp) (p K q b n : Int) : Int := it (fun i r => if r = -1 ∧ cK C p i = K ∧ cD C p i = q ∧ cOf C p K q i = b then i else r) (-1) n
theorem cNth_s {C : Cmp} {p K q b n : Int} (h : 0 ≤ n) : cNth C p K q b (n + 1) = if cNth C p K q b n = -1 ∧ cK C p n = K ∧ cD C p n = q ∧ cOf C p K q n = b then n else cNth C p K q b n := by
  unfold cNth
  rw [it_s h]
theorem cNth_spec {C : Cmp} {p K q b n : Int} (h : 0 ≤ n) : (cNth C p K q b n = -1 ∧ ∀ s, 0 ≤ s → s < n → ¬ (cK C p s = K ∧ cD C p s = q ∧ cOf C p K q s = b)) ∨ (0 ≤ cNth C p K q b n ∧ cNth C p K q b n < n ∧ cK C p (cNth C p K q b n) = K ∧ cD C p (cNth C p K q b n) = q ∧ cOf C p K q (cNth C p K q b n) = b) := by
  refine int_ind (P := fun n => (cNth C p K q b n = -1 ∧ ∀ s, 0 ≤ s → s < n → ¬ (cK C p s = K ∧ cD C p s = q ∧ cOf C p K q s = b)) ∨ (0 ≤ cNth C p K q b n ∧ cNth C p K q b n < n ∧ cK C p (cNth C p K q b n) = K ∧ cD C p (cNth C p K q b n) = q ∧ cOf C p K q (cNth C p K q b n) = b)) ?_ ?_ n h
  · exact Or.inl ⟨rfl, fun s h1 h2 => by omega⟩
  · intro i hi ih
    rw [cNth_s hi]
    rcases ih with ⟨e, a⟩ | ⟨e1, e2, e3⟩
    · by_cases c : cK C p i = K ∧ cD C p i = q ∧ cOf C p K q i = b
      · rw [if_pos ⟨e, c⟩]
        exact Or.inr ⟨hi, by omega, c⟩
      · rw [if_neg (fun z => c z.2)]
        refine Or.inl ⟨e, fun s h1 h2 => ?_⟩
        rcases Int.lt_or_le s i with d | d
        · exact a s h1 d
        · rw [show s = i by omega]; exact c
    · rw [if_neg (fun z => by omega)]
      exact Or.inr ⟨e1, by omega, e3⟩
theorem cNth_is {C : Cmp} {p K q b s : Int} (h : isNth C p K q b s) : cNth C p K q b (cS C p) = s := by
  have h0 := h
  obtain ⟨a1, a2, a3, a4, a5⟩ := h
  rcases cNth_spec (C := C) (p := p) (K := K) (q := q) (b := b) (n := cS C p) (by omega) with ⟨-, e⟩ | ⟨e1, e2, e3, e4, e5⟩
  · exact absurd ⟨a3, a4, a5⟩ (e s a1 a2)
  · exact isNth_uniq ⟨e1, e2, e3, e4, e5⟩ h0
theorem cNth_ex {C : Cmp} {p K q b : Int} (hs : 0 ≤ cS C p) (hb : 0 ≤ b) (hl : b < cOf C p K q (cS C p)) : ∃ s, isNth C p K q b s := by
  have key : ∀ n, 0 ≤ n → n ≤ cS C p → b < cOf C p K q n → ∃ s, isNth C p K q b s := by
    refine int_ind ?_ ?_
    · intro _ h; rw [cOf_0] at h; omega
    · intro i hi ih h1 h2
      rw [cOf_s hi] at h2
      by_cases c : b < cOf C p K q i
      · exact ih (by omega) c
      · split at h2
        · rename_i hh
          exact ⟨i, hi, by omega, hh.1, hh.2, by omega⟩
        · omega
  exact key _ hs (Int.le_refl _) hl
theorem cNth_none {C : Cmp} {p K q b : Int} (hs : 0 ≤ cS C p) (hb : 0 ≤ b) : cNth C p K q b (cS C p) = -1 ↔ cOf C p K q (cS C p) ≤ b := by
  constructor
  · intro h
    rcases Int.lt_or_le b (cOf C p K q (cS C p)) with c | c
    · obtain ⟨s, hs1⟩ := cNth_ex hs hb c
      rw [cNth_is hs1] at h
      have := hs1.1
      omega
    · exact c
  · intro h
    rcases cNth_spec (C := C) (p := p) (K := K) (q := q) (b := b) (n := cS C p) hs with ⟨e, -⟩ | ⟨e1, e2, e3, e4, e5⟩
    · exact e
    · have := cOf_lt e1 e2 e3 e4
      omega
theorem cNth_nth {C : Cmp} {p K q b : Int} (hs : 0 ≤ cS C p) (hne : ¬ cNth C p K q b (cS C p) = -1) : isNth C p K q b (cNth C p K q b (cS C p)) := by
  rcases cNth_spec (C := C) (p := p) (K := K) (q := q) (b := b) (n := cS C p) hs with ⟨e, -⟩ | h
  · exact absurd e hne
  · exact h
/-- the partner of an event -/
def cPt (C : Cmp) (p k : Int) : Int := if cK C p k = 0 then -1 else cNth C (cD C p k) (3 - cK C p k) p (cOf C p (cK C p k) (cD C p k) k) (cS C (cD C p k))
theorem cPt_range {C : Cmp} (W : Wf C) {p k : Int} : -1 ≤ cPt C p k ∧ cPt C p k < 9 := by
  unfold cPt
  split
  · omega
  · have := W.sz (cD C p k)
    rcases cNth_spec (C := C) (p := cD C p k) (K := 3 - cK C p k) (q := p) (b := cOf C p (cK C p k) (cD C p k) k) (n := cS C (cD C p k)) (by omega) with ⟨e, -⟩ | ⟨e1, e2, -⟩ <;> omega
/-- the next event of p can come -/
def canF (C : Cmp) (c : Int → Int) (p : Int) : Prop := c p < cS C p ∧ (cK C p (c p) = 2 → cOf C p 2 (cD C p (c p)) (c p) < cOf C (cD C p (c p)) 1 p (c (cD C p (c p))))
/-- an order of all events: cuts f 0, f 1 .., and the processes w i that go on -/
def Ord (C : Cmp) (f : Nat → Int → Int) (w : Nat → Int) : Prop := (∀ q, f 0 q = 0) ∧ (∀ i : Nat, (i : Int) < cT C → 0 ≤ w i ∧ w i < cN C ∧ canF C (f i) (w i) ∧ f (i + 1) = inc (f i) (w i)) ∧ ∀ i : Nat, (i : Int) = cT C → ∀ q, f i q = cS C q
def Valid (C : Cmp) : Prop := Wf C ∧ ∃ f w, Ord C f w
/-- a cut's counts lie within the computation -/
def In (C : Cmp) (c : Int → Int) : Prop := ∀ p, 0 ≤ c p ∧ c p ≤ cS C p
theorem In.dg {C : Cmp} (W : Wf C) {c : Int → Int} (h : In C c) {n : Int} : Dg n c := fun p _ _ => ⟨(h p).1, by have := h p; have := W.sz p; omega⟩
/-- consistent: no receive without its send -/
def Cons (C : Cmp) (c : Int → Int) : Prop := ∀ p q, 0 ≤ p → p < cN C → 0 ≤ q → q < cN C → cOf C p 2 q (c p) ≤ cOf C q 1 p (c q)
theorem Cons_0 {C : Cmp} {c : Int → Int} (h : ∀ p, c p = 0) : Cons C c := fun p q _ _ _ _ => by rw [h p, h q]; exact Int.le_refl _
theorem Cons_inc {C : Cmp} (W : Wf C) {c : Int → Int} {p : Int} (hi : In C c) (hc : Cons C c) (h0 : 0 ≤ p) (h1 : p < cN C) (hl : c p < cS C p) : Cons C (inc c p) ↔ canF C c p := by
  have hp := hi p
  constructor
  · intro h
    refine ⟨hl, fun hk => ?_⟩
    rcases W.2.2.2.2.2 p (c p) h0 h1 (by omega) hl with ⟨a, -⟩ | ⟨a, b1, b2, b3⟩
    · omega
    · have h2 := h p (cD C p (c p)) h0 h1 b1 b2
      rw [inc_at, inc_ne b3, cOf_s (by omega), if_pos ⟨hk, rfl⟩] at h2
      omega
  · rintro ⟨-, h⟩ p' q' a0 a1 b0 b1
    have base := hc p' q' a0 a1 b0 b1
    have hp' := hi p'
    have hq' := hi q'
    by_cases e1 : p' = p
    · subst e1
      by_cases e2 : q' = p'
      · subst e2
        rw [inc_at, cOf_s (by omega), cOf_s (by omega)]
        split
        · rename_i hh
          rcases W.2.2.2.2.2 q' (c q') h0 h1 (by omega) hl with ⟨a, -⟩ | ⟨a, _, _, b3⟩
          · omega
          · exact absurd hh.2 b3
        · split <;> omega
      · rw [inc_at, inc_ne e2, cOf_s (by omega)]
        split
        · rename_i hh
          have := h hh.1
          rw [hh.2] at this
          omega
        · exact base
    · rw [inc_ne e1]
      by_cases e2 : q' = p
      · subst e2
        rw [inc_at, cOf_s (by omega)]
        split <;> omega
      · rw [inc_ne e2]; exact base
theorem Cons_min {C : Cmp} {c d : Int → Int} (hc : In C c) (hd : In C d) (h1 : Cons C c) (h2 : Cons C d) : Cons C (fun p => min (c p) (d p)) := by
  intro p q a0 a1 b0 b1
  have e1 := h1 p q a0 a1 b0 b1
  have e2 := h2 p q a0 a1 b0 b1
  have c1 := hc p
  have d1 := hd p
  simp only
  rcases Int.le_total (c q) (d q) with hq | hq
  · rw [Int.min_eq_left hq]
    exact Int.le_trans (cOf_mono (by omega) (by omega)) e1
  · rw [Int.min_eq_right hq]
    exact Int.le_trans (cOf_mono (by omega) (by omega)) e2
theorem Cons_max {C : Cmp} {c d : Int → Int} (hc : In C c) (hd : In C d) (h1 : Cons C c) (h2 : Cons C d) : Cons C (fun p => max (c p) (d p)) := by
  intro p q a0 a1 b0 b1
  have e1 := h1 p q a0 a1 b0 b1
  have e2 := h2 p q a0 a1 b0 b1
  have c1 := hc q
  have d1 := hd q
  simp only
  rcases Int.le_total (c p) (d p) with hq | hq
  · rw [Int.max_eq_right hq]
    exact Int.le_trans e2 (cOf_mono (by omega) (by omega))
  · rw [Int.max_eq_left hq]
    exact Int.le_trans e1 (cOf_mono (by omega) (by omega))
/-- how many events a cut has -/
def lev (c : Int → Int) : Int := c 0 + c 1 + c 2 + c 3
theorem lev_inc {c : Int → Int} {p : Int} (h0 : 0 ≤ p) (h1 : p < 4) : lev (inc c p) = lev c + 1 := by
  unfold lev inc
  rcases (show p = 0 ∨ p = 1 ∨ p = 2 ∨ p = 3 by omega) with rfl | rfl | rfl | rfl <;> simp <;> omega
theorem Ord.fin {C : Cmp} {f : Nat → Int → Int} {w : Nat → Int} (W : Wf C) (h : Ord C f w) : ∀ i : Nat, (i : Int) ≤ cT C → In C (f i) ∧ lev (f i) = i := by
  intro i
  induction i with
  | zero =>
    intro _
    refine ⟨fun p => by rw [h.1 p]; have := W.sz p; omega, ?_⟩
    unfold lev
    rw [h.1, h.1, h.1, h.1]; rfl
  | succ i ih =>
    intro hi
    obtain ⟨h1, h2⟩ := ih (by omega)
    obtain ⟨a1, a2, a3, a4⟩ := h.2.1 i (by omega)
    have hN := W.2.1
    rw [a4]
    refine ⟨fun p => ?_, by rw [lev_inc a1 (by omega), h2]; omega⟩
    by_cases e : p = w i
    · subst e
      rw [inc_at]
      have := h1 (w i)
      have := a3.1
      omega
    · rw [inc_ne e]; exact h1 p
theorem Ord.mono {C : Cmp} {f : Nat → Int → Int} {w : Nat → Int} (h : Ord C f w) {i : Nat} (hi : (i : Int) < cT C) (p : Int) : f i p ≤ f (i + 1) p := by
  obtain ⟨a1, a2, a3, a4⟩ := h.2.1 i hi
  rw [a4]
  by_cases e : p = w i
  · rw [e, inc_at]; omega
  · rw [inc_ne e]; omega
/-- whatever has come, as long as something is left something can come -/
theorem can_go {C : Cmp} (V : Valid C) {c : Int → Int} (hi : In C c) (hne : lev c < cT C) : ∃ p, 0 ≤ p ∧ p < cN C ∧ canF C c p := by
  obtain ⟨W, f, w, O⟩ := V
  -- the first of the order's cuts that isn't within c
  have ex : ∃ i : Nat, (i : Int) < cT C ∧ (∀ p, f i p ≤ c p) ∧ ¬ ∀ p, f (i + 1) p ≤ c p := by
    have key : ∀ m : Nat, (m : Int) ≤ cT C → (∃ i : Nat, (i : Int) < cT C ∧ (∀ p, f i p ≤ c p) ∧ ¬ ∀ p, f (i + 1) p ≤ c p) ∨ ∀ p, f m p ≤ c p := by
      intro m
      induction m with
      | zero => intro _; exact Or.inr fun p => by rw [O.1 p]; exact (hi p).1
      | succ m ih =>
        intro hm
        rcases ih (by omega) with h | h
        · exact Or.inl h
        · by_cases hh : ∀ p, f (m + 1) p ≤ c p
          · exact Or.inr hh
          · exact Or.inl ⟨m, by omega, h, hh⟩
    have hT : 0 ≤ cT C := by
      have a0 := W.sz 0; have a1 := W.sz 1; have a2 := W.sz 2; have a3 := W.sz 3
      unfold cT; omega
    rcases key (cT C).toNat (by omega) with h | h
    · exact h
    · exfalso
      have e := O.2.2 (cT C).toNat (by omega)
      have b0 := h 0; have b1 := h 1; have b2 := h 2; have b3 := h 3
      rw [e] at b0 b1 b2 b3
      unfold lev at hne
      unfold cT at hne
      omega
  obtain ⟨i, hiT, h1, h2⟩ := ex
  obtain ⟨a1, a2, a3, a4⟩ := O.2.1 i hiT
  rw [a4] at h2
  have e : c (w i) = f i (w i) := by
    have b1 := h1 (w i)
    rcases Int.lt_or_le (f i (w i)) (c (w i)) with d | d
    · exfalso
      apply h2
      intro p
      by_cases q : p = w i
      · rw [q, inc_at]; omega
      · rw [inc_ne q]; exact h1 p
    · omega
  refine ⟨w i, a1, a2, by rw [e]; exact a3.1, fun hk => ?_⟩
  rw [e] at hk ⊢
  have h3 := a3.2 hk
  exact Int.lt_of_lt_of_le h3 (cOf_mono ((O.fin W i (by omega)).1 _).1 (h1 _))
/-- a path of m steps from the empty cut to c -/
def Pth (C : Cmp) : Nat → (Int → Int) → Prop
  | 0, c => ∀ p, c p = 0
  | m + 1, c => ∃ p d, 0 ≤ p ∧ p < cN C ∧ Pth C m d ∧ canF C d p ∧ c = inc d p
theorem Pth.fin {C : Cmp} (W : Wf C) : ∀ (m : Nat) (c : Int → Int), Pth C m c → In C c ∧ Cons C c ∧ lev c = m := by
  intro m
  induction m with
  | zero =>
    intro c h
    refine ⟨fun p => by rw [h p]; have := W.sz p; omega, Cons_0 h, ?_⟩
    unfold lev; rw [h, h, h, h]; rfl
  | succ m ih =>
    intro c h
    obtain ⟨p, d, h0, h1, h2, h3, rfl⟩ := h
    obtain ⟨i1, i2, i3⟩ := ih d h2
    have hN := W.2.1
    refine ⟨fun q => ?_, (Cons_inc W i1 i2 h0 h1 h3.1).mpr h3, by rw [lev_inc h0 (by omega), i3]; omega⟩
    by_cases e : q = p
    · subst e
      rw [inc_at]
      have := i1 q
      have := h3.1
      omega
    · rw [inc_ne e]; exact i1 q
/-- each consistent cut is reached -/
theorem reach {C : Cmp} (V : Valid C) {c : Int → Int} (hi : In C c) (hc : Cons C c) : Pth C (lev c).toNat c := by
  obtain ⟨W, f, w, O⟩ := V
  have hT : 0 ≤ cT C := by
    have a0 := W.sz 0; have a1 := W.sz 1; have a2 := W.sz 2; have a3 := W.sz 3
    unfold cT; omega
  have key : ∀ i : Nat, (i : Int) ≤ cT C → ∃ m, Pth C m (fun p => min (f i p) (c p)) := by
    intro i
    induction i with
    | zero =>
      intro _
      refine ⟨0, fun p => ?_⟩
      have := hi p
      simp only
      rw [O.1 p]; omega
    | succ i ih =>
      intro hiT
      obtain ⟨m, hm⟩ := ih (by omega)
      obtain ⟨a1, a2, a3, a4⟩ := O.2.1 i (by omega)
      obtain ⟨F1, -⟩ := O.fin W i (by omega)
      by_cases hlt : f i (w i) < c (w i)
      · refine ⟨m + 1, w i, _, a1, a2, hm, ⟨?_, fun hk => ?_⟩, ?_⟩
        · simp only
          have := a3.1; omega
        · simp only at hk ⊢
          rw [Int.min_eq_left (by omega)] at hk ⊢
          have h3 := a3.2 hk
          have fin := F1 (w i)
          rcases W.2.2.2.2.2 (w i) (f i (w i)) a1 a2 (by omega) a3.1 with ⟨a, -⟩ | ⟨a, b1, b2, b3⟩
          · omega
          · have h4 := hc (w i) (cD C (w i) (f i (w i))) a1 a2 b1 b2
            have h5 := cOf_lt (C := C) (p := w i) (K := 2) (q := cD C (w i) (f i (w i))) (by omega) hlt hk rfl
            rcases Int.le_total (f i (cD C (w i) (f i (w i)))) (c (cD C (w i) (f i (w i)))) with q | q
            · rw [Int.min_eq_left q]; exact h3
            · rw [Int.min_eq_right q]; omega
        · rw [a4]
          funext p
          by_cases e : p = w i
          · subst e; rw [inc_at, inc_at]; omega
          · rw [inc_ne e, inc_ne e]
      · refine ⟨m, ?_⟩
        have e : (fun p => min (f (i + 1) p) (c p)) = fun p => min (f i p) (c p) := by
          funext p
          rw [a4]
          by_cases q : p = w i
          · subst q; rw [inc_at]; omega
          · rw [inc_ne q]
        rw [e]; exact hm
  obtain ⟨m, hm⟩ := key (cT C).toNat (by omega)
  have e : (fun p => min (f (cT C).toNat p) (c p)) = c := by
    funext p
    rw [O.2.2 _ (by omega) p]
    have := hi p
    omega
  rw [e] at hm
  have := (Pth.fin W m c hm).2.2
  rw [show (lev c).toNat = m by omega]
  exact hm
/-- in a computation that has an order each receive has its partner -/
theorem recv_pt {C : Cmp} (V : Valid C) {p k : Int} (h0 : 0 ≤ p) (h1 : p < cN C) (k0 : 0 ≤ k) (k1 : k < cS C p) (hk : cK C p k = 2) : isNth C (cD C p k) 1 p (cOf C p 2 (cD C p k) k) (cPt C p k) := by
  have V0 := V
  obtain ⟨W, f, w, O⟩ := V
  have hT : 0 ≤ cT C := by
    have a0 := W.sz 0; have a1 := W.sz 1; have a2 := W.sz 2; have a3 := W.sz 3
    unfold cT; omega
  rcases W.2.2.2.2.2 p k h0 h1 k0 k1 with ⟨a, -⟩ | ⟨a, b1, b2, b3⟩
  · omega
  · -- the full cut is consistent
    have full : Cons C (fun q => cS C q) := by
      have key : ∀ i : Nat, (i : Int) ≤ cT C → Cons C (f i) := by
        intro i
        induction i with
        | zero => intro _; exact Cons_0 O.1
        | succ i ih =>
          intro hi
          obtain ⟨c1, c2, c3, c4⟩ := O.2.1 i (by omega)
          rw [c4]
          exact (Cons_inc W (O.fin W i (by omega)).1 (ih (by omega)) c1 c2 c3.1).mpr c3
      have h2 := key (cT C).toNat (by omega)
      have e : f (cT C).toNat = fun q => cS C q := by funext q; exact O.2.2 _ (by omega) q
      rw [← e]; exact h2
    have h3 := full p (cD C p k) h0 h1 b1 b2
    simp only at h3
    have h4 := cOf_lt (C := C) (p := p) (K := 2) (q := cD C p k) k0 k1 hk rfl
    have h5 := cOf_le (C := C) (p := p) (K := 2) (q := cD C p k) k0
    have hq := W.sz (cD C p k)
    obtain ⟨s, hs⟩ := cNth_ex (C := C) (p := cD C p k) (K := 1) (q := p) (b := cOf C p 2 (cD C p k) k) (by omega) h5.1 (by omega)
    have e : cPt C p k = s := by
      unfold cPt
      rw [if_neg (by omega), hk]
      exact cNth_is hs
    rw [e]; exact hs
/-- .. and that send's partner is the receive -/
theorem send_pt {C : Cmp} {p k q s : Int} (hk : cK C p k = 2) (hd : cD C p k = q) (k0 : 0 ≤ k) (k1 : k < cS C p) (h : isNth C q 1 p (cOf C p 2 q k) s) : cPt C q s = k := by
  obtain ⟨a1, a2, a3, a4, a5⟩ := h
  unfold cPt
  rw [if_neg (by omega), a3, a4]
  exact cNth_is ⟨k0, k1, by rw [hk]; rfl, hd, by rw [a5]; rfl⟩
