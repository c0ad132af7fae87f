/-! vectors -/
def IsV (C : Cmp) (V : Int → Int → Int → Int) : Prop := ∀ p k q, 0 ≤ p → p < cN C → 0 ≤ k → k < cS C p → 0 ≤ q → q < cN C →
  V p k q = if q = p then k + 1 else max (if k = 0 then 0 else V p (k - 1) q) (if cK C p k = 2 then V (cD C p k) (cPt C p k) q else 0)
theorem IsV.own {C : Cmp} {V : Int → Int → Int → Int} (h : IsV C V) {p k : Int} (p0 : 0 ≤ p) (p1 : p < cN C) (k0 : 0 ≤ k) (k1 : k < cS C p) : V p k p = k + 1 := by
  rw [h p k p p0 p1 k0 k1 p0 p1, if_pos rfl]
/-- an event of a reached cut knows no more than the cut -/
theorem IsV.le {C : Cmp} (Vd : Valid C) {V : Int → Int → Int → Int} (h : IsV C V) : ∀ (m : Nat) (c : Int → Int), Pth C m c → ∀ p k q, 0 ≤ p → p < cN C → 0 ≤ k → k < c p → 0 ≤ q → q < cN C → 0 ≤ V p k q ∧ V p k q ≤ c q := by
  intro m
  induction m with
  | zero =>
    intro c hc p k q p0 p1 k0 k1
    rw [hc p] at k1; omega
  | succ m ih =>
    intro c hc p k q p0 p1 k0 k1 q0 q1
    obtain ⟨w, d, w0, w1, hd, hw, rfl⟩ := hc
    obtain ⟨D1, D2, D3⟩ := Pth.fin Vd.1 m d hd
    have hle : ∀ q, d q ≤ inc d w q := fun q => by
      by_cases e : q = w
      · rw [e, inc_at]; omega
      · rw [inc_ne e]; omega
    by_cases old : k < d p
    · have := ih d hd p k q p0 p1 k0 old q0 q1
      have := hle q
      omega
    · have e : p = w := by
        by_cases e : p = w
        · exact e
        · rw [inc_ne e] at k1; omega
      subst e
      rw [inc_at] at k1
      have ek : k = d p := by omega
      have kS : k < cS C p := by have := hw.1; omega
      rw [h p k q p0 p1 k0 kS q0 q1]
      by_cases eq : q = p
      · subst eq
        rw [if_pos rfl, inc_at]; omega
      · rw [if_neg eq, inc_ne eq]
        have a1 : 0 ≤ (if k = 0 then 0 else V p (k - 1) q) ∧ (if k = 0 then 0 else V p (k - 1) q) ≤ d q := by
          split
          · have := D1 q; omega
          · exact ih d hd p (k - 1) q p0 p1 (by omega) (by omega) q0 q1
        have a2 : 0 ≤ (if cK C p k = 2 then V (cD C p k) (cPt C p k) q else 0) ∧ (if cK C p k = 2 then V (cD C p k) (cPt C p k) q else 0) ≤ d q := by
          split
          · rename_i hk
            rcases Vd.1.2.2.2.2.2 p k p0 p1 k0 kS with ⟨z, -⟩ | ⟨-, b1, b2, b3⟩
            · omega
            · have hn := recv_pt Vd p0 p1 k0 kS hk
              have hl := (isNth_lt hn (D1 (cD C p k)).1).mpr (by have := hw.2; rw [← ek] at this; exact this hk)
              exact ih d hd (cD C p k) (cPt C p k) q b1 b2 hn.1 hl q0 q1
          · have := D1 q; omega
        omega
theorem full_pth {C : Cmp} (Vd : Valid C) : ∃ m, Pth C m (fun p => cS C p) := by
  have hi : In C (fun p => cS C p) := fun p => ⟨(Vd.1.sz p).1, Int.le_refl _⟩
  refine ⟨_, reach Vd hi ?_⟩
  obtain ⟨W, f, w, O⟩ := Vd
  have hT : 0 ≤ cT C := by
    have a0 := W.sz 0; have a1 := W.sz 1; have a2 := W.sz 2; have a3 := W.sz 3
    unfold cT; omega
  have key : ∀ i : Nat, (i : Int) ≤ cT C → Cons C (f i) := by
    intro i
    induction i with
    | zero => intro _; exact Cons_0 O.1
    | succ i ih =>
      intro hi
      obtain ⟨c1, c2, c3, c4⟩ := O.2.1 i (by omega)
      rw [c4]
      exact (Cons_inc W (O.fin W i (by omega)).1 (ih (by omega)) c1 c2 c3.1).mpr c3
  have h2 := key (cT C).toNat (by omega)
  have e : f (cT C).toNat = fun q => cS C q := by funext q; exact O.2.2 _ (by omega) q
  rw [← e]; exact h2
/-- induction over the events, each behind those that it needs -/
theorem ev_ind {C : Cmp} (Vd : Valid C) {P : Int → Int → Prop} (hs : ∀ p k, 0 ≤ p → p < cN C → 0 ≤ k → k < cS C p → (0 < k → P p (k - 1)) → (cK C p k = 2 → P (cD C p k) (cPt C p k)) → P p k) : ∀ p k, 0 ≤ p → p < cN C → 0 ≤ k → k < cS C p → P p k := by
  have key : ∀ (m : Nat) (c : Int → Int), Pth C m c → ∀ p k, 0 ≤ p → p < cN C → 0 ≤ k → k < c p → P p k := by
    intro m
    induction m with
    | zero => intro c hc p k p0 p1 k0 k1; rw [hc p] at k1; omega
    | succ m ih =>
      intro c hc p k p0 p1 k0 k1
      obtain ⟨w, d, w0, w1, hd, hw, rfl⟩ := hc
      obtain ⟨D1, D2, D3⟩ := Pth.fin Vd.1 m d hd
      by_cases old : k < d p
      · exact ih d hd p k p0 p1 k0 old
      · have e : p = w := by
          by_cases e : p = w
          · exact e
          · rw [inc_ne e] at k1; omega
        subst e
        rw [inc_at] at k1
        have ek : k = d p := by omega
        have kS : k < cS C p := by have := hw.1; omega
        refine hs p k p0 p1 k0 kS (fun h => ih d hd p (k - 1) p0 p1 (by omega) (by omega)) (fun hk => ?_)
        rcases Vd.1.2.2.2.2.2 p k p0 p1 k0 kS with ⟨z, -⟩ | ⟨-, b1, b2, b3⟩
        · omega
        · have hn := recv_pt Vd p0 p1 k0 kS hk
          have hl := (isNth_lt hn (D1 (cD C p k)).1).mpr (by have := hw.2; rw [← ek] at this; exact this hk)
          exact ih d hd (cD C p k) (cPt C p k) b1 b2 hn.1 hl
  obtain ⟨m, hm⟩ := full_pth Vd
  exact fun p k p0 p1 k0 k1 => key m _ hm p k p0 p1 k0 k1
theorem IsV.uniq {C : Cmp} (Vd : Valid C) {V V' : Int → Int → Int → Int} (h : IsV C V) (h' : IsV C V') : ∀ p k, 0 ≤ p → p < cN C → 0 ≤ k → k < cS C p → ∀ q, 0 ≤ q → q < cN C → V p k q = V' p k q := by
  refine ev_ind Vd ?_
  intro p k p0 p1 k0 k1 i1 i2 q q0 q1
  rw [h p k q p0 p1 k0 k1 q0 q1, h' p k q p0 p1 k0 k1 q0 q1]
  split
  · rfl
  · congr 1
    · split
      · rfl
      · exact i1 (by omega) q q0 q1
    · split
      · rename_i hk; exact i2 hk q q0 q1
      · rfl
theorem IsV.mono {C : Cmp} (Vd : Valid C) {V : Int → Int → Int → Int} (h : IsV C V) {p k m q : Int} (p0 : 0 ≤ p) (p1 : p < cN C) (k0 : 0 ≤ k) (hm : k ≤ m) (m1 : m < cS C p) (q0 : 0 ≤ q) (q1 : q < cN C) : V p k q ≤ V p m q := by
  have key : ∀ d : Nat, k + d < cS C p → V p k q ≤ V p (k + d) q := by
    intro d
    induction d with
    | zero => intro _; rw [show k + ((0 : Nat) : Int) = k by omega]; exact Int.le_refl _
    | succ d ih =>
      intro hd
      have i := ih (by omega)
      rw [h p (k + ((d + 1 : Nat) : Int)) q p0 p1 (by omega) hd q0 q1]
      by_cases e : q = p
      · subst e
        rw [if_pos rfl]
        have o2 := h.own (k := k + d) p0 p1 (by omega) (by omega)
        omega
      · rw [if_neg e, if_neg (by omega), show k + ((d + 1 : Nat) : Int) - 1 = k + d by omega]
        omega
  have := key (m - k).toNat (by omega)
  rwa [show k + ((m - k).toNat : Int) = m by omega] at this
/-- consistent by the vectors of the last events -/
theorem vcons {C : Cmp} (Vd : Valid C) {V : Int → Int → Int → Int} (h : IsV C V) {c : Int → Int} (hi : In C c) : (∀ p q, 0 ≤ p → p < cN C → 0 < c p → 0 ≤ q → q < cN C → V p (c p - 1) q ≤ c q) ↔ Cons C c := by
  constructor
  · intro H p q p0 p1 q0 q1
    -- count the receives of p from q
    have key : ∀ k, 0 ≤ k → k ≤ c p → cOf C p 2 q k ≤ cOf C q 1 p (c q) := by
      refine int_ind ?_ ?_
      · intro _; rw [cOf_0]; exact (cOf_le (hi q).1).1
      · intro k k0 ih k1
        have kS : k < cS C p := by have := hi p; omega
        rw [cOf_s k0]
        split
        · rename_i hh
          have hn := recv_pt Vd p0 p1 k0 kS hh.1
          rw [hh.2] at hn
          have hpq : ¬ q = p := by
            rcases Vd.1.2.2.2.2.2 p k p0 p1 k0 kS with ⟨z, -⟩ | ⟨-, b1, b2, b3⟩
            · omega
            · rw [hh.2] at b3; exact b3
          have e1 := h p k q p0 p1 k0 kS q0 q1
          rw [if_neg hpq, if_pos hh.1, hh.2] at e1
          have e2 := h.own q0 q1 hn.1 hn.2.1
          rw [e2] at e1
          have e3 := h.mono Vd p0 p1 k0 (show k ≤ c p - 1 by omega) (by have := hi p; omega) q0 q1
          have e4 := H p q p0 p1 (by omega) q0 q1
          have hl : cPt C p k < c q := by omega
          have := (isNth_lt hn (hi q).1).mp hl
          omega
        · exact ih (by omega)
    exact key (c p) (hi p).1 (Int.le_refl _)
  · intro H p q p0 p1 hc q0 q1
    exact (h.le Vd _ c (reach Vd hi H) p (c p - 1) q p0 p1 (by omega) (by omega) q0 q1).2
/-- the vectors -/
noncomputable def vec (C : Cmp) : Int → Int → Int → Int := Classical.epsilon (fun V => IsV C V)
theorem vec_of {C : Cmp} {V : Int → Int → Int → Int} (h : IsV C V) : IsV C (vec C) := Classical.epsilon_spec (p := fun V => IsV C V) ⟨V, h⟩
/-! values and what was sent more than received, along a process -/
def vl (C : Cmp) (p k : Int) : Int := it (fun i v => if cK C p i = 0 then cD C p i else v) 0 k
def sr (C : Cmp) (p k : Int) : Int := it (fun i s => if cK C p i = 1 then s + 1 else if cK C p i = 2 then s - 1 else s) 0 k
theorem vl_s {C : Cmp} {p k : Int} (h : 0 ≤ k) : vl C p (k + 1) = if cK C p k = 0 then cD C p k else vl C p k := by unfold vl; rw [it_s h]
theorem sr_s {C : Cmp} {p k : Int} (h : 0 ≤ k) : sr C p (k + 1) = if cK C p k = 1 then sr C p k + 1 else if cK C p k = 2 then sr C p k - 1 else sr C p k := by unfold sr; rw [it_s h]
theorem vl_range {C : Cmp} (W : Wf C) {p k : Int} (p0 : 0 ≤ p) (p1 : p < cN C) (k0 : 0 ≤ k) (k1 : k ≤ cS C p) : 0 ≤ vl C p k ∧ vl C p k ≤ 9 := by
  have key : ∀ k, 0 ≤ k → k ≤ cS C p → 0 ≤ vl C p k ∧ vl C p k ≤ 9 := by
    refine int_ind ?_ ?_
    · intro _; show 0 ≤ (0 : Int) ∧ (0 : Int) ≤ 9; omega
    · intro i hi ih h1
      rw [vl_s hi]
      split
      · rename_i hk
        rcases W.2.2.2.2.2 p i p0 p1 hi (by omega) with ⟨-, b⟩ | ⟨b, -⟩
        · exact b
        · omega
      · exact ih (by omega)
  exact key k k0 k1
theorem sr_range {C : Cmp} {p k : Int} (k0 : 0 ≤ k) : -k ≤ sr C p k ∧ sr C p k ≤ k := by
  refine int_ind (P := fun k => -k ≤ sr C p k ∧ sr C p k ≤ k) (by show -0 ≤ (0 : Int) ∧ (0 : Int) ≤ 0; omega) ?_ k k0
  intro i hi ih
  rw [sr_s hi]
  split
  · omega
  · split <;> omega
/-- the links of the computation in the cells of the object e -/
def EvL (e : Nat) (h : Nat → Int → Int) (C : Cmp) : Prop := (∀ p k, 0 ≤ p → p < cN C → 0 ≤ k → k < cS C p → h (e + 4) (9 * p + k) = cPt C p k) ∧
  (∀ p k q, 0 ≤ p → p < cN C → 0 ≤ k → k < cS C p → 0 ≤ q → q < cN C → h (e + 5) (4 * (9 * p + k) + q) = vec C p k q) ∧
  ∀ p k, 0 ≤ p → p < cN C → 0 ≤ k → k ≤ cS C p → h (e + 6) (10 * p + k) = vl C p k ∧ h (e + 7) (10 * p + k) = sr C p k
/-- a computation with its links: what the methods of an object of Events rest on -/
def EvOk (e : Nat) (h : Nat → Int → Int) (C : Cmp) : Prop := EvR e h C ∧ EvL e h C ∧ Valid C ∧ IsV C (vec C) ∧ 1 ≤ cN C ∧ Tens h
