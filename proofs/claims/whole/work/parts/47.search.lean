/-! where a predicate holds, and paths that avoid it -/
/-- the first below n; -1: none -/
noncomputable def fst (P : Int → Prop) (n : Int) : Int := it (fun p r => pick (r = -1 ∧ P p) p r) (-1) n
theorem fst_s {P : Int → Prop} {n : Int} (h : 0 ≤ n) : fst P (n + 1) = pick (fst P n = -1 ∧ P n) n (fst P n) := by unfold fst; rw [it_s h]
theorem fst_none {P : Int → Prop} {n : Int} (h : 0 ≤ n) (hz : ∀ p, 0 ≤ p → p < n → ¬ P p) : fst P n = -1 := by
  have key : ∀ m, 0 ≤ m → m ≤ n → fst P m = -1 := by
    refine int_ind ?_ ?_
    · intro _; rfl
    · intro i hi ih hm
      rw [fst_s hi, pick_f (fun z => hz i hi (by omega) z.2)]
      exact ih (by omega)
  exact key n h (Int.le_refl _)
theorem fst_at {P : Int → Prop} {n p : Int} (p0 : 0 ≤ p) (p1 : p < n) (hp : P p) (hz : ∀ q, 0 ≤ q → q < p → ¬ P q) : fst P n = p := by
  have key : ∀ m, m ≤ n → p < m → fst P m = p → fst P n = p := by
    refine up_ind (fun _ h => h) ?_
    intro i hi ih hl h
    refine ih (by omega) ?_
    rw [fst_s (by omega), pick_f (fun z => by omega)]
    exact h
  refine key (p + 1) (by omega) (by omega) ?_
  rw [fst_s p0, fst_none p0 hz, pick_t ⟨rfl, hp⟩]
theorem fst_cases {P : Int → Prop} {n : Int} (h : 0 ≤ n) : (fst P n = -1 ∧ ∀ p, 0 ≤ p → p < n → ¬ P p) ∨ (0 ≤ fst P n ∧ fst P n < n ∧ P (fst P n) ∧ ∀ q, 0 ≤ q → q < fst P n → ¬ P q) := by
  refine int_ind (P := fun n => (fst P n = -1 ∧ ∀ p, 0 ≤ p → p < n → ¬ P p) ∨ (0 ≤ fst P n ∧ fst P n < n ∧ P (fst P n) ∧ ∀ q, 0 ≤ q → q < fst P n → ¬ P q)) (Or.inl ⟨rfl, fun p _ _ => by omega⟩) ?_ n h
  intro i hi ih
  rw [fst_s hi]
  rcases ih with ⟨e, z⟩ | ⟨a1, a2, a3, a4⟩
  · by_cases hp : P i
    · rw [pick_t ⟨e, hp⟩]
      exact Or.inr ⟨hi, by omega, hp, z⟩
    · rw [pick_f (fun y => hp y.2)]
      refine Or.inl ⟨e, fun p p0 p1 => ?_⟩
      by_cases ep : p = i
      · rw [ep]; exact hp
      · exact z p p0 (by omega)
  · rw [pick_f (fun y => by omega)]
    exact Or.inr ⟨a1, by omega, a3, a4⟩
/-- from a cut m events before the last, a path goes round the predicate -/
def Av (C : Cmp) (w : Wsh) : Nat → (Int → Int) → Prop
  | 0, c => ¬ Hold C w c
  | m + 1, c => ¬ Hold C w c ∧ ∃ p, 0 ≤ p ∧ p < cN C ∧ canF C c p ∧ Av C w m (inc c p)
def av (C : Cmp) (w : Wsh) (c : Int → Int) : Prop := Av C w (cT C - lev c).toNat c
theorem av_last {C : Cmp} {w : Wsh} {c : Int → Int} (h : lev c = cT C) : av C w c ↔ ¬ Hold C w c := by unfold av; rw [h, Int.sub_self]; exact Iff.rfl
def goes (C : Cmp) (w : Wsh) (c : Int → Int) (p : Int) : Prop := canF C c p ∧ av C w (inc c p)
theorem av_s {C : Cmp} (W : Wf C) {w : Wsh} {c : Int → Int} (h : lev c < cT C) : av C w c ↔ ¬ Hold C w c ∧ ∃ p, 0 ≤ p ∧ p < cN C ∧ goes C w c p := by
  have hN := W.2.1
  unfold goes av
  rw [show (cT C - lev c).toNat = (cT C - lev c - 1).toNat + 1 by omega]
  have e : ∀ p, 0 ≤ p → p < cN C → (cT C - lev (inc c p)).toNat = (cT C - lev c - 1).toNat := fun p p0 p1 => by rw [lev_inc p0 (by omega)]; omega
  constructor
  · rintro ⟨a, p, p0, p1, p2, p3⟩
    exact ⟨a, p, p0, p1, p2, by rw [e p p0 p1]; exact p3⟩
  · rintro ⟨a, p, p0, p1, p2, p3⟩
    exact ⟨a, p, p0, p1, p2, by rw [e p p0 p1] at p3; exact p3⟩
noncomputable def gst (C : Cmp) (w : Wsh) (c : Int → Int) : Int := fst (goes C w c) (cN C)
/-- the path that goes round: its cut after k steps -/
noncomputable def pthC (C : Cmp) (w : Wsh) (k : Int) : Int → Int := it (fun _ c => inc c (gst C w c)) (fun _ => 0) k
theorem pthC_s {C : Cmp} {w : Wsh} {k : Int} (h : 0 ≤ k) : pthC C w (k + 1) = inc (pthC C w k) (gst C w (pthC C w k)) := by unfold pthC; rw [it_s h]
theorem gst_ok {C : Cmp} (W : Wf C) {w : Wsh} {c : Int → Int} (h : lev c < cT C) (ha : av C w c) : 0 ≤ gst C w c ∧ gst C w c < cN C ∧ goes C w c (gst C w c) := by
  obtain ⟨-, p, p0, p1, p2⟩ := (av_s W h).mp ha
  rcases fst_cases (P := goes C w c) W.1 with ⟨-, z⟩ | ⟨a1, a2, a3, -⟩
  · exact absurd p2 (z p p0 p1)
  · exact ⟨a1, a2, a3⟩
theorem pthC_ok {C : Cmp} (W : Wf C) {w : Wsh} (ha : av C w (fun _ => 0)) : ∀ k, 0 ≤ k → k ≤ cT C → In C (pthC C w k) ∧ Cons C (pthC C w k) ∧ lev (pthC C w k) = k ∧ av C w (pthC C w k) := by
  have hN := W.2.1
  refine int_ind ?_ ?_
  · intro _
    exact ⟨fun p => ⟨Int.le_refl _, (W.sz p).1⟩, Cons_0 (fun _ => rfl), rfl, ha⟩
  · intro k hk ih hl
    obtain ⟨i1, i2, i3, i4⟩ := ih (by omega)
    obtain ⟨g1, g2, g3, g4⟩ := gst_ok W (by omega) i4
    rw [pthC_s hk]
    exact ⟨i1.inc g3.1, (Cons_inc W i1 i2 g1 g2 g3.1).mpr g3, by rw [lev_inc g1 (by omega), i3], g4⟩
/-- cuts in which the predicate holds -/
def held (C : Cmp) (w : Wsh) (j : Int) : Prop := Cons C (ctI C j) ∧ Hold C w (ctI C j)
noncomputable def hld (C : Cmp) (w : Wsh) : Int := cntI (held C w) (NP C)
def IsLow (C : Cmp) (w : Wsh) (r j : Int) : Prop := 0 ≤ j ∧ j < NP C ∧ held C w j ∧ r ≤ rk C j ∧ ∀ i, 0 ≤ i → i < NP C → held C w i → r ≤ rk C i → rk C j ≤ rk C i
noncomputable def lowV (C : Cmp) (w : Wsh) : Int := fst (fun x => ∃ j, IsLow C w 0 j ∧ x = en (cN C) (ctI C j)) 10000
theorem IsLow.uniq {C : Cmp} (W : Wf C) {w : Wsh} {r i j : Int} (h1 : IsLow C w r i) (h2 : IsLow C w r j) : i = j := by
  obtain ⟨a0, a1, a2, a3, a4⟩ := h1
  obtain ⟨b0, b1, b2, b3, b4⟩ := h2
  have := a4 j b0 b1 b2 b3
  have := b4 i a0 a1 a2 a3
  by_cases e : i = j
  · exact e
  · exact absurd (by omega) (rk_ne W a0 a1 a2.1 b0 b1 b2.1 e)
theorem lowV_at {C : Cmp} (W : Wf C) (hn : 1 ≤ cN C) {w : Wsh} {j : Int} (h : IsLow C w 0 j) : lowV C w = en (cN C) (ctI C j) := by
  have hN := W.2.1
  have l := en_lt ⟨hn, hN⟩ ((ctI_in W h.1 h.2.1).dg W)
  have t := ten_le (cN C)
  refine fst_at l.1 (by omega) ⟨j, h, rfl⟩ (fun q q0 q1 z => ?_)
  obtain ⟨i, hi, e⟩ := z
  rw [hi.uniq W h] at e
  omega
theorem lowV_none {C : Cmp} {w : Wsh} (h : ∀ j, 0 ≤ j → j < NP C → ¬ held C w j) : lowV C w = -1 := fst_none (by omega) (fun p _ _ z => by
  obtain ⟨j, hj, -⟩ := z
  exact h j hj.1 hj.2.1 hj.2.2.1)
noncomputable def seaP (C : Cmp) (w : Wsh) (x : Int) : Int := if x = 0 then (if 0 < hld C w then 1 else 0) else if x = 1 then hld C w else if x = 2 then lowV C w else pick (av C w (fun _ => 0)) 0 1
def SeOk (s : Nat) (h : Nat → Int → Int) (C : Cmp) (w : Wsh) : Prop := ¬ h s 0 = 0 ∧ h s 3 = hld C w ∧ h s 4 = lowV C w ∧ (∀ j, 0 ≤ j → j < NP C → Cons C (ctI C j) → h (s + 2) j = pick (av C w (ctI C j)) 1 0) ∧ h s 1 = pick (av C w (fun _ => 0)) (cT C) 0 ∧ (av C w (fun _ => 0) → ∀ k, 0 ≤ k → k < cT C → h (s + 1) k = gst C w (pthC C w k))
theorem SeOk.keep {s : Nat} {h h' : Nat → Int → Int} {C : Cmp} {w : Wsh} (L : SeOk s h C w) (hk : ∀ b, s ≤ b → b ≤ s + 2 → h' b = h b) : SeOk s h' C w := by
  unfold SeOk at *
  rw [hk s (by omega) (by omega), hk (s + 1) (by omega) (by omega), hk (s + 2) (by omega) (by omega)]
  exact L
theorem PrOk.keep {h h' : Nat → Int → Int} {w : Wsh} (P : PrOk h w) (h1 : h' 31 = h 31) (h2 : h' 32 = h 32) : PrOk h' w := by
  unfold PrOk at *
  rw [h1, h2]; exact P
theorem se_lt {s a e : Nat} (hs : SeId s) (ha : LtId a) (he : EvId e) : (s + 2 < a ∨ a + 6 < s) ∧ (s + 2 < e ∨ e + 8 < s) ∧ 32 < s := by
  unfold LtId at ha; unfold EvId at he; unfold SeId at hs; omega
section SE
variable {sw : Bool} {g : Nat → Nat → Nat} {h : Nat → Int → Int} {s a e : Nat} {C : Cmp} {c : Int → Int} {w : Wsh}
theorem SE_avoidingStep_spec (hG : Gok sw g) (hs : SeId s) (ha : LtId a) (he : EvId e) (E : EvOk e h C) (L : LtOk a h C) {i : Int} {K : Int → (Nat → Int → Int) → Prop} (i0 : 0 ≤ i) (i1 : i < NP C) (hk : Cons C (ctI C i))
    (A : ∀ j, 0 ≤ j → j < NP C → Cons C (ctI C j) → lev (ctI C i) < lev (ctI C j) → h (s + 2) j = pick (av C w (ctI C j)) 1 0) (k : K (gst C w (ctI C i)) h) : SE_avoidingStep g h s e a i K := by
  have W := E.2.2.1.1
  have hN := W.2.1
  have nle := NP_le W
  have ci := ctI_in W i0 i1
  refine SE_avoidingStep_wp hG hs he ha ?_
  have key : ∀ p, p ≤ cN C → 0 ≤ p → (∀ q, 0 ≤ q → q < p → ¬ goes C w (ctI C i) q) → ∀ u, SE_avoidingStep_3 g h s e a i p u K := by
    refine up_ind ?_ ?_
    · intro _ hz u
      refine SE_avoidingStep_3_wp hG hs he ha ⟨fun _ => ?_, fun z => absurd z (by rw [E.1.1]; omega)⟩
      rw [← fst_none W.1 hz]; exact k
    · intro p hp ih p0 hz u
      refine SE_avoidingStep_3_wp hG hs he ha ⟨fun z => absurd z (by rw [E.1.1]; omega), fun _ => ⟨⟨i0, by omega⟩, ?_⟩⟩
      have skip : ∀ u, ¬ goes C w (ctI C i) p → SE_avoidingStep_3 g h s e a i (p + 1) u K := fun u hg => ih (by omega) (fun q q0 q1 => by
        by_cases eq : q = p
        · rw [eq]; exact hg
        · exact hz q q0 (by omega)) u
      rw [L.2.2.1.2.2 i i0 i1, mwi (z := p + 1) (by omega) (by omega)]
      refine EV_canFollow_spec hG he E ci p0 hp (fun cf => ⟨fun z => absurd z (by decide), fun _ => ?_⟩) (fun cf => ⟨fun _ => skip _ (fun z => cf z.1), fun z => absurd rfl z⟩)
      obtain ⟨c1, c2⟩ := ctI_inc W i0 i1 p0 (by omega) cf.1
      have sp := st_pos W p
      have hk2 := (Cons_inc W ci hk p0 hp cf.1).mpr cf
      rw [L.2.2.1.2.1 p p0 hp, mwi (z := i + st C p) (by omega) (by omega), A _ (by omega) c2 (by rw [c1]; exact hk2) (by rw [c1, lev_inc p0 (by omega)]; omega), c1]
      refine ⟨⟨p0, by omega⟩, ⟨by omega, by omega⟩, fun z => skip _ (fun y => ?_), fun z => ?_⟩
      · rw [pick_t y.2] at z; omega
      · have hg : goes C w (ctI C i) p := ⟨cf, by
          by_cases y : av C w (inc (ctI C i) p)
          · exact y
          · rw [pick_f y] at z; exact absurd rfl z⟩
        have : gst C w (ctI C i) = p := fst_at p0 hp hg hz
        rw [← this]; exact k
  exact key 0 W.1 (Int.le_refl _) (fun q q0 q1 => by omega) _
theorem SE_findPath_spec (hG : Gok sw g) (hs : SeId s) (ha : LtId a) (he : EvId e) (E : EvOk e h C) (L : LtOk a h C) {K : (Nat → Int → Int) → Prop}
    (A : ∀ j, 0 ≤ j → j < NP C → Cons C (ctI C j) → h (s + 2) j = pick (av C w (ctI C j)) 1 0)
    (k : ∀ h', (∀ b, ¬ b = s → ¬ b = s + 1 → h' b = h b) → (∀ i, ¬ i = 1 → h' s i = h s i) → h' s 1 = pick (av C w (fun _ => 0)) (cT C) 0 → (av C w (fun _ => 0) → ∀ k, 0 ≤ k → k < cT C → h' (s + 1) k = gst C w (pthC C w k)) → K h') : SE_findPath g h s e a K := by
  have W := E.2.2.1.1
  have hN := W.2.1
  have nle := NP_le W
  have hT := cT_r W
  have dj := se_lt hs ha he
  refine SE_findPath_wp hG hs he ha ?_
  rintro h1 rfl
  rw [upd_ob (b := s + 2) (a := s) (by omega), A 0 (by omega) (by omega) (by rw [ctI_0 W]; exact Cons_0 (fun _ => rfl)), ctI_0 W]
  refine ⟨fun z => ?_, fun z => ?_⟩
  · have ha0 : av C w (fun _ => 0) := by
      by_cases y : av C w (fun _ => 0)
      · exact y
      · rw [pick_f y] at z; exact absurd rfl z
    rw [pick_t ha0] at k
    have key : ∀ m, m ≤ cT C → 0 ≤ m → ∀ h', (∀ b, ¬ b = s → ¬ b = s + 1 → h' b = h b) → (∀ i, ¬ i = 1 → h' s i = h s i) → h' s 1 = m → (∀ k, 0 ≤ k → k < m → h' (s + 1) k = gst C w (pthC C w k)) → ∀ u, SE_findPath_20 g h' s e a (ixc C (pthC C w m)) m u K := by
      refine up_ind ?_ ?_
      · intro _ h' F F2 I1 I2 u
        exact SE_findPath_20_wp hG hs he ha ⟨fun _ => k h' F F2 I1 (fun _ => I2), fun z => absurd z (by rw [F e (by omega) (by omega), E.1.2.1]; omega)⟩
      · intro m hm ih m0 h' F F2 I1 I2 u
        obtain ⟨i1, i2, i3, i4⟩ := pthC_ok W ha0 m m0 (by omega)
        obtain ⟨g1, g2, g3, g4⟩ := gst_ok W (by omega) i4
        have xr := ixc_r i1
        have E' := E.keep (h' := h') (fun b hb => F b (by omega) (by omega))
        have L' := L.keep (h' := h') (fun b b0 b1 => F b (by omega) (by omega))
        have ct := ctI_ixc W i1
        refine SE_findPath_20_wp hG hs he ha ⟨fun z => absurd z (by rw [F e (by omega) (by omega), E.1.2.1]; omega), fun _ => ?_⟩
        refine SE_avoidingStep_spec (w := w) hG hs ha he E' L' xr.1 xr.2 (by rw [ct]; exact i2) (fun j j0 j1 j2 _ => by rw [F (s + 2) (by omega) (by omega)]; exact A j j0 j1 j2) ?_
        rw [ct]
        refine ⟨fun _ => ⟨⟨m0, by omega⟩, ?_⟩, fun z => by omega⟩
        rintro h3 rfl
        rintro h4 rfl
        have ii := ixc_inc (C := C) (c := pthC C w m) g1 (show gst C w (pthC C w m) < 4 by omega)
        have xr2 := ixc_r (i1.inc g3.1)
        rw [upd_ob (b := s) (a := s + 1) (by omega), I1, mwi (z := m + 1) (by omega) (by omega), upd_ob (b := a + 2) (a := s) (by omega), upd_ob (b := a + 2) (a := s + 1) (by omega), F (a + 2) (by omega) (by omega), L.2.2.1.2.1 _ g1 g2]
        refine ⟨⟨g1, by omega⟩, ?_⟩
        rw [mwi (z := ixc C (pthC C w m) + st C (gst C w (pthC C w m))) (by omega) (by omega)]
        rintro v5 rfl
        rw [← ii, ← pthC_s m0]
        refine ih (by omega) _ (fun b n1 n2 => ?_) (fun i hi => ?_) ?_ (fun q q0 q1 => ?_) _
        · rw [upd_ob n1, upd_ob n2]; exact F b n1 n2
        · rw [upd_ix hi, upd_ob (by omega)]; exact F2 i hi
        · rw [upd_at]
        · rw [upd_ob (by omega)]
          by_cases eq : q = m
          · rw [eq, upd_at]
          · rw [upd_ix eq]; exact I2 q q0 (by omega)
    have e0 : ixc C (pthC C w 0) = 0 := by
      show ixc C (fun _ => 0) = 0
      unfold ixc; simp
    have := key 0 hT.1 (Int.le_refl _) (mvUpd h s 1 0) (fun b n1 n2 => upd_ob n1) (fun i hi => upd_ix hi) upd_at (fun q q0 q1 => by omega) none
    rw [e0] at this
    exact this
  · have ha0 : ¬ av C w (fun _ => 0) := fun y => by rw [pick_t y] at z; omega
    rw [pick_f ha0] at k
    exact k _ (fun b n1 n2 => upd_ob n1) (fun i hi => upd_ix hi) upd_at (fun y => absurd y ha0)
theorem SE_property_spec (hG : Gok sw g) (hs : SeId s) (W : Wf C) (S : SeOk s h C w) {x : Int} {K : Int → (Nat → Int → Int) → Prop} (k : K (seaP C w x) h) : SE_property g h s x K := by
  have nle := NP_le W
  have S0 := S.2.2.2.1 0 (by omega) (by omega) (by rw [ctI_0 W]; exact Cons_0 (fun _ => rfl))
  rw [ctI_0 W] at S0
  unfold seaP at k
  refine SE_property_wp hG hs ⟨fun z => ?_, fun z => ?_, fun z => ?_, fun z => ?_⟩
  · rw [if_neg (by omega), if_neg (by omega), if_neg (by omega)] at k
    rw [S0]
    by_cases y : av C w (fun _ => 0)
    · rw [pick_t y] at k ⊢
      exact ⟨fun u => by omega, fun _ => k⟩
    · rw [pick_f y] at k ⊢
      exact ⟨fun _ => k, fun u => absurd rfl u⟩
  · rw [if_pos z] at k
    rw [S.2.1]
    refine ⟨fun u => ?_, fun u => ?_⟩
    · rw [if_neg (by omega)] at k; exact k
    · rw [if_pos u] at k; exact k
  · rw [if_neg (by omega), if_pos z] at k
    rw [S.2.1]; exact k
  · rw [if_neg (by omega), if_neg (by omega), if_pos z] at k
    rw [S.2.2.1]; exact k
end SE
