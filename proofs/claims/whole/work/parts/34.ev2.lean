/-! Events.link: partners, vectors, values -/
noncomputable def pick {α : Type} (P : Prop) (a b : α) : α := @ite α P (Classical.propDecidable P) a b
theorem pick_t {α : Type} {P : Prop} {a b : α} (h : P) : pick P a b = a := by unfold pick; exact if_pos h
theorem pick_f {α : Type} {P : Prop} {a b : α} (h : ¬ P) : pick P a b = b := by unfold pick; exact if_neg h
/-- a set of processes as bits -/
noncomputable def bits (B : Int → Prop) (n : Int) : Int := it (fun p s => pick (B p) (mvOr s (mvShl 1 p)) s) 0 n
theorem bits_s {B : Int → Prop} {n : Int} (h : 0 ≤ n) : bits B (n + 1) = pick (B n) (mvOr (bits B n) (mvShl 1 n)) (bits B n) := by unfold bits; rw [it_s h]
theorem bits_mem {B : Int → Prop} {n q : Int} (hn : 1 ≤ n ∧ n ≤ 4) (q0 : 0 ≤ q) (q1 : q < 4) : ¬ mvAnd (mvShr (bits B n) q) 1 = 0 ↔ q < n ∧ B q := by
  have b1 : bits B 1 = pick (B 0) (mvOr 0 (mvShl 1 0)) 0 := bits_s (Int.le_refl 0)
  have b2 : bits B 2 = pick (B 1) (mvOr (bits B 1) (mvShl 1 1)) (bits B 1) := bits_s (n := 1) (by omega)
  have b3 : bits B 3 = pick (B 2) (mvOr (bits B 2) (mvShl 1 2)) (bits B 2) := bits_s (n := 2) (by omega)
  have b4 : bits B 4 = pick (B 3) (mvOr (bits B 3) (mvShl 1 3)) (bits B 3) := bits_s (n := 3) (by omega)
  rcases Classical.em (B 0) with h0 | h0 <;> rcases Classical.em (B 1) with h1 | h1 <;> rcases Classical.em (B 2) with h2 | h2 <;> rcases Classical.em (B 3) with h3 | h3 <;>
    ((first | rw [pick_t h0] at b1 | rw [pick_f h0] at b1)
     (first | rw [pick_t h1, b1] at b2 | rw [pick_f h1, b1] at b2)
     (first | rw [pick_t h2, b2] at b3 | rw [pick_f h2, b2] at b3)
     (first | rw [pick_t h3, b3] at b4 | rw [pick_f h3, b3] at b4)
     rcases (show n = 1 ∨ n = 2 ∨ n = 3 ∨ n = 4 by omega) with rfl | rfl | rfl | rfl <;> rcases (show q = 0 ∨ q = 1 ∨ q = 2 ∨ q = 3 by omega) with rfl | rfl | rfl | rfl <;>
       (simp only [b1, b2, b3, b4, h0, h1, h2, h3, and_true, and_false]; decide +kernel))
noncomputable def fol (C : Cmp) (c : Int → Int) : Int := bits (fun p => canF C c p) (cN C)
/-- all receives have partners -/
def Paired (C : Cmp) : Prop := ∀ p k, 0 ≤ p → p < cN C → 0 ≤ k → k < cS C p → cK C p k = 2 → isNth C (cD C p k) 1 p (cOf C p 2 (cD C p k) k) (cPt C p k)
def EvP (e : Nat) (h : Nat → Int → Int) (C : Cmp) : Prop := ∀ p k, 0 ≤ p → p < cN C → 0 ≤ k → k < cS C p → h (e + 4) (9 * p + k) = cPt C p k
theorem EvR.keep {e : Nat} {h h' : Nat → Int → Int} {C : Cmp} (E : EvR e h C) (h0 : h' e = h e) (h1 : h' (e + 1) = h (e + 1)) (h2 : h' (e + 2) = h (e + 2)) (h3 : h' (e + 3) = h (e + 3)) : EvR e h' C := by
  unfold EvR
  rw [h0, h1, h2, h3]; exact E
theorem Tens.keep {h h' : Nat → Int → Int} (T : Tens h) (h1 : h' 1 = h 1) : Tens h' := by unfold Tens; rw [h1]; exact T
section EV
variable {sw : Bool} {g : Nat → Nat → Nat} {h : Nat → Int → Int} {e : Nat} {C : Cmp} {c : Int → Int}
theorem EV_canFollow_spec2 (hG : Gok sw g) (he : EvId e) (R : EvR e h C) (W : Wf C) (Lp : EvP e h C) (P : Paired C) (hn : 1 ≤ cN C) (ht : Tens h) {p : Int} {K : Int → (Nat → Int → Int) → Prop} (hi : In C c) (p0 : 0 ≤ p) (p1 : p < cN C) (kt : canF C c p → K 1 h) (kf : ¬ canF C c p → K 0 h) : EV_canFollow g h e (en (cN C) c) p K := by
  have hN := W.2.1
  have hsz := W.sz p
  have hcp := hi p
  refine EV_canFollow_wp hG he (EV_count hG he R W hn ht hi p0 p1 ?_)
  rw [R.2.2.1 p p0 (by omega)]
  refine ⟨⟨p0, by omega⟩, fun hlt => ?_, fun hge => kf (fun z => by have := z.1; omega)⟩
  rintro v rfl
  rw [row9 p0 (by omega) hcp.1 (by omega)]
  obtain ⟨r1, r2⟩ := R.2.2.2 p (c p) p0 p1 hcp.1 hlt
  rw [r1, r2, Lp p (c p) p0 p1 hcp.1 hlt]
  refine ⟨⟨by omega, by omega⟩, fun hk => kt ⟨hlt, fun z => absurd z hk⟩, fun hk => ⟨⟨by omega, by omega⟩, ⟨by omega, by omega⟩, ?_⟩⟩
  rcases W.2.2.2.2.2 p (c p) p0 p1 hcp.1 hlt with ⟨z, -⟩ | ⟨-, b1, b2, b3⟩
  · omega
  · have hl := isNth_lt (P p (c p) p0 p1 hcp.1 hlt hk) (hi (cD C p (c p))).1
    refine EV_count hG he R W hn ht hi b1 b2 ⟨fun hle => kf (fun z => ?_), fun hlt' => kt ⟨hlt, fun _ => hl.mp hlt'⟩⟩
    have := hl.mpr (z.2 hk)
    omega
theorem EV_followers_spec (hG : Gok sw g) (he : EvId e) (R : EvR e h C) (W : Wf C) (Lp : EvP e h C) (P : Paired C) (hn : 1 ≤ cN C) (ht : Tens h) {K : Int → (Nat → Int → Int) → Prop} (hi : In C c) (k : K (fol C c) h) : EV_followers g h e (en (cN C) c) K := by
  have hN := W.2.1
  refine EV_followers_wp hG he ?_
  have key : ∀ p : Int, p ≤ cN C → 0 ≤ p → EV_followers_4 g h e (en (cN C) c) (bits (fun p => canF C c p) p) p K := by
    refine up_ind ?_ ?_
    · intro _
      exact EV_followers_4_wp hG he ⟨fun _ => k, fun z => absurd z (by rw [R.1]; omega)⟩
    · intro p hp ih h0
      refine EV_followers_4_wp hG he ⟨fun z => absurd z (by rw [R.1]; omega), fun _ => ?_⟩
      have e1 : mw (p + 1) = p + 1 := mwi (by omega) (by omega)
      have ih := ih (by omega)
      rw [bits_s h0] at ih
      refine EV_canFollow_spec2 hG he R W Lp P hn ht hi h0 hp (fun hc => ⟨fun z => absurd z (by decide), fun _ => ?_⟩) (fun hc => ⟨fun _ => ?_, fun z => absurd rfl z⟩)
      · rintro v rfl
        rw [e1]
        rw [pick_t hc] at ih
        exact ih
      · rw [e1]
        rw [pick_f hc] at ih
        exact ih
  exact key 0 (by omega) (Int.le_refl _)
/-- what findVector lays for the process q -/
def fvV (h : Nat → Int → Int) (e : Nat) (p k q : Int) : Int := if q = p then k + 1 else if h (e + 2) (9 * p + k) = 2 then max (if k = 0 then 0 else h (e + 5) (4 * (9 * p + (k - 1)) + q)) (h (e + 5) (4 * (9 * h (e + 3) (9 * p + k) + h (e + 4) (9 * p + k)) + q)) else (if k = 0 then 0 else h (e + 5) (4 * (9 * p + (k - 1)) + q))
theorem mmax {a b : Int} : (if a < b then b else a) = max a b := by omega
theorem EV_findVector_spec (hG : Gok sw g) (he : EvId e) {p k : Int} {K : (Nat → Int → Int) → Prop} (p0 : 0 ≤ p) (p1 : p < 4) (k0 : 0 ≤ k) (k1 : k < 9)
    (hs : h (e + 2) (9 * p + k) = 2 → 0 ≤ h (e + 3) (9 * p + k) ∧ h (e + 3) (9 * p + k) < 4 ∧ ¬ h (e + 3) (9 * p + k) = p ∧ 0 ≤ h (e + 4) (9 * p + k) ∧ h (e + 4) (9 * p + k) < 9)
    (kk : K (fun a i => if a = e + 5 ∧ 4 * (9 * p + k) ≤ i ∧ i < 4 * (9 * p + k) + 4 then fvV h e p k (i - 4 * (9 * p + k)) else h a i)) : EV_findVector g h e p k K := by
  refine EV_findVector_wp hG he ?_
  rintro v rfl
  rw [row9 p0 p1 k0 (by omega)]
  have key : ∀ q : Int, q ≤ 4 → ∀ h2 u5 u6, 0 ≤ q → (h2 = fun a i => if a = e + 5 ∧ 4 * (9 * p + k) ≤ i ∧ i < 4 * (9 * p + k) + q then fvV h e p k (i - 4 * (9 * p + k)) else h a i) → EV_findVector_10 g h2 e p k (9 * p + k) q u5 u6 K := by
    refine up_ind ?_ ?_
    · intro h2 u5 u6 _ e2
      refine EV_findVector_10_wp hG he ⟨fun _ => by rw [e2]; exact kk, fun c => absurd c (by omega)⟩
    · intro q hq ih h2 u5 u6 h0 e2
      have o2 : ∀ a, ¬ a = e + 5 → h2 a = h a := fun a ha => by rw [e2]; funext i; exact if_neg (fun z => ha z.1)
      have o5 : ∀ i, ¬ (4 * (9 * p + k) ≤ i ∧ i < 4 * (9 * p + k) + 4) → h2 (e + 5) i = h (e + 5) i := fun i hi => by rw [e2]; show (if _ then _ else _) = _; rw [if_neg (fun z => hi (by omega))]
      have ew : mw (mw ((9 * p + k) * 4) + q) = 4 * (9 * p + k) + q := row4 (by omega) (by omega) h0 (by omega)
      have eq1 : mw (q + 1) = q + 1 := mwi (by omega) (by omega)
      have fin : ∀ (v : Int) u5 u6, v = fvV h e p k q → ∀ h1, h1 = mvUpd h2 (e + 5) (4 * (9 * p + k) + q) v → EV_findVector_10 g h1 e p k (9 * p + k) (q + 1) u5 u6 K := by
        intro v u5 u6 hv h1 e1
        refine ih h1 u5 u6 (by omega) ?_
        rw [e1, e2, hv]
        funext a i
        rw [upd_if]
        by_cases ha : a = e + 5
        · by_cases hj : i = 4 * (9 * p + k) + q
          · rw [if_pos ⟨ha, hj⟩, if_pos ⟨ha, by omega, by omega⟩, hj]
            congr 1; omega
          · rw [if_neg (fun z => hj z.2)]
            by_cases hl : 4 * (9 * p + k) ≤ i ∧ i < 4 * (9 * p + k) + q
            · rw [if_pos ⟨ha, hl⟩, if_pos ⟨ha, by omega, by omega⟩]
            · rw [if_neg (fun z => hl z.2), if_neg (fun z => hl (by omega))]
        · rw [if_neg (fun z => ha z.1), if_neg (fun z => ha z.1), if_neg (fun z => ha z.1)]
      refine EV_findVector_10_wp hG he ⟨fun c => absurd c (by omega), fun _ => ⟨fun hk0 => ?_, fun hk0 => ?_⟩⟩
      · have ek : k = 0 := by omega
        rw [o2 (e + 2) (by omega), o2 (e + 3) (by omega), o2 (e + 4) (by omega), ew, eq1]
        refine ⟨⟨by omega, by omega⟩, fun hk => ⟨fun hqp => ⟨⟨by omega, by omega⟩, ?_⟩, fun hqp => ⟨⟨by omega, by omega⟩, ?_⟩⟩, fun hk => ⟨⟨by omega, by omega⟩, ⟨by omega, by omega⟩, ?_⟩⟩
        · exact fin 0 _ _ (by unfold fvV; rw [if_neg hqp, if_neg hk, if_pos ek])
        · exact fin _ _ _ (by rw [mwi (by omega) (by omega)]; unfold fvV; rw [if_pos hqp])
        · obtain ⟨d0, d1, d2, s0, s1⟩ := hs hk
          rintro v3 rfl
          rw [row9 d0 d1 s0 (by omega), row4 (by omega) (by omega) h0 (by omega), o5 _ (by omega)]
          refine ⟨⟨by omega, by omega⟩, ?_⟩
          rintro v4 rfl
          refine ⟨fun hqp => ⟨⟨by omega, by omega⟩, fin _ _ _ ?_⟩, fun hqp => ⟨⟨by omega, by omega⟩, fin _ _ _ ?_⟩⟩
          · unfold fvV
            rw [if_neg hqp, if_pos hk, if_pos ek]; exact mmax
          · rw [mwi (by omega) (by omega)]; unfold fvV; rw [if_pos hqp]
      · have ek : ¬ k = 0 := by omega
        have er : mw (mw (mw (9 * p + k - 1) * 4) + q) = 4 * (9 * p + (k - 1)) + q := by
          rw [mwi (z := 9 * p + k - 1) (by omega) (by omega), row4 (by omega) (by omega) h0 (by omega)]; omega
        rw [o2 (e + 2) (by omega), o2 (e + 3) (by omega), o2 (e + 4) (by omega), ew, eq1, er, o5 _ (by omega)]
        refine ⟨⟨by omega, by omega⟩, ?_⟩
        rintro v7 rfl
        refine ⟨⟨by omega, by omega⟩, fun hk => ⟨fun hqp => ⟨⟨by omega, by omega⟩, ?_⟩, fun hqp => ⟨⟨by omega, by omega⟩, ?_⟩⟩, fun hk => ⟨⟨by omega, by omega⟩, ⟨by omega, by omega⟩, ?_⟩⟩
        · exact fin _ _ _ (by unfold fvV; rw [if_neg hqp, if_neg hk, if_neg ek])
        · exact fin _ _ _ (by rw [mwi (by omega) (by omega)]; unfold fvV; rw [if_pos hqp])
        · obtain ⟨d0, d1, d2, s0, s1⟩ := hs hk
          rintro v3 rfl
          rw [row9 d0 d1 s0 (by omega), row4 (by omega) (by omega) h0 (by omega), o5 _ (by omega)]
          refine ⟨⟨by omega, by omega⟩, ?_⟩
          rintro v4 rfl
          refine ⟨fun hqp => ⟨⟨by omega, by omega⟩, fin _ _ _ ?_⟩, fun hqp => ⟨⟨by omega, by omega⟩, fin _ _ _ ?_⟩⟩
          · unfold fvV
            rw [if_neg hqp, if_pos hk, if_neg ek]; exact mmax
          · rw [mwi (by omega) (by omega)]; unfold fvV; rw [if_pos hqp]
  exact key 0 (by omega) h none none (Int.le_refl _) (by
    funext a i
    rw [if_neg (fun z => by omega)])
end EV
