/-! levelOf, the predicate -/
def bit (m v : Int) : Prop := ¬ mvAnd (mvShr m v) 1 = 0
/-- where the predicate holds: kind, number, allowed values -/
def sumV (C : Cmp) (c : Int → Int) (p : Int) : Int := it (fun i s => s + vl C i (c i)) 0 p
theorem sumV_s {C : Cmp} {c : Int → Int} {p : Int} (h : 0 ≤ p) : sumV C c (p + 1) = sumV C c p + vl C p (c p) := by unfold sumV; rw [it_s h]
def minV (C : Cmp) (c : Int → Int) (p : Int) : Int := it (fun i s => min s (vl C i (c i))) 9 p
def maxV (C : Cmp) (c : Int → Int) (p : Int) : Int := it (fun i s => max s (vl C i (c i))) 0 p
theorem minV_s {C : Cmp} {c : Int → Int} {p : Int} (h : 0 ≤ p) : minV C c (p + 1) = min (minV C c p) (vl C p (c p)) := by unfold minV; rw [it_s h]
theorem maxV_s {C : Cmp} {c : Int → Int} {p : Int} (h : 0 ≤ p) : maxV C c (p + 1) = max (maxV C c p) (vl C p (c p)) := by unfold maxV; rw [it_s h]
/-- the wish: kind, number, allowed values -/
abbrev Wsh : Type := Int × Int × (Int → Int)
def Hold (C : Cmp) (w : Wsh) (c : Int → Int) : Prop := if w.1 = 0 then ∀ p, 0 ≤ p → p < cN C → bit (w.2.2 p) (vl C p (c p)) else if w.1 = 1 then sumV C c (cN C) = w.2.1 else if w.1 = 2 then uw C c (cN C) = 0 else w.2.1 ≤ maxV C c (cN C) - minV C c (cN C)
def PrOk (h : Nat → Int → Int) (w : Wsh) : Prop := h 31 0 = w.1 ∧ h 31 1 = w.2.1 ∧ (∀ p, 0 ≤ p → p < 4 → h 32 p = w.2.2 p) ∧ 0 ≤ w.1 ∧ w.1 ≤ 3 ∧ 0 ≤ w.2.1 ∧ w.2.1 ≤ 36
theorem vl_cut {C : Cmp} (W : Wf C) {c : Int → Int} (hi : In C c) {p : Int} (p0 : 0 ≤ p) (p1 : p < cN C) : 0 ≤ vl C p (c p) ∧ vl C p (c p) ≤ 9 := vl_range W p0 p1 (hi p).1 (hi p).2
section PR
variable {sw : Bool} {g : Nat → Nat → Nat} {h : Nat → Int → Int} {e : Nat} {C : Cmp} {c : Int → Int} {w : Wsh}
theorem RC_levelOf_spec (hG : Gok sw g) (W : Wf C) (hn : 1 ≤ cN C) {K : Int → (Nat → Int → Int) → Prop} (hi : In C c) (k : K (lev c) h) : RC_levelOf g h (en (cN C) c) K := by
  have hN := W.2.1
  have hd := hi.dg W (n := 4)
  have d0 := hd 0 (by omega) (by omega); have d1 := hd 1 (by omega) (by omega); have d2 := hd 2 (by omega) (by omega); have d3 := hd 3 (by omega) (by omega)
  have z : ∀ p, ¬ (0 ≤ p ∧ p < cN C) → c p = 0 := fun p hp => by have := hi p; rw [W.2.2.2.1 p hp] at this; omega
  have l := en_lt ⟨hn, hN⟩ (hi.dg W)
  have t := ten_le (cN C)
  refine RC_levelOf_wp hG ?_
  generalize hx : en (cN C) c = x at l ⊢
  have x0 := l.1
  have x1 : x < 10000 := by omega
  rw [tdivn x0, tdivn x0, tdivn x0, tmodn x0, mwi (z := x / 1000) (by omega) (by omega), mwi (z := x / 100) (by omega) (by omega), mwi (z := x / 10) (by omega) (by omega), tmodn (by omega), tmodn (by omega)]
  rw [mwi (z := x / 1000 + x / 100 % 10) (by omega) (by omega), mwi (z := x / 1000 + x / 100 % 10 + x / 10 % 10) (by omega) (by omega), mwi (by omega) (by omega)]
  have e : x / 1000 + x / 100 % 10 + x / 10 % 10 + x % 10 = lev c := by
    unfold lev
    unfold en at hx
    rcases (show cN C = 1 ∨ cN C = 2 ∨ cN C = 3 ∨ cN C = 4 by omega) with hc | hc | hc | hc
    · have z1 := z 1 (by omega); have z2 := z 2 (by omega); have z3 := z 3 (by omega)
      rw [if_pos hc] at hx; omega
    · have z2 := z 2 (by omega); have z3 := z 3 (by omega)
      rw [if_neg (by omega), if_pos hc] at hx; omega
    · have z3 := z 3 (by omega)
      rw [if_neg (by omega), if_neg (by omega), if_pos hc] at hx; omega
    · rw [if_neg (by omega), if_neg (by omega), if_neg (by omega), if_pos hc] at hx; omega
  rw [e]
  exact k
theorem PR_allowsAll_spec (hG : Gok sw g) (he : EvId e) (E : EvOk e h C) (P : PrOk h w) {K : Int → (Nat → Int → Int) → Prop} (hi : In C c) (kt : (∀ p, 0 ≤ p → p < cN C → bit (w.2.2 p) (vl C p (c p))) → K 1 h) (kf : (¬ ∀ p, 0 ≤ p → p < cN C → bit (w.2.2 p) (vl C p (c p))) → K 0 h) : PR_allowsAll g h e (en (cN C) c) K := by
  have W := E.2.2.1.1
  have hN := W.2.1
  refine PR_allowsAll_wp hG he ?_
  have key : ∀ p : Int, p ≤ cN C → 0 ≤ p → (∀ q, 0 ≤ q → q < p → bit (w.2.2 q) (vl C q (c q))) → PR_allowsAll_2 g h e (en (cN C) c) p K := by
    refine up_ind ?_ ?_
    · intro _ hz
      exact PR_allowsAll_2_wp hG he ⟨fun _ => kt hz, fun z => absurd z (by rw [E.1.1]; omega)⟩
    · intro p hp ih p0 hz
      refine PR_allowsAll_2_wp hG he ⟨fun z => absurd z (by rw [E.1.1]; omega), fun _ => EV_valueIn_spec hG he E hi p0 hp ⟨⟨p0, by omega⟩, ?_⟩⟩
      rw [P.2.2.1 p p0 (by omega), mwi (z := p + 1) (by omega) (by omega)]
      refine ⟨fun z => kf (fun y => y p p0 hp z), fun z => ih (by omega) (fun q q0 q1 => ?_)⟩
      by_cases eq : q = p
      · rw [eq]; exact z
      · exact hz q q0 (by omega)
  exact key 0 W.1 (Int.le_refl _) (fun q q0 q1 => by omega)
theorem PR_sumIn_spec (hG : Gok sw g) (he : EvId e) (E : EvOk e h C) {K : Int → (Nat → Int → Int) → Prop} (hi : In C c) (k : K (sumV C c (cN C)) h) : PR_sumIn g h e (en (cN C) c) K := by
  have W := E.2.2.1.1
  have hN := W.2.1
  refine PR_sumIn_wp hG he ?_
  have key : ∀ p : Int, p ≤ cN C → 0 ≤ p → 0 ≤ sumV C c p ∧ sumV C c p ≤ 9 * p → PR_sumIn_4 g h e (en (cN C) c) (sumV C c p) p K := by
    refine up_ind ?_ ?_
    · intro _ _
      exact PR_sumIn_4_wp hG he ⟨fun _ => k, fun z => absurd z (by rw [E.1.1]; omega)⟩
    · intro p hp ih p0 hr
      have hv := vl_cut W hi p0 hp
      refine PR_sumIn_4_wp hG he ⟨fun z => absurd z (by rw [E.1.1]; omega), fun _ => EV_valueIn_spec hG he E hi p0 hp ?_⟩
      rintro v rfl
      have ih := ih (by omega)
      rw [sumV_s p0] at ih
      rw [mwi (z := sumV C c p + vl C p (c p)) (by omega) (by omega), mwi (z := p + 1) (by omega) (by omega)]
      exact ih (by omega)
  exact key 0 W.1 (Int.le_refl _) (by show (0 : Int) ≤ 0 ∧ (0 : Int) ≤ 9 * 0; omega)
theorem PR_spreadIn_spec (hG : Gok sw g) (he : EvId e) (E : EvOk e h C) {K : Int → (Nat → Int → Int) → Prop} (hi : In C c) (k : K (maxV C c (cN C) - minV C c (cN C)) h) : PR_spreadIn g h e (en (cN C) c) K := by
  have W := E.2.2.1.1
  have hN := W.2.1
  refine PR_spreadIn_wp hG he ?_
  have key : ∀ p : Int, p ≤ cN C → ∀ u, 0 ≤ p → (0 ≤ minV C c p ∧ minV C c p ≤ 9) ∧ (0 ≤ maxV C c p ∧ maxV C c p ≤ 9) → PR_spreadIn_8 g h e (en (cN C) c) (minV C c p) (maxV C c p) p u K := by
    refine up_ind ?_ ?_
    · intro u _ hr
      refine PR_spreadIn_8_wp hG he ⟨fun _ => ?_, fun z => absurd z (by rw [E.1.1]; omega)⟩
      rw [mwi (by omega) (by omega)]; exact k
    · intro p hp ih u p0 hr
      have hv := vl_cut W hi p0 hp
      refine PR_spreadIn_8_wp hG he ⟨fun z => absurd z (by rw [E.1.1]; omega), fun _ => EV_valueIn_spec hG he E hi p0 hp ?_⟩
      rintro v3 rfl
      rintro v4 rfl
      have ih := fun u => ih u (by omega)
      rw [minV_s p0, maxV_s p0] at ih
      have e1 : (if vl C p (c p) < minV C c p then vl C p (c p) else minV C c p) = min (minV C c p) (vl C p (c p)) := by omega
      have e2 : (if maxV C c p < vl C p (c p) then vl C p (c p) else maxV C c p) = max (maxV C c p) (vl C p (c p)) := by omega
      rw [e1, e2, mwi (z := p + 1) (by omega) (by omega)]
      exact ih _ (by omega)
  exact key 0 W.1 none (Int.le_refl _) (by show ((0 : Int) ≤ 9 ∧ (9 : Int) ≤ 9) ∧ ((0 : Int) ≤ 0 ∧ (0 : Int) ≤ 9); omega)
theorem PR_holdsIn_spec (hG : Gok sw g) (he : EvId e) (E : EvOk e h C) (P : PrOk h w) {K : Int → (Nat → Int → Int) → Prop} (hi : In C c) (kt : Hold C w c → K 1 h) (kf : ¬ Hold C w c → K 0 h) : PR_holdsIn g h e (en (cN C) c) K := by
  obtain ⟨P1, P2, P3, P4, P5, P6, P7⟩ := id P
  unfold Hold at kt kf
  refine PR_holdsIn_wp hG he ?_
  rw [P1]
  refine ⟨fun z => ?_, fun z => ?_, fun z => ?_, fun z => ?_⟩
  · rw [if_neg (by omega), if_neg (by omega), if_neg (by omega)] at kt kf
    refine PR_spreadIn_spec hG he E hi ?_
    rw [P2]
    exact ⟨fun y => kf (by omega), fun y => kt y⟩
  · rw [if_pos z] at kt kf
    exact PR_allowsAll_spec hG he E P hi (fun y => ⟨Or.inr rfl, kt y⟩) (fun y => ⟨Or.inl rfl, kf y⟩)
  · rw [if_neg (by omega), if_pos z] at kt kf
    refine PR_sumIn_spec hG he E hi ?_
    rw [P2]
    exact ⟨fun y => kf y, fun y => kt y⟩
  · rw [if_neg (by omega), if_neg (by omega), if_pos z] at kt kf
    refine EV_underWay_spec hG he E hi ?_
    exact ⟨fun y => kf y, fun y => kt y⟩
end PR
