/-! the methods of Events that only look -/
section EV
variable {sw : Bool} {g : Nat → Nat → Nat} {h : Nat → Int → Int} {e : Nat} {C : Cmp} {c : Int → Int}
theorem tdivn {a b : Int} (h : 0 ≤ a) : a.tdiv b = a / b := Int.tdiv_eq_ediv_of_nonneg h
theorem tmodn {a b : Int} (h : 0 ≤ a) : a.tmod b = a % b := Int.tmod_eq_emod_of_nonneg h
theorem ten_div {x j : Int} (h0 : 0 ≤ x) (h1 : x < 2147483648) : 0 ≤ x / ten j ∧ x / ten j < 2147483648 := by
  have := ten_le j
  exact ⟨Int.ediv_nonneg h0 (by omega), Int.lt_of_le_of_lt (Int.ediv_le_self _ h0) h1⟩
theorem ten_ne (j : Int) : ¬ ten j = 0 := by have := ten_le j; omega
theorem EV_countIn_spec (hG : Gok sw g) (he : EvId e) (hn : 1 ≤ h e 0 ∧ h e 0 ≤ 4) (ht : Tens h) {x p : Int} {K : Int → (Nat → Int → Int) → Prop} (x0 : 0 ≤ x) (x1 : x < 2147483648) (p0 : 0 ≤ p) (p1 : p < h e 0) (k : K (dg (h e 0) x p) h) : EV_countIn g h e x p K := by
  refine EV_countIn_wp hG he ?_
  have e1 : mw (mw (h e 0 - 1) - p) = h e 0 - 1 - p := by rw [mwi (z := h e 0 - 1) (by omega) (by omega), mwi (by omega) (by omega)]
  rw [e1, ht.at (by omega) (by omega)]
  refine ⟨⟨by omega, by omega⟩, ten_ne _, ?_⟩
  have hd := ten_div (j := h e 0 - 1 - p) x0 x1
  rw [tdivn x0, mwi (by omega) (by omega), tmodn hd.1]
  exact k
theorem EV_with_spec (hG : Gok sw g) (he : EvId e) (hn : 1 ≤ h e 0 ∧ h e 0 ≤ 4) (ht : Tens h) {p : Int} {K : Int → (Nat → Int → Int) → Prop} (hc : Dg (h e 0) c) (p0 : 0 ≤ p) (p1 : p < h e 0) (k : K (en (h e 0) (inc c p)) h) : EV_with g h e (en (h e 0) c) p K := by
  refine EV_with_wp hG he ?_
  have e1 : mw (mw (h e 0 - 1) - p) = h e 0 - 1 - p := by rw [mwi (z := h e 0 - 1) (by omega) (by omega), mwi (by omega) (by omega)]
  have l := en_lt hn hc
  have t1 := ten_le (h e 0)
  have t2 := ten_le (h e 0 - 1 - p)
  rw [e1, ht.at (by omega) (by omega)]
  refine ⟨⟨by omega, by omega⟩, ?_⟩
  rw [mwi (by omega) (by omega), ← en_inc hn p0 p1]
  exact k
/-- .. on a cut -/
theorem EV_count (hG : Gok sw g) (he : EvId e) (E : EvR e h C) (W : Wf C) (hn : 1 ≤ cN C) (ht : Tens h) {p : Int} {K : Int → (Nat → Int → Int) → Prop} (hi : In C c) (p0 : 0 ≤ p) (p1 : p < cN C) (k : K (c p) h) : EV_countIn g h e (en (cN C) c) p K := by
  have eN := E.1
  have hN : 1 ≤ cN C ∧ cN C ≤ 4 := ⟨hn, W.2.1⟩
  have l := en_lt hN (hi.dg W)
  have t := ten_le (cN C)
  refine EV_countIn_spec hG he (by rw [eN]; exact hN) ht l.1 (by omega) p0 (by rw [eN]; exact p1) ?_
  rw [eN, dg_en hN (hi.dg W) p0 p1]
  exact k
theorem EV_firstOf_spec (hG : Gok sw g) {x : Int} {K : Int → (Nat → Int → Int) → Prop} (k0 : ∀ p, 0 ≤ p → p < 4 → (∀ q, 0 ≤ q → q < p → mvAnd (mvShr x q) 1 = 0) → ¬ mvAnd (mvShr x p) 1 = 0 → K p h) (k1 : (∀ q, 0 ≤ q → q < 4 → mvAnd (mvShr x q) 1 = 0) → K (-1) h) : EV_firstOf g h x K := by
  refine EV_firstOf_wp hG ?_
  have key : ∀ p : Int, p ≤ 4 → 0 ≤ p → (∀ q, 0 ≤ q → q < p → mvAnd (mvShr x q) 1 = 0) → EV_firstOf_2 g h x p K := by
    refine up_ind ?_ ?_
    · intro _ hz
      exact EV_firstOf_2_wp hG ⟨fun _ => k1 hz, fun c => absurd c (by omega)⟩
    · intro p hp ih h0 hz
      refine EV_firstOf_2_wp hG ⟨fun c => absurd c (by omega), fun _ => ⟨fun hb => ?_, fun hb => k0 p h0 hp hz hb⟩⟩
      rw [mwi (by omega) (by omega)]
      refine ih (by omega) (fun q q0 q1 => ?_)
      by_cases e : q = p
      · rw [e]; exact hb
      · exact hz q q0 (by omega)
  exact key 0 (by omega) (Int.le_refl _) (fun q q0 q1 => absurd q0 (by omega))
/-- the row of an event -/
theorem row9 {p k : Int} (p0 : 0 ≤ p) (p1 : p < 4) (k0 : 0 ≤ k) (k1 : k ≤ 9) : mw (mw (p * 9) + k) = 9 * p + k := by
  rw [mwi (z := p * 9) (by omega) (by omega), mwi (by omega) (by omega)]; omega
theorem row10 {p k : Int} (p0 : 0 ≤ p) (p1 : p < 4) (k0 : 0 ≤ k) (k1 : k ≤ 9) : mw (mw (p * 10) + k) = 10 * p + k := by
  rw [mwi (z := p * 10) (by omega) (by omega), mwi (by omega) (by omega)]; omega
theorem row4 {r q : Int} (p0 : 0 ≤ r) (p1 : r < 36) (k0 : 0 ≤ q) (k1 : q < 4) : mw (mw (r * 4) + q) = 4 * r + q := by
  rw [mwi (z := r * 4) (by omega) (by omega), mwi (by omega) (by omega)]; omega
theorem EV_hasPastIn_spec (hG : Gok sw g) (he : EvId e) (E : EvOk e h C) {p k : Int} {K : Int → (Nat → Int → Int) → Prop} (hi : In C c) (p0 : 0 ≤ p) (p1 : p < cN C) (k0 : 0 ≤ k) (k1 : k < cS C p)
    (kt : (∀ q, 0 ≤ q → q < cN C → vec C p k q ≤ c q) → K 1 h) (kf : (¬ ∀ q, 0 ≤ q → q < cN C → vec C p k q ≤ c q) → K 0 h) : EV_hasPastIn g h e (en (cN C) c) (9 * p + k) K := by
  obtain ⟨R, Lk, V, iV, hn, ht⟩ := E
  have W := V.1
  have hN := W.2.1
  have hsz := W.sz p
  refine EV_hasPastIn_wp hG he ?_
  have key : ∀ q : Int, q ≤ cN C → 0 ≤ q → (∀ r, 0 ≤ r → r < q → vec C p k r ≤ c r) → EV_hasPastIn_2 g h e (en (cN C) c) (9 * p + k) q K := by
    refine up_ind ?_ ?_
    · intro _ hz
      exact EV_hasPastIn_2_wp hG he ⟨fun _ => kt hz, fun c => absurd c (by rw [R.1]; omega)⟩
    · intro q hq ih h0 hz
      refine EV_hasPastIn_2_wp hG he ⟨fun c => absurd c (by rw [R.1]; omega), fun _ => ?_⟩
      rw [row4 (by omega) (by omega) h0 (by omega)]
      refine ⟨⟨by omega, by omega⟩, EV_count hG he R W hn ht hi h0 hq ?_⟩
      rw [Lk.2.1 p k q p0 p1 k0 k1 h0 hq]
      refine ⟨fun hle => ?_, fun hlt => kf (fun z => ?_)⟩
      · rw [mwi (by omega) (by omega)]
        refine ih (by omega) (fun r r0 r1 => ?_)
        by_cases er : r = q
        · rw [er]; exact hle
        · exact hz r r0 (by omega)
      · have := z q h0 hq; omega
  exact key 0 (by omega) (Int.le_refl _) (fun q q0 q1 => absurd q0 (by omega))
theorem EV_isConsistent_spec (hG : Gok sw g) (he : EvId e) (E : EvOk e h C) {K : Int → (Nat → Int → Int) → Prop} (hi : In C c) (kt : Cons C c → K 1 h) (kf : ¬ Cons C c → K 0 h) : EV_isConsistent g h e (en (cN C) c) K := by
  have E0 := E
  obtain ⟨R, Lk, V, iV, hn, ht⟩ := E
  have W := V.1
  have hN := W.2.1
  refine EV_isConsistent_wp hG he ?_
  have key : ∀ p : Int, p ≤ cN C → ∀ u, 0 ≤ p → (∀ r, 0 ≤ r → r < p → 0 < c r → ∀ q, 0 ≤ q → q < cN C → vec C r (c r - 1) q ≤ c q) → EV_isConsistent_2 g h e (en (cN C) c) p u K := by
    refine up_ind ?_ ?_
    · intro u _ hz
      refine EV_isConsistent_2_wp hG he ⟨fun _ => kt ?_, fun c => absurd c (by rw [R.1]; omega)⟩
      exact (vcons V iV hi).mp (fun p q p0 p1 hc q0 q1 => hz p p0 p1 hc q q0 q1)
    · intro p hp ih u h0 hz
      refine EV_isConsistent_2_wp hG he ⟨fun c => absurd c (by rw [R.1]; omega), fun _ => EV_count hG he R W hn ht hi h0 hp ?_⟩
      have hsz := W.sz p
      have hcp := hi p
      rintro v rfl
      rw [mwi (z := c p - 1) (by omega) (by omega), mwi (z := p + 1) (by omega) (by omega)]
      refine ⟨fun hneg => ih _ (by omega) (fun r r0 r1 hc q q0 q1 => ?_), fun hpos => ?_⟩
      · by_cases er : r = p
        · rw [er] at hc; omega
        · exact hz r r0 (by omega) hc q q0 q1
      · rw [row9 h0 (by omega) hpos (by omega)]
        refine EV_hasPastIn_spec hG he E0 hi h0 hp hpos (by omega) (fun ht' => ?_) (fun hf' => ?_)
        · refine ⟨fun _ => ih _ (by omega) (fun r r0 r1 hc q q0 q1 => ?_), fun c => absurd c (by decide)⟩
          by_cases er : r = p
          · rw [er]; exact ht' q q0 q1
          · exact hz r r0 (by omega) hc q q0 q1
        · refine ⟨fun c => absurd rfl c, fun _ => kf (fun hc => hf' (fun q q0 q1 => ?_))⟩
          exact (vcons V iV hi).mpr hc p q h0 hp (by omega) q0 q1
  exact key 0 (by omega) none (Int.le_refl _) (fun q q0 q1 => absurd q0 (by omega))
theorem EV_canFollow_spec (hG : Gok sw g) (he : EvId e) (E : EvOk e h C) {p : Int} {K : Int → (Nat → Int → Int) → Prop} (hi : In C c) (p0 : 0 ≤ p) (p1 : p < cN C) (kt : canF C c p → K 1 h) (kf : ¬ canF C c p → K 0 h) : EV_canFollow g h e (en (cN C) c) p K := by
  obtain ⟨R, Lk, V, iV, hn, ht⟩ := E
  have W := V.1
  have hN := W.2.1
  have hsz := W.sz p
  have hcp := hi p
  refine EV_canFollow_wp hG he (EV_count hG he R W hn ht hi p0 p1 ?_)
  rw [R.2.2.1 p p0 (by omega)]
  refine ⟨⟨p0, by omega⟩, fun hlt => ?_, fun hge => kf (fun z => by have := z.1; omega)⟩
  rintro v rfl
  rw [row9 p0 (by omega) hcp.1 (by omega)]
  obtain ⟨r1, r2⟩ := R.2.2.2 p (c p) p0 p1 hcp.1 hlt
  rw [r1, r2, Lk.1 p (c p) p0 p1 hcp.1 hlt]
  refine ⟨⟨by omega, by omega⟩, fun hk => kt ⟨hlt, fun z => absurd z hk⟩, fun hk => ⟨⟨by omega, by omega⟩, ⟨by omega, by omega⟩, ?_⟩⟩
  rcases W.2.2.2.2.2 p (c p) p0 p1 hcp.1 hlt with ⟨z, -⟩ | ⟨-, b1, b2, b3⟩
  · omega
  · have hl := isNth_lt (recv_pt V p0 p1 hcp.1 hlt hk) (hi (cD C p (c p))).1
    refine EV_count hG he R W hn ht hi b1 b2 ⟨fun hle => kf (fun z => ?_), fun hlt' => kt ⟨hlt, fun _ => hl.mp hlt'⟩⟩
    have := hl.mpr (z.2 hk)
    omega
end EV
