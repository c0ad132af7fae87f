section EV
variable {sw : Bool} {g : Nat → Nat → Nat} {h : Nat → Int → Int} {e : Nat} {C : Cmp} {c : Int → Int}
/-- the rows of values and surpluses of the process p, its first m places laid -/
def fpH (C : Cmp) (e : Nat) (p m : Int) (h : Nat → Int → Int) : Nat → Int → Int := fun a i => if a = e + 6 ∧ 10 * p ≤ i ∧ i < 10 * p + m then vl C p (i - 10 * p) else if a = e + 7 ∧ 10 * p ≤ i ∧ i < 10 * p + m then sr C p (i - 10 * p) else h a i
theorem fpH_o {e : Nat} {p m : Int} {a : Nat} (h6 : ¬ a = e + 6) (h7 : ¬ a = e + 7) : fpH C e p m h a = h a := by
  funext i
  unfold fpH
  rw [if_neg (fun z => h6 z.1), if_neg (fun z => h7 z.1)]
theorem fpH_s {e : Nat} {p m : Int} (m0 : 0 ≤ m) : mvUpd (mvUpd (fpH C e p m h) (e + 6) (10 * p + m) (vl C p m)) (e + 7) (10 * p + m) (sr C p m) = fpH C e p (m + 1) h := by
  funext a i
  rw [upd_if, upd_if]
  unfold fpH
  by_cases h6 : a = e + 6
  · have h7 : ¬ a = e + 7 := by omega
    rw [if_neg (fun z => h7 z.1)]
    by_cases hi : i = 10 * p + m
    · rw [if_pos ⟨h6, hi⟩, if_pos ⟨h6, by omega, by omega⟩]
      congr 1; omega
    · rw [if_neg (fun z => hi z.2)]
      by_cases hl : 10 * p ≤ i ∧ i < 10 * p + m
      · rw [if_pos ⟨h6, hl⟩, if_pos ⟨h6, by omega, by omega⟩]
      · rw [if_neg (fun z => hl z.2), if_neg (fun z => h7 z.1), if_neg (fun z => hl (by omega)), if_neg (fun z => h7 z.1)]
  · by_cases h7 : a = e + 7
    · by_cases hi : i = 10 * p + m
      · rw [if_pos ⟨h7, hi⟩, if_neg (fun z => h6 z.1), if_pos ⟨h7, by omega, by omega⟩]
        congr 1; omega
      · rw [if_neg (fun z => hi z.2), if_neg (fun z => h6 z.1), if_neg (fun z => h6 z.1)]
        by_cases hl : 10 * p ≤ i ∧ i < 10 * p + m
        · rw [if_pos ⟨h7, hl⟩, if_neg (fun z => h6 z.1), if_pos ⟨h7, by omega, by omega⟩]
        · rw [if_neg (fun z => hl z.2), if_neg (fun z => h6 z.1), if_neg (fun z => hl (by omega))]
    · rw [if_neg (fun z => h7 z.1), if_neg (fun z => h6 z.1), if_neg (fun z => h6 z.1), if_neg (fun z => h7 z.1), if_neg (fun z => h6 z.1), if_neg (fun z => h7 z.1)]
theorem EV_followProcess_spec (hG : Gok sw g) (he : EvId e) (R : EvR e h C) (W : Wf C) {p : Int} {K : (Nat → Int → Int) → Prop} (p0 : 0 ≤ p) (p1 : p < cN C) (k : K (fpH C e p (cS C p + 1) h)) : EV_followProcess g h e p K := by
  have hN := W.2.1
  have hsz := W.sz p
  refine EV_followProcess_wp hG he ?_
  have key : ∀ m : Int, m ≤ cS C p → ∀ u, 0 ≤ m → EV_followProcess_7 g (fpH C e p m h) e p (vl C p m) (sr C p m) m u K := by
    refine up_ind ?_ ?_
    · intro u m0
      have eS : fpH C e p (cS C p) h (e + 1) p = cS C p := by rw [fpH_o (by omega) (by omega)]; exact R.2.2.1 p p0 (by omega)
      refine EV_followProcess_7_wp hG he ⟨⟨p0, by omega⟩, fun _ => ⟨⟨p0, by omega⟩, ?_⟩, fun z => absurd z (by rw [eS]; omega)⟩
      rw [eS, row10 p0 (by omega) m0 (by omega)]
      refine ⟨⟨by omega, by omega⟩, ?_⟩
      rintro h1 rfl
      refine ⟨⟨p0, by omega⟩, ?_⟩
      rw [upd_ob (show ¬ e + 1 = e + 6 by omega), eS, row10 p0 (by omega) m0 (by omega)]
      refine ⟨⟨by omega, by omega⟩, ?_⟩
      rintro h2 rfl
      rw [fpH_s m0]
      exact k
    · intro m hm ih u m0
      have eS : fpH C e p m h (e + 1) p = cS C p := by rw [fpH_o (by omega) (by omega)]; exact R.2.2.1 p p0 (by omega)
      obtain ⟨r1, r2⟩ := R.2.2.2 p m p0 p1 m0 hm
      refine EV_followProcess_7_wp hG he ⟨⟨p0, by omega⟩, fun z => absurd z (by rw [eS]; omega), fun _ => ?_⟩
      rw [row10 p0 (by omega) m0 (by omega)]
      refine ⟨⟨by omega, by omega⟩, ?_⟩
      rintro h3 rfl
      refine ⟨⟨by omega, by omega⟩, ?_⟩
      rintro h4 rfl
      rw [fpH_s m0]
      rintro v rfl
      rw [row9 p0 (by omega) m0 (by omega), fpH_o (show ¬ e + 2 = e + 6 by omega) (by omega), fpH_o (show ¬ e + 3 = e + 6 by omega) (by omega), r1, r2, mwi (z := m + 1) (by omega) (by omega)]
      have ih := fun u => ih u (by omega)
      rw [vl_s m0, sr_s m0] at ih
      have hsr := sr_range (C := C) (p := p) m0
      have e1 : mw (sr C p m + -1) = sr C p m - 1 := by rw [mwi (by omega) (by omega)]; omega
      have e2 : mw (sr C p m + 1) = sr C p m + 1 := mwi (by omega) (by omega)
      try rw [e1]
      try rw [e2]
      refine ⟨⟨by omega, by omega⟩, fun n0 => ⟨⟨by omega, by omega⟩, fun n1 => ⟨⟨by omega, by omega⟩, fun n2 => ?_, fun n2 => ?_⟩, fun n1 => ⟨⟨by omega, by omega⟩, fun n2 => ?_, fun n2 => absurd n2 (by omega)⟩⟩, fun n0 => ?_⟩
      · simp only [if_neg n0, if_neg n1, if_neg n2] at ih
        exact ih _
      · simp only [if_neg n0, if_neg n1, if_pos n2] at ih
        exact ih _
      · simp only [if_neg n0, if_pos n1] at ih
        exact ih _
      · simp only [if_pos n0, if_neg (show ¬ cK C p m = 1 by omega), if_neg (show ¬ cK C p m = 2 by omega)] at ih
        refine ⟨⟨by omega, by omega⟩, ?_⟩
        rintro v6 rfl
        refine ⟨⟨by omega, by omega⟩, fun n1 => ⟨⟨by omega, by omega⟩, fun n2 => ih _, fun n2 => absurd n2 (by omega)⟩, fun n1 => absurd n1 (by omega)⟩
  have h0 := key 0 (by omega) none (Int.le_refl _)
  have e0 : fpH C e p 0 h = h := by
    funext a i
    unfold fpH
    rw [if_neg (fun z => by omega), if_neg (fun z => by omega)]
  rw [e0] at h0
  exact h0
theorem EV_link_spec (hG : Gok sw g) (he : EvId e) (R : EvR e h C) (W : Wf C) (hn : 1 ≤ cN C) (ht : Tens h) {K : Int → (Nat → Int → Int) → Prop}
    (kt : Valid C → ∀ h', EvOk e h' C → (∀ a, ¬ (e + 4 ≤ a ∧ a ≤ e + 8) → h' a = h a) → K 1 h') (kf : ¬ Valid C → ∀ h', (∀ a, ¬ (e + 4 ≤ a ∧ a ≤ e + 8) → h' a = h a) → K 0 h') : EV_link g h e K := by
  have hN := W.2.1
  have he0 : 6 ≤ e := by rcases he with rfl | rfl | rfl <;> omega
  refine EV_link_wp hG he ?_
  refine EV_pairMessages_spec hG he R W (fun P h1 hp o1 => ⟨fun z => absurd z (by decide), fun _ => ?_⟩) (fun P h1 o1 => ⟨fun _ => ?_, fun z => absurd rfl z⟩)
  · have R1 : EvR e h1 C := R.keep (o1 _ (by omega) (by omega)) (o1 _ (by omega) (by omega)) (o1 _ (by omega) (by omega)) (o1 _ (by omega) (by omega))
    have ht1 : Tens h1 := ht.keep (o1 1 (by omega) (by omega))
    refine EV_findVectors_spec hG he R1 W hp P hn ht1 (fun V h3 hv o3 => ⟨fun _ => ?_, fun z => absurd z (by decide)⟩) (fun V h3 o3 => ⟨fun z => absurd rfl z, fun _ => ?_⟩)
    · have R3 : EvR e h3 C := R1.keep (o3 _ (by omega)) (o3 _ (by omega)) (o3 _ (by omega)) (o3 _ (by omega))
      have hvec : ∀ p k q, 0 ≤ p → p < cN C → 0 ≤ k → k < cS C p → 0 ≤ q → q < cN C → h3 (e + 5) (4 * (9 * p + k) + q) = vec C p k q := fun p k q p0 p1 k0 k1 q0 q1 => IsV.uniq V hv (vec_of hv) p k p0 p1 k0 k1 q q0 q1
      have key : ∀ p : Int, p ≤ cN C → ∀ h4, 0 ≤ p → (∀ a, ¬ a = e + 6 → ¬ a = e + 7 → h4 a = h3 a) → (∀ r k, 0 ≤ r → r < p → 0 ≤ k → k ≤ cS C r → h4 (e + 6) (10 * r + k) = vl C r k ∧ h4 (e + 7) (10 * r + k) = sr C r k) → EV_link_18 g h4 e p K := by
        refine up_ind ?_ ?_
        · intro h4 _ o4 hl
          have oo : ∀ a, ¬ (e + 4 ≤ a ∧ a ≤ e + 8) → h4 a = h a := fun a ha => by rw [o4 a (by omega) (by omega), o3 a (by omega), o1 a (by omega) (by omega)]
          refine EV_link_18_wp hG he ⟨fun _ => kt V h4 ⟨?_, ⟨?_, ?_, hl⟩, V, vec_of hv, hn, ?_⟩ oo, fun z => absurd z (by rw [oo e (by omega), R.1]; omega)⟩
          · exact R3.keep (o4 _ (by omega) (by omega)) (o4 _ (by omega) (by omega)) (o4 _ (by omega) (by omega)) (o4 _ (by omega) (by omega))
          · intro p k p0 p1 k0 k1
            rw [o4 (e + 4) (by omega) (by omega), o3 (e + 4) (by omega)]
            exact hp p k p0 p1 k0 k1
          · intro p k q p0 p1 k0 k1 q0 q1
            rw [o4 (e + 5) (by omega) (by omega)]
            exact hvec p k q p0 p1 k0 k1 q0 q1
          · exact ht.keep (oo 1 (by omega))
        · intro p hp' ih h4 p0 o4 hl
          have R4 : EvR e h4 C := R3.keep (o4 _ (by omega) (by omega)) (o4 _ (by omega) (by omega)) (o4 _ (by omega) (by omega)) (o4 _ (by omega) (by omega))
          refine EV_link_18_wp hG he ⟨fun z => absurd z (by rw [R4.1]; omega), fun _ => ?_⟩
          refine EV_followProcess_spec hG he R4 W p0 hp' ?_
          rw [mwi (z := p + 1) (by omega) (by omega)]
          refine ih _ (by omega) (fun a a6 a7 => by rw [fpH_o a6 a7]; exact o4 a a6 a7) (fun r k r0 r1 k0 k1 => ?_)
          have hr := W.sz r
          have hpz := W.sz p
          by_cases er : r = p
          · subst er
            unfold fpH
            rw [if_pos ⟨rfl, by omega, by omega⟩, if_neg (fun z => by omega), if_pos ⟨rfl, by omega, by omega⟩]
            rw [show 10 * r + k - 10 * r = k by omega]
            exact ⟨rfl, rfl⟩
          · have h5 := hl r k r0 (by omega) k0 k1
            unfold fpH
            rw [if_neg (fun z => by omega), if_neg (fun z => by omega), if_neg (fun z => by omega), if_neg (fun z => by omega)]
            exact h5
      exact key 0 (by omega) h3 (Int.le_refl _) (fun a _ _ => rfl) (fun r k r0 r1 => by omega)
    · exact kf V h3 (fun a ha => by rw [o3 a (by omega), o1 a (by omega) (by omega)])
  · exact kf (fun V => P (fun p k p0 p1 k0 k1 hk => recv_pt V p0 p1 k0 k1 hk)) h1 (fun a ha => o1 a (by omega) (by omega))
end EV
