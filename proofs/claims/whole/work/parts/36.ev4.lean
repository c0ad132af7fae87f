section EV
variable {sw : Bool} {g : Nat → Nat → Nat} {h : Nat → Int → Int} {e : Nat} {C : Cmp} {c : Int → Int}
theorem EV_pairReceive_spec (hG : Gok sw g) (he : EvId e) (R : EvR e h C) (W : Wf C) {q k : Int} {K : Int → (Nat → Int → Int) → Prop} (q0 : 0 ≤ q) (q1 : q < cN C) (k0 : 0 ≤ k) (k1 : k < cS C q) (hk : cK C q k = 2)
    (t0 : 0 ≤ h (e + 8) (cD C q k)) (t1 : h (e + 8) (cD C q k) ≤ cS C (cD C q k)) (hb : cOf C (cD C q k) 1 q (h (e + 8) (cD C q k)) = cOf C q 2 (cD C q k) k)
    (kt : ∀ s, isNth C (cD C q k) 1 q (cOf C q 2 (cD C q k) k) s → K 1 (mvUpd (mvUpd (mvUpd h (e + 4) (9 * cD C q k + s) k) (e + 4) (9 * q + k) s) (e + 8) (cD C q k) (s + 1)))
    (kf : (∀ s, ¬ isNth C (cD C q k) 1 q (cOf C q 2 (cD C q k) k) s) → K 0 h) : EV_pairReceive g h e q k K := by
  have hN := W.2.1
  have hsq := W.sz q
  obtain ⟨r1, r2⟩ := R.2.2.2 q k q0 q1 k0 k1
  rcases W.2.2.2.2.2 q k q0 q1 k0 k1 with ⟨z, -⟩ | ⟨-, b1, b2, b3⟩
  · omega
  have hsp := W.sz (cD C q k)
  refine EV_pairReceive_wp hG he ?_
  rw [row9 q0 (by omega) k0 (by omega), r2]
  refine ⟨⟨by omega, by omega⟩, ?_⟩
  rintro v rfl
  refine ⟨⟨b1, by omega⟩, ?_⟩
  rintro v2 rfl
  generalize hp : cD C q k = p at *
  have key : ∀ s : Int, s ≤ cS C p → ∀ u, 0 ≤ s → cOf C p 1 q s = cOf C q 2 p k → (∀ m, 0 ≤ m → m < s → cK C p m = 1 → cD C p m = q → ¬ cOf C p 1 q m = cOf C q 2 p k) → EV_pairReceive_20 g h e q k p s u K := by
    refine up_ind ?_ ?_
    · intro u _ hc hz
      refine EV_pairReceive_20_wp hG he ⟨⟨b1, by omega⟩, fun _ => kf (fun s hs => ?_), fun z => absurd z (by rw [R.2.2.1 p b1 (by omega)]; omega)⟩
      exact hz s hs.1 hs.2.1 hs.2.2.1 hs.2.2.2.1 hs.2.2.2.2
    · intro s hs ih u s0 hc hz
      obtain ⟨a1, a2⟩ := R.2.2.2 p s b1 b2 s0 hs
      refine EV_pairReceive_20_wp hG he ⟨⟨b1, by omega⟩, fun z => absurd z (by rw [R.2.2.1 p b1 (by omega)]; omega), fun _ => ?_⟩
      rintro v rfl
      rw [row9 b1 (by omega) s0 (by omega), a1, a2, row9 q0 (by omega) k0 (by omega), mwi (z := s + 1) (by omega) (by omega)]
      have skip : ¬ (cK C p s = 1 ∧ cD C p s = q) → EV_pairReceive_20 g h e q k p (s + 1) (some (9 * p + s)) K := fun hn => by
        refine ih _ (by omega) (by rw [cOf_s s0, if_neg hn]; exact hc) (fun m m0 m1 mk md => ?_)
        by_cases em : m = s
        · subst em; exact absurd ⟨mk, md⟩ hn
        · exact hz m m0 (by omega) mk md
      refine ⟨⟨by omega, by omega⟩, fun hne => skip (fun z => hne z.1), fun hk1 => ⟨⟨by omega, by omega⟩, fun hne => skip (fun z => hne z.2), fun hd => ⟨⟨by omega, by omega⟩, ?_⟩⟩⟩
      rintro h2 rfl
      refine ⟨⟨by omega, by omega⟩, ?_⟩
      rintro h3 rfl
      refine ⟨⟨b1, by omega⟩, ?_⟩
      rintro h4 rfl
      exact kt s ⟨s0, hs, hk1, hd, hc⟩
  refine key (h (e + 8) p) t1 none t0 hb (fun m m0 m1 mk md => ?_)
  have := cOf_lt m0 m1 mk md
  omega
/-- the partners as far as the receives of the processes ahead of q, and the first k of q, have been gone through -/
def ptS (C : Cmp) (q k p m : Int) : Int := if cK C p m = 0 then -1 else if cK C p m = 2 then (if p < q ∨ p = q ∧ m < k then cPt C p m else -1) else (if cD C p m < q ∨ cD C p m = q ∧ cOf C p 1 q m < cOf C q 2 p k then cPt C p m else -1)
theorem EV_pairMessages_spec (hG : Gok sw g) (he : EvId e) (R : EvR e h C) (W : Wf C) {K : Int → (Nat → Int → Int) → Prop}
    (kt : Paired C → ∀ h', EvP e h' C → (∀ a, ¬ a = e + 4 → ¬ a = e + 8 → h' a = h a) → K 1 h') (kf : ¬ Paired C → ∀ h', (∀ a, ¬ a = e + 4 → ¬ a = e + 8 → h' a = h a) → K 0 h') : EV_pairMessages g h e K := by
  have hN := W.2.1
  have hN0 := W.1
  have he0 : 6 ≤ e := by rcases he with rfl | rfl | rfl <;> omega
  refine EV_pairMessages_wp hG he ?_
  refine AR_fill_spec hG (miE4 he) (by decide) ?_
  -- what stands at the head of a process' receives, and at each of its events
  have inner : ∀ q, 0 ≤ q → q < cN C → (∀ h2 u, (∀ a, ¬ a = e + 4 → ¬ a = e + 8 → h2 a = h a) → (∀ p m, 0 ≤ p → p < cN C → 0 ≤ m → m < cS C p → h2 (e + 4) (9 * p + m) = ptS C (q + 1) 0 p m) → (∀ p m, 0 ≤ p → p < q + 1 → 0 ≤ m → m < cS C p → cK C p m = 2 → isNth C (cD C p m) 1 p (cOf C p 2 (cD C p m) m) (cPt C p m)) → EV_pairMessages_10 g h2 e (q + 1) u K) →
      ∀ k : Int, k ≤ cS C q → ∀ h2, 0 ≤ k → (∀ a, ¬ a = e + 4 → ¬ a = e + 8 → h2 a = h a) → (∀ p m, 0 ≤ p → p < cN C → 0 ≤ m → m < cS C p → h2 (e + 4) (9 * p + m) = ptS C q k p m) →
        (∀ p, 0 ≤ p → p < cN C → ¬ p = q → 0 ≤ h2 (e + 8) p ∧ h2 (e + 8) p ≤ cS C p ∧ cOf C p 1 q (h2 (e + 8) p) = cOf C q 2 p k) → (∀ p m, 0 ≤ p → (p < q ∨ p = q ∧ m < k) → 0 ≤ m → m < cS C p → cK C p m = 2 → isNth C (cD C p m) 1 p (cOf C p 2 (cD C p m) m) (cPt C p m)) → EV_pairMessages_28 g h2 e q k K := by
    intro q q0 q1 next
    have hsq := W.sz q
    refine up_ind ?_ ?_
    · intro h2 k0 ho hp ht hd
      have R2 : EvR e h2 C := R.keep (ho _ (by omega) (by omega)) (ho _ (by omega) (by omega)) (ho _ (by omega) (by omega)) (ho _ (by omega) (by omega))
      refine EV_pairMessages_28_wp hG he ⟨⟨q0, by omega⟩, fun _ => ?_, fun z => absurd z (by rw [R2.2.2.1 q q0 (by omega)]; omega)⟩
      rw [mwi (z := q + 1) (by omega) (by omega)]
      refine next h2 _ ho (fun p m p0 p1 m0 m1 => ?_) (fun p m p0 p1 m0 m1 hk => hd p m p0 (by
        by_cases ep : p = q
        · subst ep; exact Or.inr ⟨rfl, m1⟩
        · exact Or.inl (by omega)) m0 m1 hk)
      rw [hp p m p0 p1 m0 m1]
      unfold ptS
      by_cases z0 : cK C p m = 0
      · rw [if_pos z0, if_pos z0]
      · rw [if_neg z0, if_neg z0]
        by_cases z2 : cK C p m = 2
        · rw [if_pos z2, if_pos z2]
          by_cases zz : p < q ∨ p = q ∧ m < cS C q
          · rw [if_pos zz, if_pos (by omega)]
          · rw [if_neg zz, if_neg (fun y => zz (by
              rcases y with y | y
              · by_cases ep : p = q
                · subst ep; exact Or.inr ⟨rfl, m1⟩
                · exact Or.inl (by omega)
              · omega))]
        · rw [if_neg z2, if_neg z2]
          have z1 : cK C p m = 1 := by
            rcases W.2.2.2.2.2 p m p0 p1 m0 m1 with ⟨z, -⟩ | ⟨z, -⟩ <;> omega
          by_cases zz : cD C p m < q ∨ cD C p m = q ∧ cOf C p 1 q m < cOf C q 2 p (cS C q)
          · rw [if_pos zz, if_pos (by omega)]
          · rw [if_neg zz]
            by_cases zq : cD C p m = q
            · rw [if_pos (by omega)]
              have : cPt C p m = -1 := by
                unfold cPt
                rw [if_neg z0, z1, zq]
                refine (cNth_none (by omega) (cOf_le m0).1).mpr ?_
                have : ¬ cOf C p 1 q m < cOf C q 2 p (cS C q) := fun y => zz (Or.inr ⟨zq, y⟩)
                show cOf C q 2 p (cS C q) ≤ cOf C p 1 q m
                omega
              omega
            · rw [if_neg (fun y => by
                rcases y with y | ⟨y, y2⟩
                · omega
                · rw [cOf_0] at y2
                  have := (cOf_le (C := C) (p := p) (K := 1) (q := q + 1) m0).1
                  omega)]
    · intro k hk ih h2 k0 ho hp ht hd
      have R2 : EvR e h2 C := R.keep (ho _ (by omega) (by omega)) (ho _ (by omega) (by omega)) (ho _ (by omega) (by omega)) (ho _ (by omega) (by omega))
      obtain ⟨r1, r2⟩ := R2.2.2.2 q k q0 q1 k0 hk
      refine EV_pairMessages_28_wp hG he ⟨⟨q0, by omega⟩, fun z => absurd z (by rw [R2.2.2.1 q q0 (by omega)]; omega), fun _ => ?_⟩
      rw [row9 q0 (by omega) k0 (by omega), r1, mwi (z := k + 1) (by omega) (by omega)]
      refine ⟨⟨by omega, by omega⟩, fun hne => ?_, fun hk2 => ?_⟩
      · refine ih h2 (by omega) ho (fun p m p0 p1 m0 m1 => ?_) (fun p p0 p1 pq => ?_) (fun p m p0 pm m0 m1 hm => ?_)
        · rw [hp p m p0 p1 m0 m1]
          unfold ptS
          have ec : cOf C q 2 p (k + 1) = cOf C q 2 p k := by rw [cOf_s k0, if_neg (fun z => hne z.1)]
          rw [ec]
          by_cases z0 : cK C p m = 0
          · rw [if_pos z0, if_pos z0]
          · rw [if_neg z0, if_neg z0]
            by_cases z2 : cK C p m = 2
            · rw [if_pos z2, if_pos z2]
              have : (p < q ∨ p = q ∧ m < k) ↔ (p < q ∨ p = q ∧ m < k + 1) := by
                constructor
                · omega
                · rintro (y | ⟨y, y2⟩)
                  · exact Or.inl y
                  · by_cases em : m = k
                    · subst em; subst y; exact absurd z2 hne
                    · exact Or.inr ⟨y, by omega⟩
              by_cases zz : p < q ∨ p = q ∧ m < k
              · rw [if_pos zz, if_pos (this.mp zz)]
              · rw [if_neg zz, if_neg (fun y => zz (this.mpr y))]
            · rw [if_neg z2, if_neg z2]
        · rw [cOf_s k0, if_neg (fun z => hne z.1)]
          exact ht p p0 p1 pq
        · refine hd p m p0 ?_ m0 m1 hm
          rcases pm with y | ⟨y, y2⟩
          · exact Or.inl y
          · by_cases em : m = k
            · subst em; subst y; exact absurd hm hne
            · exact Or.inr ⟨y, by omega⟩
      · rcases W.2.2.2.2.2 q k q0 q1 k0 hk with ⟨z, -⟩ | ⟨-, b1, b2, b3⟩
        · omega
        obtain ⟨t0, t1, t2⟩ := ht (cD C q k) b1 b2 b3
        refine EV_pairReceive_spec hG he R2 W q0 q1 k0 hk hk2 t0 t1 t2 (fun s hs => ⟨fun _ => ?_, fun z => absurd z (by decide)⟩) (fun hno => ⟨fun z => absurd rfl z, fun _ => kf (fun P => hno _ (P q k q0 q1 k0 hk hk2)) h2 ho⟩)
        have hptq : cPt C q k = s := by
          unfold cPt
          rw [if_neg (by omega), hk2]
          exact cNth_is hs
        have hpts : cPt C (cD C q k) s = k := send_pt hk2 rfl k0 hk hs
        have hsp := W.sz (cD C q k)
        obtain ⟨s0, s1, s2, s3, s4⟩ := id hs
        refine ih _ (by omega) (fun a a4 a8 => ?_) (fun p m p0 p1 m0 m1 => ?_) (fun p p0 p1 pq => ?_) (fun p m p0 pm m0 m1 hm => ?_)
        · rw [upd_ob a8, upd_ob a4, upd_ob a4]; exact ho a a4 a8
        · rw [upd_ob (by omega)]
          have hsp2 := W.sz p
          by_cases e1 : p = q ∧ m = k
          · obtain ⟨ep, em⟩ := e1
            subst ep; subst em
            rw [upd_at]
            unfold ptS
            rw [if_neg (by omega), if_pos hk2, if_pos (Or.inr ⟨rfl, by omega⟩)]
            exact hptq.symm
          · rw [upd_ix (fun z => e1 (by omega))]
            by_cases e2 : p = cD C q k ∧ m = s
            · obtain ⟨ep, em⟩ := e2
              rw [ep, em, upd_at]
              unfold ptS
              have hlt : cOf C (cD C q k) 1 q s < cOf C q 2 (cD C q k) (k + 1) := by
                rw [s4, cOf_s k0, if_pos ⟨hk2, rfl⟩]; omega
              rw [if_neg (by omega), if_neg (by omega), if_pos (Or.inr ⟨s3, hlt⟩)]
              exact hpts.symm
            · rw [upd_ix (fun z => e2 (by omega)), hp p m p0 p1 m0 m1]
              unfold ptS
              by_cases z0 : cK C p m = 0
              · rw [if_pos z0, if_pos z0]
              · rw [if_neg z0, if_neg z0]
                by_cases z2 : cK C p m = 2
                · rw [if_pos z2, if_pos z2]
                  have : (p < q ∨ p = q ∧ m < k) ↔ (p < q ∨ p = q ∧ m < k + 1) := by
                    constructor
                    · omega
                    · rintro (y | ⟨y, y2⟩)
                      · exact Or.inl y
                      · exact Or.inr ⟨y, by
                          by_cases em : m = k
                          · exact absurd ⟨y, em⟩ e1
                          · omega⟩
                  by_cases zz : p < q ∨ p = q ∧ m < k
                  · rw [if_pos zz, if_pos (this.mp zz)]
                  · rw [if_neg zz, if_neg (fun y => zz (this.mpr y))]
                · rw [if_neg z2, if_neg z2]
                  have z1 : cK C p m = 1 := by
                    rcases W.2.2.2.2.2 p m p0 p1 m0 m1 with ⟨z, -⟩ | ⟨z, -⟩ <;> omega
                  have : (cD C p m < q ∨ cD C p m = q ∧ cOf C p 1 q m < cOf C q 2 p k) ↔ (cD C p m < q ∨ cD C p m = q ∧ cOf C p 1 q m < cOf C q 2 p (k + 1)) := by
                    rw [cOf_s k0]
                    by_cases ep : cD C q k = p
                    · rw [if_pos ⟨hk2, ep⟩]
                      constructor
                      · omega
                      · rintro (y | ⟨y, y2⟩)
                        · exact Or.inl y
                        · refine Or.inr ⟨y, ?_⟩
                          rcases Int.lt_or_le (cOf C p 1 q m) (cOf C q 2 p k) with w | w
                          · exact w
                          · exfalso
                            apply e2
                            refine ⟨ep.symm, ?_⟩
                            rw [ep] at hs
                            exact isNth_uniq ⟨m0, m1, z1, y, by omega⟩ hs
                    · rw [if_neg (fun y => ep y.2)]
                  by_cases zz : cD C p m < q ∨ cD C p m = q ∧ cOf C p 1 q m < cOf C q 2 p k
                  · rw [if_pos zz, if_pos (this.mp zz)]
                  · rw [if_neg zz, if_neg (fun y => zz (this.mpr y))]
        · by_cases ep : p = cD C q k
          · rw [ep, upd_at, cOf_s s0, if_pos ⟨s2, s3⟩, s4, cOf_s k0, if_pos ⟨hk2, rfl⟩]
            exact ⟨by omega, by omega, rfl⟩
          · rw [upd_ix ep, upd_ob (by omega), upd_ob (by omega), cOf_s k0, if_neg (fun z => ep z.2.symm)]
            exact ht p p0 p1 pq
        · by_cases e1 : p = q ∧ m = k
          · obtain ⟨ep, em⟩ := e1
            subst ep; subst em
            rw [hptq]; exact hs
          · refine hd p m p0 ?_ m0 m1 hm
            rcases pm with y | ⟨y, y2⟩
            · exact Or.inl y
            · exact Or.inr ⟨y, by
                by_cases em : m = k
                · exact absurd ⟨y, em⟩ e1
                · omega⟩
  have outer : ∀ q : Int, q ≤ cN C → ∀ h2 u, 0 ≤ q → (∀ a, ¬ a = e + 4 → ¬ a = e + 8 → h2 a = h a) → (∀ p m, 0 ≤ p → p < cN C → 0 ≤ m → m < cS C p → h2 (e + 4) (9 * p + m) = ptS C q 0 p m) → (∀ p m, 0 ≤ p → p < q → 0 ≤ m → m < cS C p → cK C p m = 2 → isNth C (cD C p m) 1 p (cOf C p 2 (cD C p m) m) (cPt C p m)) → EV_pairMessages_10 g h2 e q u K := by
    refine up_ind ?_ ?_
    · intro h2 u _ ho hp hd
      refine EV_pairMessages_10_wp hG he ⟨fun _ => ?_, fun z => absurd z (by rw [ho e (by omega) (by omega), R.1]; omega)⟩
      refine kt (fun p k p0 p1 k0 k1 hk => hd p k p0 p1 k0 k1 hk) h2 (fun p m p0 p1 m0 m1 => ?_) ho
      rw [hp p m p0 p1 m0 m1]
      unfold ptS
      by_cases z0 : cK C p m = 0
      · rw [if_pos z0]; unfold cPt; rw [if_pos z0]
      · rw [if_neg z0]
        by_cases z2 : cK C p m = 2
        · rw [if_pos z2, if_pos (Or.inl p1)]
        · rw [if_neg z2]
          rcases W.2.2.2.2.2 p m p0 p1 m0 m1 with ⟨z, -⟩ | ⟨-, -, z, -⟩
          · exact absurd z z0
          · rw [if_pos (Or.inl z)]
    · intro q hq ih h2 u q0 ho hp hd
      refine EV_pairMessages_10_wp hG he ⟨fun z => absurd z (by rw [ho e (by omega) (by omega), R.1]; omega), fun _ => ?_⟩
      refine AR_fill_spec hG (miE8 he) (by decide) ?_
      refine inner q q0 hq (fun h3 u3 ho3 hp3 hd3 => ih h3 u3 (by omega) ho3 hp3 hd3) 0 (W.sz q).1 _ (Int.le_refl _) (fun a a4 a8 => ?_) (fun p m p0 p1 m0 m1 => ?_) (fun p p0 p1 pq => ?_) (fun p m p0 pm m0 m1 hm => hd p m p0 (by omega) m0 m1 hm)
      · funext i
        exact (if_neg (fun z => a8 z.1)).trans (congrFun (ho a a4 a8) i)
      · refine (if_neg (fun z => by omega)).trans ?_
        exact hp p m p0 p1 m0 m1
      · rw [if_pos ⟨rfl, p0, by omega⟩, cOf_0, cOf_0]
        exact ⟨Int.le_refl _, (W.sz p).1, rfl⟩
  refine outer 0 hN0 _ none (Int.le_refl _) (fun a a4 a8 => ?_) (fun p m p0 p1 m0 m1 => ?_) (fun p m p0 p1 => by omega)
  · funext i
    exact if_neg (fun z => a4 z.1)
  · have hsp := W.sz p
    refine (if_pos ⟨rfl, by omega, by omega⟩).trans ?_
    unfold ptS
    by_cases z0 : cK C p m = 0
    · rw [if_pos z0]
    · rw [if_neg z0]
      by_cases z2 : cK C p m = 2
      · rw [if_pos z2, if_neg (by omega)]
      · rw [if_neg z2]
        rcases W.2.2.2.2.2 p m p0 p1 m0 m1 with ⟨z, -⟩ | ⟨-, z, -⟩
        · exact absurd z z0
        · rw [if_neg (fun y => by
            rcases y with y | ⟨y, y2⟩
            · omega
            · rw [cOf_0] at y2
              have := (cOf_le (C := C) (p := p) (K := 1) (q := 0) m0).1
              omega)]
end EV
