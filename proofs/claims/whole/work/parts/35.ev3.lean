/-! a path as an order -/
theorem Pth.ord {C : Cmp} : ∀ (m : Nat) (c : Int → Int), Pth C m c → ∃ (f : Nat → Int → Int) (w : Nat → Int), (∀ q, f 0 q = 0) ∧ (∀ i : Nat, i < m → 0 ≤ w i ∧ w i < cN C ∧ canF C (f i) (w i) ∧ f (i + 1) = inc (f i) (w i)) ∧ f m = c := by
  intro m
  induction m with
  | zero => intro c hc; exact ⟨fun _ => c, fun _ => 0, hc, fun i hi => absurd hi (by omega), rfl⟩
  | succ m ih =>
    intro c hc
    obtain ⟨p, d, p0, p1, hd, hp, rfl⟩ := hc
    obtain ⟨f, w, h1, h2, h3⟩ := ih d hd
    refine ⟨fun i => if i ≤ m then f i else inc d p, fun i => if i < m then w i else p, fun q => ?_, fun i hi => ?_, ?_⟩
    · simp only [Nat.zero_le, if_true]; exact h1 q
    · by_cases e : i < m
      · have a := h2 i e
        simp only [e, if_true, Nat.le_of_lt e, show i + 1 ≤ m from e]
        exact a
      · have e2 : i = m := by omega
        subst e2
        simp only [Nat.lt_irrefl, if_false, Nat.le_refl, if_true, show ¬ i + 1 ≤ i by omega]
        rw [h3]
        exact ⟨p0, p1, hp, rfl⟩
    · simp only [show ¬ m + 1 ≤ m by omega, if_false]
theorem cT_nn {C : Cmp} (W : Wf C) : 0 ≤ cT C := by
  have a0 := W.sz 0; have a1 := W.sz 1; have a2 := W.sz 2; have a3 := W.sz 3
  unfold cT; omega
theorem lev_full {C : Cmp} (W : Wf C) {c : Int → Int} (hi : In C c) (hl : lev c = cT C) : c = fun p => cS C p := by
  funext p
  have b0 := hi 0; have b1 := hi 1; have b2 := hi 2; have b3 := hi 3
  unfold lev at hl
  unfold cT at hl
  by_cases hp : 0 ≤ p ∧ p < 4
  · rcases (show p = 0 ∨ p = 1 ∨ p = 2 ∨ p = 3 by omega) with rfl | rfl | rfl | rfl <;> omega
  · have := hi p
    have hN := W.2.1
    rw [W.2.2.2.1 p (by omega)] at this ⊢
    omega
theorem valid_of {C : Cmp} (W : Wf C) {m : Nat} {c : Int → Int} (h : Pth C m c) (hm : (m : Int) = cT C) : Valid C := by
  obtain ⟨i1, i2, i3⟩ := Pth.fin W m c h
  obtain ⟨f, w, h1, h2, h3⟩ := Pth.ord m c h
  have hf := lev_full W i1 (by omega)
  refine ⟨W, f, w, h1, fun i hi => h2 i (by omega), fun i hi q => ?_⟩
  rw [show i = m by omega, h3, hf]
/-- nothing can come any more, and something is left: there is no order -/
theorem stuck {C : Cmp} {c : Int → Int} (hi : In C c) (hl : lev c < cT C) (hn : ∀ p, 0 ≤ p → p < cN C → ¬ canF C c p) : ¬ Valid C := by
  intro V
  obtain ⟨p, p0, p1, hp⟩ := can_go V hi hl
  exact hn p p0 p1 hp
section EV
variable {sw : Bool} {g : Nat → Nat → Nat} {h : Nat → Int → Int} {e : Nat} {C : Cmp} {c : Int → Int}
/-- the rows of the vectors solve the equations on the events of c -/
def VOn (C : Cmp) (X : Int → Int → Int → Int) (c : Int → Int) : Prop := ∀ p k q, 0 ≤ p → p < cN C → 0 ≤ k → k < c p → 0 ≤ q → q < cN C →
  0 ≤ X p k q ∧ X p k q = if q = p then k + 1 else max (if k = 0 then 0 else X p (k - 1) q) (if cK C p k = 2 then X (cD C p k) (cPt C p k) q else 0)
def vx (h : Nat → Int → Int) (e : Nat) : Int → Int → Int → Int := fun p k q => h (e + 5) (4 * (9 * p + k) + q)
theorem EV_findVectors_spec (hG : Gok sw g) (he : EvId e) (R : EvR e h C) (W : Wf C) (Lp : EvP e h C) (P : Paired C) (hn : 1 ≤ cN C) (ht : Tens h) {K : Int → (Nat → Int → Int) → Prop}
    (kt : Valid C → ∀ h', IsV C (vx h' e) → (∀ a, ¬ a = e + 5 → h' a = h a) → K 1 h') (kf : ¬ Valid C → ∀ h', (∀ a, ¬ a = e + 5 → h' a = h a) → K 0 h') : EV_findVectors g h e K := by
  have hN := W.2.1
  refine EV_findVectors_wp hG he ?_
  have hT := cT_nn W
  have hT16 := W.2.2.2.2.1
  have he0 : 6 ≤ e := by rcases he with rfl | rfl | rfl <;> omega
  have key : ∀ t : Int, t ≤ cT C → ∀ h2 u (c : Int → Int), 0 ≤ t → (∀ a, ¬ a = e + 5 → h2 a = h a) → Pth C t.toNat c → VOn C (vx h2 e) c → EV_findVectors_4 g h2 e (en (cN C) c) t u K := by
    refine up_ind ?_ ?_
    · intro h2 u c t0 ho hp hv
      refine EV_findVectors_4_wp hG he ⟨fun _ => ?_, fun z => absurd z (by rw [ho e (by omega), R.2.1]; omega)⟩
      have hfin := Pth.fin W _ c hp
      have V := valid_of W hp (by omega)
      have hf := lev_full W hfin.1 (by omega)
      refine kt V h2 (fun p k q p0 p1 k0 k1 q0 q1 => (hv p k q p0 p1 k0 (by rw [hf]; exact k1) q0 q1).2) ho
    · intro t ht' ih h2 u c t0 ho hp hv
      have R2 : EvR e h2 C := R.keep (ho _ (by omega)) (ho _ (by omega)) (ho _ (by omega)) (ho _ (by omega))
      have Lp2 : EvP e h2 C := fun p k p0 p1 k0 k1 => by rw [ho _ (by omega)]; exact Lp p k p0 p1 k0 k1
      have ht2 : Tens h2 := ht.keep (ho 1 (by omega))
      obtain ⟨f1, f2, f3⟩ := Pth.fin W _ c hp
      refine EV_findVectors_4_wp hG he ⟨fun z => absurd z (by rw [R2.2.1]; omega), fun _ => ?_⟩
      refine EV_followers_spec hG he R2 W Lp2 P hn ht2 f1 ?_
      have mem : ∀ q, 0 ≤ q → q < 4 → (¬ mvAnd (mvShr (fol C c) q) 1 = 0 ↔ q < cN C ∧ canF C c q) := fun q q0 q1 => bits_mem ⟨hn, hN⟩ q0 q1
      refine EV_firstOf_spec hG (fun p p0 p4 hz hb => ⟨fun _ => ?_, fun z => absurd z (by omega)⟩) (fun hz => ⟨fun z => absurd rfl z, fun _ => ?_⟩)
      · obtain ⟨p1, hc⟩ := (mem p p0 p4).mp hb
        have hcp := f1 p
        have hsz := W.sz p
        refine EV_count hG he R2 W hn ht2 f1 p0 p1 ?_
        have hc1 := hc.1
        obtain ⟨ra, rb⟩ := R2.2.2.2 p (c p) p0 p1 hcp.1 hc.1
        have rd := Lp2 p (c p) p0 p1 hcp.1 hc.1
        refine EV_findVector_spec hG he p0 p4 hcp.1 (by have := hc.1; omega) (fun hk => ?_) ?_
        · rw [ra] at hk
          have hnth := P p (c p) p0 p1 hcp.1 hc.1 hk
          rcases W.2.2.2.2.2 p (c p) p0 p1 hcp.1 hc.1 with ⟨z, -⟩ | ⟨-, b1, b2, b3⟩
          · omega
          · rw [rb, rd]
            have := W.sz (cD C p (c p))
            exact ⟨b1, by omega, b3, hnth.1, by have := hnth.2.1; omega⟩
        · -- the new row
          have o3 : ∀ a, ¬ a = e + 5 → (fun a i => if a = e + 5 ∧ 4 * (9 * p + c p) ≤ i ∧ i < 4 * (9 * p + c p) + 4 then fvV h2 e p (c p) (i - 4 * (9 * p + c p)) else h2 a i) a = h2 a := fun a ha => by funext i; exact if_neg (fun z => ha z.1)
          generalize hh3 : (fun a i => if a = e + 5 ∧ 4 * (9 * p + c p) ≤ i ∧ i < 4 * (9 * p + c p) + 4 then fvV h2 e p (c p) (i - 4 * (9 * p + c p)) else h2 a i) = h3 at o3 ⊢
          have R3 : EvR e h3 C := R2.keep (o3 _ (by omega)) (o3 _ (by omega)) (o3 _ (by omega)) (o3 _ (by omega))
          have ht3 : Tens h3 := ht2.keep (o3 1 (by omega))
          have eN : h3 e 0 = cN C := R3.1
          have hw := EV_with_spec (K := fun r9 h8 => EV_findVectors_4 g h8 e r9 (mw (t + 1)) (some p) K) hG he (h := h3) (c := c) (p := p) (by rw [eN]; exact ⟨hn, hN⟩) ht3 (f1.dg W) p0 (by rw [eN]; exact p1) (by
            rw [mwi (by omega) (by omega)]
            rw [eN]
            refine ih h3 _ (inc c p) (by omega) (fun a ha => (o3 a ha).trans (ho a ha)) ?_ ?_
            · rw [show (t + 1).toNat = t.toNat + 1 by omega]
              exact ⟨p, c, p0, p1, hp, hc, rfl⟩
            · -- equations on one event more
              have old : ∀ r m q, 0 ≤ r → r < cN C → 0 ≤ m → m < c r → 0 ≤ q → q < cN C → vx h3 e r m q = vx h2 e r m q := by
                intro r m q r0 r1 m0 m1 q0 q1
                unfold vx
                rw [← hh3]
                have := f1 r
                have := W.sz r
                refine if_neg (fun z => ?_)
                obtain ⟨-, z1, z2⟩ := z
                have e1 : 9 * r + m = 9 * p + c p := by omega
                have e2 : r = p := by omega
                subst e2
                omega
              have new : ∀ q, 0 ≤ q → q < cN C → vx h3 e p (c p) q = fvV h2 e p (c p) q := by
                intro q q0 q1
                unfold vx
                rw [← hh3]
                refine (if_pos ⟨rfl, by omega, by omega⟩).trans ?_
                congr 1; omega
              intro r m q r0 r1 m0 m1 q0 q1
              have hr := f1 r
              by_cases isnew : r = p ∧ m = c p
              · obtain ⟨e1, e2⟩ := isnew
                subst e1
                subst e2
                rw [new q q0 q1]
                unfold fvV
                rw [ra, rb, rd]
                by_cases eq : q = r
                · rw [if_pos eq, if_pos eq]; exact ⟨by omega, rfl⟩
                · rw [if_neg eq, if_neg eq]
                  have prev : 0 ≤ (if c r = 0 then 0 else h2 (e + 5) (4 * (9 * r + (c r - 1)) + q)) ∧ (if c r = 0 then 0 else h2 (e + 5) (4 * (9 * r + (c r - 1)) + q)) = (if c r = 0 then 0 else vx h3 e r (c r - 1) q) := by
                    split
                    · exact ⟨Int.le_refl _, rfl⟩
                    · rw [old r (c r - 1) q r0 r1 (by omega) (by omega) q0 q1]
                      exact ⟨(hv r (c r - 1) q r0 r1 (by omega) (by omega) q0 q1).1, rfl⟩
                  by_cases hk : cK C r (c r) = 2
                  · rw [if_pos hk, if_pos hk]
                    have hnth := P r (c r) r0 r1 hcp.1 hc.1 hk
                    rcases W.2.2.2.2.2 r (c r) r0 r1 hcp.1 hc.1 with ⟨z, -⟩ | ⟨-, b1, b2, b3⟩
                    · omega
                    · have hlt := (isNth_lt hnth (f1 (cD C r (c r))).1).mpr (hc.2 hk)
                      rw [old (cD C r (c r)) (cPt C r (c r)) q b1 b2 hnth.1 hlt q0 q1]
                      have n1 := (hv (cD C r (c r)) (cPt C r (c r)) q b1 b2 hnth.1 hlt q0 q1).1
                      rw [← prev.2]
                      unfold vx
                      exact ⟨by omega, rfl⟩
                  · rw [if_neg hk, if_neg hk, ← prev.2]
                    exact ⟨prev.1, by omega⟩
              · have m2 : m < c r := by
                  by_cases e1 : r = p
                  · subst e1
                    rw [inc_at] at m1
                    have : ¬ m = c r := fun z => isnew ⟨rfl, z⟩
                    omega
                  · rw [inc_ne e1] at m1; exact m1
                obtain ⟨v1, v2⟩ := hv r m q r0 r1 m0 m2 q0 q1
                rw [old r m q r0 r1 m0 m2 q0 q1]
                refine ⟨v1, v2.trans ?_⟩
                by_cases eq : q = r
                · rw [if_pos eq, if_pos eq]
                · rw [if_neg eq, if_neg eq]
                  congr 1
                  · by_cases e0 : m = 0
                    · rw [if_pos e0, if_pos e0]
                    · rw [if_neg e0, if_neg e0, old r (m - 1) q r0 r1 (by omega) (by omega) q0 q1]
                  · by_cases hk : cK C r m = 2
                    · rw [if_pos hk, if_pos hk]
                      have hnth := P r m r0 r1 m0 (by omega) hk
                      rcases W.2.2.2.2.2 r m r0 r1 m0 (by omega) with ⟨z, -⟩ | ⟨-, b1, b2, b3⟩
                      · omega
                      · have hcc := f2 r (cD C r m) r0 r1 b1 b2
                        have h5 := cOf_lt (C := C) (p := r) (K := 2) (q := cD C r m) m0 m2 hk rfl
                        have hlt := (isNth_lt hnth (f1 (cD C r m)).1).mpr (by omega)
                        rw [old (cD C r m) (cPt C r m) q b1 b2 hnth.1 hlt q0 q1]
                    · rw [if_neg hk, if_neg hk])
          rw [eN] at hw
          exact hw
      · refine kf (stuck f1 (by omega) (fun p p0 p1 hc => ?_)) h2 ho
        exact (mem p p0 (by omega)).mpr ⟨p1, hc⟩ (hz p p0 (by omega))
  have h0 := key 0 hT h none (fun _ => 0) (Int.le_refl _) (fun _ _ => rfl) (fun p => rfl) (fun p k q p0 p1 k0 k1 => by have k2 : k < 0 := k1; omega)
  have ez : en (cN C) (fun _ => 0) = 0 := by
    unfold en
    simp
  rw [ez] at h0
  exact h0
end EV
