/-! the model lays partners and vectors -/
section MD
variable {sw : Bool} {g : Nat → Nat → Nat} {h : Nat → Int → Int} {C : Cmp} {c : Int → Int} {w : Wsh}
theorem MD_layPartners_spec (hG : Gok sw g) (R : MdR h C) (W : Wf C) {K : (Nat → Int → Int) → Prop} (k : ∀ h', (∀ b, ¬ b = 72 → h' b = h b) → (∀ p k, 0 ≤ p → p < cN C → 0 ≤ k → k < cS C p → h' 72 (9 * p + k) = cPt C p k) → K h') : MD_layPartners g h K := by
  have hN := W.2.1
  refine MD_layPartners_wp hG ?_
  have inner : ∀ p, 0 ≤ p → p < cN C → (∀ h' u2 u3 u4, (∀ b, ¬ b = 72 → h' b = h b) → (∀ r k, 0 ≤ r → r < p + 1 → 0 ≤ k → k < cS C r → h' 72 (9 * r + k) = cPt C r k) → MD_layPartners_2 g h' (p + 1) u2 u3 u4 K) →
      ∀ m : Int, m ≤ cS C p → ∀ h' u3 u4, 0 ≤ m → (∀ b, ¬ b = 72 → h' b = h b) → (∀ r k, 0 ≤ r → (r < p ∨ r = p ∧ k < m) → 0 ≤ k → k < cS C r → h' 72 (9 * r + k) = cPt C r k) → MD_layPartners_12 g h' p m u3 u4 K := by
    intro p p0 p1 next
    have hs := W.sz p
    refine up_ind ?_ ?_
    · intro h' u3 u4 m0 F D
      have R' : MdR h' C := R.keep (by rw [F 68 (by omega)]) (F 69 (by omega)) (F 70 (by omega)) (F 71 (by omega))
      refine MD_layPartners_12_wp hG ⟨⟨p0, by omega⟩, fun _ => ?_, fun z => absurd z (by rw [R'.2.1 p p0 (by omega)]; omega)⟩
      rw [mwi (by omega) (by omega)]
      refine next _ _ _ _ F (fun r k r0 r1 k0 k1 => D r k r0 ?_ k0 k1)
      by_cases e : r = p
      · subst e; exact Or.inr ⟨rfl, k1⟩
      · exact Or.inl (by omega)
    · intro m hm ih h' u3 u4 m0 F D
      have R' : MdR h' C := R.keep (by rw [F 68 (by omega)]) (F 69 (by omega)) (F 70 (by omega)) (F 71 (by omega))
      obtain ⟨r1, r2⟩ := R'.2.2 p m p0 p1 m0 hm
      refine MD_layPartners_12_wp hG ⟨⟨p0, by omega⟩, fun z => absurd z (by rw [R'.2.1 p p0 (by omega)]; omega), fun _ => ?_⟩
      simp (disch := omega) only [mwi, forall_eq, bd, r1, r2]
      have fin : ∀ x u3 u4, x = cPt C p m → MD_layPartners_12 g (mvUpd h' 72 (9 * p + m) x) p (m + 1) u3 u4 K := by
        intro x u3 u4 hx
        refine ih _ u3 u4 (by omega) (fun b nb => by rw [upd_ob nb]; exact F b nb) (fun r k r0 rk k0 k1 => ?_)
        have hr := W.sz r
        by_cases e : r = p ∧ k = m
        · rw [e.1, e.2, upd_at]; exact hx
        · rw [upd_ix (fun z => e (by omega))]
          refine D r k r0 ?_ k0 k1
          rcases rk with y | ⟨y, y2⟩
          · exact Or.inl y
          · refine Or.inr ⟨y, ?_⟩
            by_cases em : k = m
            · exact absurd ⟨y, em⟩ e
            · omega
      refine MD_of_spec hG p0 (by omega) m0 (by omega) (R'.of p0 p1 (by omega)) ?_
      simp (disch := omega) only [bd, r1, r2, mwi]
      refine ⟨fun n => ?_, fun y => fin _ _ _ (by unfold cPt; rw [if_pos y])⟩
      rcases W.2.2.2.2.2 p m p0 p1 m0 hm with ⟨z, -⟩ | ⟨z, b1, b2, b3⟩
      · exact absurd z n
      · rw [mwi (by omega) (by omega)]
        refine MD_nthOf_spec hG R' W b1 b2 (fin _ _ _ ?_)
        unfold cPt
        rw [if_neg n]
  have outer : ∀ p : Int, p ≤ cN C → ∀ h' u2 u3 u4, 0 ≤ p → (∀ b, ¬ b = 72 → h' b = h b) → (∀ r k, 0 ≤ r → r < p → 0 ≤ k → k < cS C r → h' 72 (9 * r + k) = cPt C r k) → MD_layPartners_2 g h' p u2 u3 u4 K := by
    refine up_ind ?_ ?_
    · intro h' u2 u3 u4 _ F D
      exact MD_layPartners_2_wp hG ⟨fun _ => k h' F D, fun z => absurd z (by rw [F 68 (by omega), R.1]; omega)⟩
    · intro p hp ih h' u2 u3 u4 p0 F D
      refine MD_layPartners_2_wp hG ⟨fun z => absurd z (by rw [F 68 (by omega), R.1]; omega), fun _ => ?_⟩
      exact inner p p0 hp (fun h' u2 u3 u4 F D => ih h' u2 u3 u4 (by omega) F D) 0 (W.sz p).1 h' _ _ (Int.le_refl _) F (fun r k r0 rk k0 k1 => D r k r0 (by omega) k0 k1)
  exact outer 0 W.1 h _ _ _ (Int.le_refl _) (fun _ _ => rfl) (fun r k r0 r1 => by omega)
/-- the rows of the vectors while they are laid: not above, right on the events of d -/
def VLo (h' : Nat → Int → Int) (C : Cmp) (d : Int → Int) : Prop := ∀ p k q, 0 ≤ p → p < cN C → 0 ≤ k → k < cS C p → 0 ≤ q → q < cN C → 0 ≤ h' 73 (4 * (9 * p + k) + q) ∧ h' 73 (4 * (9 * p + k) + q) ≤ vec C p k q ∧ (k < d p → h' 73 (4 * (9 * p + k) + q) = vec C p k q)
theorem vec_nn (V : Valid C) (iV : IsV C (vec C)) {p k q : Int} (p0 : 0 ≤ p) (p1 : p < cN C) (k0 : 0 ≤ k) (k1 : k < cS C p) (q0 : 0 ≤ q) (q1 : q < cN C) : 0 ≤ vec C p k q ∧ vec C p k q ≤ cS C q := by
  obtain ⟨m, hm⟩ := full_pth V
  exact iV.le V m _ hm p k q p0 p1 k0 k1 q0 q1
/-- what a send knows of the process that receives it -/
theorem vec_recv (V : Valid C) (iV : IsV C (vec C)) {p k : Int} (p0 : 0 ≤ p) (p1 : p < cN C) (k0 : 0 ≤ k) (k1 : k < cS C p) (hk : cK C p k = 2) : vec C (cD C p k) (cPt C p k) p ≤ k := by
  have W := V.1
  obtain ⟨m, hm⟩ := full_pth V
  have key : ∀ (m : Nat) (d : Int → Int), Pth C m d → k < d p → vec C (cD C p k) (cPt C p k) p ≤ k := by
    intro m
    induction m with
    | zero => intro d hd hl; rw [hd p] at hl; omega
    | succ m ih =>
      intro d hd hl
      obtain ⟨x, e, x0, x1, he, hx, rfl⟩ := hd
      by_cases old : k < e p
      · exact ih e he old
      · have ex : p = x := by
          by_cases ex : p = x
          · exact ex
          · rw [inc_ne ex] at hl; omega
        subst ex
        rw [inc_at] at hl
        have ek : k = e p := by omega
        obtain ⟨D1, D2, D3⟩ := Pth.fin W m e he
        have hn := recv_pt V p0 p1 k0 k1 hk
        have hl2 := (isNth_lt hn (D1 (cD C p k)).1).mpr (by have := hx.2; rw [← ek] at this; exact this hk)
        rcases W.2.2.2.2.2 p k p0 p1 k0 k1 with ⟨z, -⟩ | ⟨-, b1, b2, b3⟩
        · omega
        · have := (iV.le V m e he (cD C p k) (cPt C p k) p b1 b2 hn.1 hl2 p0 p1).2
          omega
  exact key m _ hm k1
theorem MD_layVector_spec (hG : Gok sw g) (R : MdR h C) (V : Valid C) (iV : IsV C (vec C)) (P : ∀ p k, 0 ≤ p → p < cN C → 0 ≤ k → k < cS C p → h 72 (9 * p + k) = cPt C p k) {d : Int → Int} (hv : VLo h C d) {p k : Int} {K : (Nat → Int → Int) → Prop} (p0 : 0 ≤ p) (p1 : p < cN C) (k0 : 0 ≤ k) (k1 : k < cS C p)
    (kk : ∀ h', (∀ b, ¬ b = 73 → h' b = h b) → VLo h' C d → (∀ d', (∀ q, d' q = if q = p then max (d q) (k + 1) else d q) → (k ≤ d p) → (cK C p k = 2 → cPt C p k < d (cD C p k)) → VLo h' C d') → K h') : MD_layVector g h p k K := by
  have W := V.1
  have hN := W.2.1
  have hs := W.sz p
  refine MD_layVector_wp hG ?_
  simp (disch := omega) only [mwi, forall_eq, bd]
  obtain ⟨r1, r2⟩ := R.2.2 p k p0 p1 k0 k1
  have r3 := P p k p0 p1 k0 k1
  have own := iV.own p0 p1 k0 k1
  have key : ∀ q : Int, q ≤ cN C → ∀ h' u1 u5 u6 u7, 0 ≤ q → (∀ b, ¬ b = 73 → h' b = h b) → VLo h' C d → h' 73 (4 * (9 * p + k) + p) = k + 1 → (k ≤ d p → (cK C p k = 2 → cPt C p k < d (cD C p k)) → ∀ r, 0 ≤ r → r < q → h' 73 (4 * (9 * p + k) + r) = vec C p k r) → MD_layVector_23 g h' u1 k (9 * p + k) q u5 u6 u7 K := by
    refine up_ind ?_ ?_
    · intro h' u1 u5 u6 u7 _ F L O E
      refine MD_layVector_23_wp hG ⟨fun _ => kk h' F L (fun d' hd' c1 c2 => ?_), fun z => absurd z (by rw [F 68 (by omega), R.1]; omega)⟩
      intro r m q a0 a1 b0 b1 e0 e1
      obtain ⟨l1, l2, l3⟩ := L r m q a0 a1 b0 b1 e0 e1
      refine ⟨l1, l2, fun hm => ?_⟩
      by_cases isn : r = p ∧ m = k
      · rw [isn.1, isn.2]; exact E c1 c2 q e0 e1
      · refine l3 ?_
        rw [hd'] at hm
        split at hm
        · rename_i er
          subst er
          have : ¬ m = k := fun z => isn ⟨rfl, z⟩
          omega
        · exact hm
    · intro q hq ih h' u1 u5 u6 u7 q0 F L O E
      have f70 : h' 70 (9 * p + k) = cK C p k := by rw [F 70 (by omega)]; exact r1
      have f71 : h' 71 (9 * p + k) = cD C p k := by rw [F 71 (by omega)]; exact r2
      have f72 : h' 72 (9 * p + k) = cPt C p k := by rw [F 72 (by omega)]; exact r3
      obtain ⟨l1, l2, l3⟩ := L p k q p0 p1 k0 k1 q0 hq
      have vq := iV p k q p0 p1 k0 k1 q0 hq
      have fin : ∀ x u1 u5 u6 u7, 0 ≤ x → x ≤ vec C p k q → (q = p → x = k + 1) → (k ≤ d p → (cK C p k = 2 → cPt C p k < d (cD C p k)) → x = vec C p k q) → (k < d p → x = vec C p k q) → MD_layVector_23 g (mvUpd h' 73 (4 * (9 * p + k) + q) x) u1 k (9 * p + k) (q + 1) u5 u6 u7 K := by
        intro x u1 u5 u6 u7 x0 x1 xp xe xk
        refine ih _ u1 u5 u6 u7 (by omega) (fun b nb => by rw [upd_ob nb]; exact F b nb) ?_ ?_ ?_
        · intro r m s a0 a1 b0 b1 e0 e1
          have hr := W.sz r
          by_cases isn : r = p ∧ m = k ∧ s = q
          · obtain ⟨e1, e2, e3⟩ := isn
            rw [e1, e2, e3, upd_at]
            exact ⟨x0, x1, xk⟩
          · rw [upd_ix (fun z => isn (by omega))]
            exact L r m s a0 a1 b0 b1 e0 e1
        · by_cases e : q = p
          · rw [e, upd_at]; exact xp e
          · rw [upd_ix (fun z => e (by omega))]; exact O
        · intro c1 c2 r r0 r1
          by_cases e : r = q
          · rw [e, upd_at]; exact xe c1 c2
          · rw [upd_ix (fun z => e (by omega))]; exact E c1 c2 r r0 (by omega)
      -- what the two that are looked at hold
      have tail : ∀ a s u1, 0 ≤ a → 0 ≤ s → a ≤ (if q = p then k else (if k = 0 then 0 else vec C p (k - 1) q)) → s ≤ (if q = p then k else (if cK C p k = 2 then vec C (cD C p k) (cPt C p k) q else 0)) → (k ≤ d p → ¬ q = p → a = (if k = 0 then 0 else vec C p (k - 1) q)) → ((cK C p k = 2 → cPt C p k < d (cD C p k)) → ¬ q = p → s = (if cK C p k = 2 then vec C (cD C p k) (cPt C p k) q else 0)) →
          MD_layVector_110 g h' u1 k (9 * p + k) q (h' 73 (4 * (9 * p + k) + q)) a s K := by
        intro a s u1 a0 s0 ab sb ae se
        have all : ∀ x, x = max (max (h' 73 (4 * (9 * p + k) + q)) a) s → ∀ u1 u5 u6 u7, MD_layVector_23 g (mvUpd h' 73 (4 * (9 * p + k) + q) x) u1 k (9 * p + k) (q + 1) u5 u6 u7 K := by
          intro x hx u1 u5 u6 u7
          by_cases e : q = p
          · rw [if_pos e] at ab sb vq
            have O2 : h' 73 (4 * (9 * p + k) + q) = k + 1 := by rw [e]; exact O
            exact fin x u1 u5 u6 u7 (by omega) (by omega) (fun _ => by omega) (fun _ _ => by omega) (fun _ => by omega)
          · rw [if_neg e] at ab sb vq
            refine fin x u1 u5 u6 u7 (by omega) (by omega) (fun z => absurd z e) (fun c1 c2 => ?_) (fun c1 => ?_)
            · have := ae c1 e
              have := se c2 e
              omega
            · have := l3 c1
              omega
        refine MD_layVector_110_wp hG ⟨fun z => MD_layVector_126_wp hG ⟨fun z2 => ?_, fun z2 => ?_⟩, fun z => MD_layVector_126_wp hG ⟨fun z2 => ?_, fun z2 => ?_⟩⟩
        · simp (disch := omega) only [mwi, forall_eq, bd]
          exact all _ (by omega) _ _ _ _
        · simp (disch := omega) only [mwi, forall_eq, bd]
          exact all _ (by omega) _ _ _ _
        · simp (disch := omega) only [mwi, forall_eq, bd]
          exact all _ (by omega) _ _ _ _
        · simp (disch := omega) only [mwi, forall_eq, bd]
          exact all _ (by omega) _ _ _ _
      have send : ∀ a u1 u7, 0 ≤ a → a ≤ (if q = p then k else (if k = 0 then 0 else vec C p (k - 1) q)) → (k ≤ d p → ¬ q = p → a = (if k = 0 then 0 else vec C p (k - 1) q)) → MD_layVector_68 g h' u1 k (9 * p + k) q (h' 73 (4 * (9 * p + k) + q)) a u7 K := by
        intro a u1 u7 a0 ab ae
        refine MD_layVector_68_wp hG ?_
        simp (disch := omega) only [bd, f70, f71, f72]
        refine ⟨fun n => ?_, fun y => ?_⟩
        · refine tail a 0 u1 a0 (Int.le_refl _) ab ?_ ae (fun _ _ => by rw [if_neg n])
          rw [if_neg n]
          split <;> omega
        · rcases W.2.2.2.2.2 p k p0 p1 k0 k1 with ⟨z, -⟩ | ⟨-, b1, b2, b3⟩
          · omega
          · have hn := recv_pt V p0 p1 k0 k1 y
            have hs2 := W.sz (cD C p k)
            have h1 := hn.1
            have h2 := hn.2.1
            obtain ⟨m1, m2, m3⟩ := L (cD C p k) (cPt C p k) q b1 b2 h1 h2 q0 hq
            simp (disch := omega) only [mwi, forall_eq, bd]
            refine tail a _ u1 a0 m1 ab ?_ ae (fun c2 _ => by rw [if_pos y]; exact m3 (c2 y))
            split
            · rename_i e
              rw [e] at m2 ⊢
              have := vec_recv V iV p0 p1 k0 k1 y
              omega
            · exact m2
      refine MD_layVector_23_wp hG ⟨fun z => absurd z (by rw [F 68 (by omega), R.1]; omega), fun _ => ?_⟩
      simp (disch := omega) only [mwi, forall_eq, bd]
      refine ⟨fun z => ?_, fun z => ?_⟩
      · refine send 0 u1 u7 (Int.le_refl _) ?_ (fun _ _ => by rw [if_pos (by omega)])
        split
        · omega
        · rw [if_pos (by omega)]; exact Int.le_refl _
      · obtain ⟨m1, m2, m3⟩ := L p (k - 1) q p0 p1 (by omega) (by omega) q0 hq
        have e1 : 9 * p + k - 1 = 9 * p + (k - 1) := by omega
        rw [e1]
        simp (disch := omega) only [mwi, forall_eq, bd]
        refine send _ u1 u7 m1 ?_ (fun c1 _ => by rw [if_neg (by omega)]; exact m3 (by omega))
        split
        · rename_i e
          rw [e] at m2 ⊢
          have := iV.own (k := k - 1) p0 p1 (by omega) (by omega)
          omega
        · rw [if_neg (by omega)]; exact m2
  have h1 := key 0 W.1 (mvUpd h 73 (4 * (9 * p + k) + p) (k + 1)) (some p) none none none (Int.le_refl _) (fun b nb => upd_ob nb) ?_ upd_at (fun _ _ r r0 r1 => by omega)
  · exact h1
  · intro r m s a0 a1 b0 b1 e0 e1
    have hr := W.sz r
    by_cases isn : r = p ∧ m = k ∧ s = p
    · obtain ⟨e1, e2, e3⟩ := isn
      rw [e1, e2, e3, upd_at, own]
      exact ⟨by omega, Int.le_refl _, fun _ => rfl⟩
    · rw [upd_ix (fun z => isn (by have : s = p := by omega
                                   omega))]
      exact hv r m s a0 a1 b0 b1 e0 e1
end MD
