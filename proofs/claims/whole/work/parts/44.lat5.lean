/-! paths from a cut to the last -/
theorem full_cut {C : Cmp} (V : Valid C) : In C (cS C) ∧ Cons C (cS C) := by
  obtain ⟨W, f, w, O⟩ := V
  have key : ∀ m : Nat, (m : Int) ≤ cT C → Pth C m (f m) := by
    intro m
    induction m with
    | zero => intro _; exact O.1
    | succ m ih =>
      intro hm
      obtain ⟨a1, a2, a3, a4⟩ := O.2.1 m (by omega)
      exact ⟨w m, f m, a1, a2, ih (by omega), a3, a4⟩
  have hT : 0 ≤ cT C := by
    have a0 := W.sz 0; have a1 := W.sz 1; have a2 := W.sz 2; have a3 := W.sz 3
    unfold cT; omega
  have e : f (cT C).toNat = cS C := funext (O.2.2 (cT C).toNat (by omega))
  have p := (key (cT C).toNat (by omega)).fin W
  rw [e] at p
  exact ⟨p.1, p.2.1⟩
theorem lev_le {C : Cmp} {c : Int → Int} (hi : In C c) : lev c ≤ cT C := by
  have := hi 0; have := hi 1; have := hi 2; have := hi 3
  unfold lev cT; omega
theorem lev_cT {C : Cmp} (W : Wf C) {c : Int → Int} (hi : In C c) (h : lev c = cT C) : c = cS C := by
  have hN := W.2.1
  unfold lev cT at h
  have := hi 0; have := hi 1; have := hi 2; have := hi 3
  funext p
  by_cases hp : 0 ≤ p ∧ p < 4
  · rcases (show p = 0 ∨ p = 1 ∨ p = 2 ∨ p = 3 by omega) with rfl | rfl | rfl | rfl <;> omega
  · rw [hi.out W (by omega), W.2.2.2.1 p (by omega)]
noncomputable def pfn (C : Cmp) : Nat → (Int → Int) → Int
  | 0, _ => 1
  | m + 1, c => it (fun p s => pick (canF C c p) (mw (s + pfn C m (inc c p))) s) 0 (cN C)
/-- how many paths go on from a cut to the last (as a number of 32 bits) -/
noncomputable def pfc (C : Cmp) (c : Int → Int) : Int := pfn C (cT C - lev c).toNat c
noncomputable def pfp (C : Cmp) (c : Int → Int) (k : Int) : Int := it (fun p s => pick (canF C c p) (mw (s + pfc C (inc c p))) s) 0 k
theorem pfp_s {C : Cmp} {c : Int → Int} {k : Int} (h : 0 ≤ k) : pfp C c (k + 1) = pick (canF C c k) (mw (pfp C c k + pfc C (inc c k))) (pfp C c k) := by unfold pfp; rw [it_s h]
theorem pfc_s {C : Cmp} (W : Wf C) {c : Int → Int} (h : lev c < cT C) : pfc C c = pfp C c (cN C) := by
  have hN := W.2.1
  have e : pfc C c = pfn C ((cT C - lev c - 1).toNat + 1) c := by unfold pfc; rw [show (cT C - lev c).toNat = (cT C - lev c - 1).toNat + 1 by omega]
  rw [e]
  refine it_congr (fun q s q0 q1 => ?_)
  have e2 : pfc C (inc c q) = pfn C (cT C - lev c - 1).toNat (inc c q) := by unfold pfc; rw [lev_inc q0 (by omega), show cT C - (lev c + 1) = cT C - lev c - 1 by omega]
  simp only [e2]
noncomputable def pv (C : Cmp) (j : Int) : Int := pick (Cons C (ctI C j)) (pfc C (ctI C j)) 0
def PfI (C : Cmp) (i p : Int) (w : Int → Int) : Prop := ∀ j, 0 ≤ j → j < NP C → w j = if i < j then pv C j else if j = NP C - 1 then 1 else if j = i then pfp C (ctI C i) p else 0
theorem ct_last {C : Cmp} (V : Valid C) : ctI C (NP C - 1) = cS C := by
  rw [← ixc_full]; exact ctI_ixc V.1 (full_cut V).1
theorem lev_cS {C : Cmp} : lev (cS C) = cT C := rfl
theorem pv_last {C : Cmp} (V : Valid C) : pv C (NP C - 1) = 1 := by
  unfold pv
  rw [ct_last V, pick_t (full_cut V).2]
  unfold pfc
  rw [lev_cS, Int.sub_self]; rfl
theorem not_last {C : Cmp} (V : Valid C) {i : Int} (i0 : 0 ≤ i) (i1 : i < NP C) (h : lev (ctI C i) = cT C) : i = NP C - 1 := by
  have e := lev_cT V.1 (ctI_in V.1 i0 i1) h
  rw [← ixc_ctI (C := C) (x := i), e, ixc_full]
theorem PfI.start {C : Cmp} {w : Int → Int} (h : ∀ j, 0 ≤ j → j < NP C → w j = if j = NP C - 1 then 1 else 0) : PfI C (NP C - 1) 0 w := fun j j0 j1 => by
  rw [h j j0 j1, if_neg (c := NP C - 1 < j) (by omega)]
  by_cases e : j = NP C - 1
  · rw [if_pos e, if_pos e]
  · rw [if_neg e, if_neg e, if_neg e]
theorem PfI.no {C : Cmp} {i p : Int} {w : Int → Int} (h : PfI C i p w) (p0 : 0 ≤ p) (hc : ¬ canF C (ctI C i) p) : PfI C i (p + 1) w := fun j j0 j1 => by rw [h j j0 j1, pfp_s p0, pick_f hc]
theorem PfI.yes {C : Cmp} (V : Valid C) {i p : Int} {w w' : Int → Int} (h : PfI C i p w) (i0 : 0 ≤ i) (i1 : i < NP C) (p0 : 0 ≤ p) (p1 : p < cN C) (hk : Cons C (ctI C i)) (hc : canF C (ctI C i) p) (e1 : w' i = mw (w i + w (i + st C p))) (e2 : ∀ j, ¬ j = i → w' j = w j) : PfI C i (p + 1) w' := by
  have W := V.1
  have hN := W.2.1
  have hi := ctI_in W i0 i1
  obtain ⟨c1, c2⟩ := ctI_inc W i0 i1 p0 (by omega) hc.1
  have sp := st_pos W p
  intro j j0 j1
  by_cases e : j = i
  · have nl : ¬ i = NP C - 1 := by omega
    have n : w (i + st C p) = pfc C (inc (ctI C i) p) := by
      rw [h _ (by omega) c2, if_pos (by omega)]
      unfold pv
      rw [c1, pick_t ((Cons_inc W hi hk p0 p1 hc.1).mpr hc)]
    have m : w i = pfp C (ctI C i) p := by rw [h i i0 i1, if_neg (by omega), if_neg nl, if_pos rfl]
    rw [e, e1, n, m, if_neg (by omega), if_neg nl, if_pos rfl, pfp_s p0, pick_t hc]
  · rw [e2 j e, h j j0 j1, if_neg e, if_neg e]
theorem PfI.next {C : Cmp} (V : Valid C) {i : Int} {w : Int → Int} (h : PfI C i (cN C) w) (i0 : 0 ≤ i) (i1 : i < NP C) (hk : Cons C (ctI C i)) : PfI C (i - 1) 0 w := by
  intro j j0 j1
  rw [h j j0 j1]
  by_cases e : j = i
  · rw [if_neg (by omega), if_pos (c := i - 1 < j) (by omega), e]
    by_cases l : i = NP C - 1
    · rw [if_pos l, l, pv_last V]
    · have hl : lev (ctI C i) < cT C := by
        have := lev_le (ctI_in V.1 i0 i1)
        by_cases q : lev (ctI C i) = cT C
        · exact absurd (not_last V i0 i1 q) l
        · omega
      rw [if_neg l, if_pos rfl, ← pfc_s V.1 hl]
      unfold pv
      rw [pick_t hk]
  · by_cases l : i < j
    · rw [if_pos l, if_pos (by omega)]
    · rw [if_neg l, if_neg (c := i - 1 < j) (by omega), if_neg e]
      by_cases l2 : j = NP C - 1
      · rw [if_pos l2, if_pos l2]
      · rw [if_neg l2, if_neg l2]
        split
        · rfl
        · rfl
theorem PfI.nextz {C : Cmp} (V : Valid C) {i : Int} {w : Int → Int} (h : PfI C i 0 w) (i0 : 0 ≤ i) (i1 : i < NP C) (hk : ¬ Cons C (ctI C i)) : PfI C (i - 1) 0 w := by
  intro j j0 j1
  rw [h j j0 j1]
  by_cases e : j = i
  · rw [if_neg (by omega), if_pos (c := i - 1 < j) (by omega), e]
    by_cases l : i = NP C - 1
    · rw [l, ct_last V] at hk; exact absurd (full_cut V).2 hk
    · rw [if_neg l, if_pos rfl]
      unfold pv
      rw [pick_f hk]; rfl
  · by_cases l : i < j
    · rw [if_pos l, if_pos (by omega)]
    · rw [if_neg l, if_neg (c := i - 1 < j) (by omega), if_neg e]
      by_cases l2 : j = NP C - 1
      · rw [if_pos l2, if_pos l2]
      · rw [if_neg l2, if_neg l2]
        split
        · rfl
        · rfl
theorem PfI.done {C : Cmp} {p : Int} {w : Int → Int} (h : PfI C (-1) p w) : ∀ j, 0 ≤ j → j < NP C → w j = pv C j := fun j j0 j1 => by rw [h j j0 j1, if_pos (by omega)]
section LT
variable {sw : Bool} {g : Nat → Nat → Nat} {h : Nat → Int → Int} {a e : Nat} {C : Cmp} {c : Int → Int}
theorem LtN.keep {h h' : Nat → Int → Int} (L : LtN a h C) (h0 : h' a 2 = h a 2) (h2 : h' (a + 2) = h (a + 2)) (h3 : h' (a + 3) = h (a + 3)) : LtN a h' C := by
  unfold LtN at *
  rw [h0, h2, h3]; exact L
theorem LT_countPathsTo_spec (hG : Gok sw g) (ha : LtId a) (he : EvId e) (E : EvOk e h C) (L : LtN a h C) {K : (Nat → Int → Int) → Prop} (k : ∀ h', (∀ b, ¬ b = a + 5 → h' b = h b) → (∀ j, 0 ≤ j → j < NP C → h' (a + 5) j = npc C (ctI C j)) → K h') : LT_countPathsTo g h a e K := by
  have V := E.2.2.1
  have W := V.1
  have hN := W.2.1
  have hn := E.2.2.2.2.1
  have dj := lt_ev ha he
  have nle := NP_le W
  refine LT_countPathsTo_wp hG ha he ?_
  refine AR_fill_spec hG (miA5 ha) (by decide) ?_
  rintro h2 rfl
  have outer : ∀ i, i ≤ NP C → 0 ≤ i → ∀ h', (∀ b, ¬ b = a + 5 → h' b = h b) → WtI C i 0 (h' (a + 5)) → ∀ u, LT_countPathsTo_17 g h' a e i u K := by
    refine up_ind ?_ ?_
    · intro _ h' F I u
      refine LT_countPathsTo_17_wp hG ha he ⟨fun _ => k h' F (I.done W), fun z => absurd z (by rw [F a (by omega), L.1]; omega)⟩
    · intro i hi ih i0 h' F I u
      have ci := ctI_in W i0 hi
      refine LT_countPathsTo_17_wp hG ha he ⟨fun z => absurd z (by rw [F a (by omega), L.1]; omega), fun _ => ?_⟩
      have inner : ∀ p, p ≤ cN C → 0 ≤ p → ∀ h', (∀ b, ¬ b = a + 5 → h' b = h b) → WtI C i p (h' (a + 5)) → LT_countPathsTo_27 g h' a e i p K := by
        refine up_ind ?_ ?_
        · intro _ h' F I
          refine LT_countPathsTo_27_wp hG ha he ⟨fun _ => ?_, fun z => absurd z (by rw [F e (by omega), E.1.1]; omega)⟩
          rw [mwi (z := i + 1) (by omega) (by omega)]
          exact ih (by omega) h' F I.next _
        · intro p hp ih2 p0 h' F I
          have E' := E.keep (h' := h') (fun b hb => F b (by omega))
          refine LT_countPathsTo_27_wp hG ha he ⟨fun z => absurd z (by rw [F e (by omega), E.1.1]; omega), fun _ => ⟨⟨i0, by omega⟩, fun hz => ?_, fun hz => ⟨⟨i0, by omega⟩, ?_⟩⟩⟩
          · rw [mwi (z := i + 1) (by omega) (by omega)]
            rw [I.here W i0 hi] at hz
            exact ih (by omega) h' F (I.nextz V i0 hi p0 (by omega) (fun y => by have := (npc_pos V ci).mpr y; omega)) _
          · rw [I.here W i0 hi] at hz
            have hk := (npc_pos V ci).mp hz
            rw [F (a + 3) (by omega), L.2.2 i i0 hi]
            refine EV_canFollow_spec hG he E' ci p0 hp (fun cf => ⟨fun z => absurd z (by decide), fun _ => ?_⟩) (fun cf => ⟨fun _ => ?_, fun z => absurd rfl z⟩)
            · obtain ⟨c1, c2⟩ := ctI_inc W i0 hi p0 (by omega) cf.1
              have sp := st_pos W p
              rw [F (a + 2) (by omega), L.2.1 p p0 hp, mwi (z := i + st C p) (by omega) (by omega), mwi (z := p + 1) (by omega) (by omega)]
              refine ⟨⟨p0, by omega⟩, ⟨by omega, by omega⟩, ⟨i0, by omega⟩, ⟨by omega, by omega⟩, ?_⟩
              rintro h3 rfl
              exact ih2 (by omega) _ (fun b hb => by rw [upd_ob hb]; exact F b hb) (I.yes W i0 hi p0 hp cf upd_at (fun j hj => upd_ix hj))
            · rw [mwi (z := p + 1) (by omega) (by omega)]
              exact ih2 (by omega) h' F (I.no V i0 hi p0 hp (fun z => cf z.2))
      exact inner 0 (by omega) (Int.le_refl _) h' F I
  refine outer 0 (by omega) (Int.le_refl _) _ (fun b hb => ?_) (WtI.start W (fun j j0 j1 => ?_)) _
  · rw [upd_ob hb]
    funext i
    rw [if_neg (fun z => hb z.1)]
  · by_cases ej : j = 0
    · rw [if_pos ej, ej, upd_at]
    · rw [if_neg ej, upd_ix ej, if_pos ⟨rfl, j0, by omega⟩]
theorem LT_countPathsFrom_spec (hG : Gok sw g) (ha : LtId a) (he : EvId e) (E : EvOk e h C) (L : LtN a h C) (T : ∀ j, 0 ≤ j → j < NP C → h (a + 5) j = npc C (ctI C j)) {K : (Nat → Int → Int) → Prop} (k : ∀ h', (∀ b, ¬ b = a + 6 → h' b = h b) → (∀ j, 0 ≤ j → j < NP C → h' (a + 6) j = pv C j) → K h') : LT_countPathsFrom g h a e K := by
  have V := E.2.2.1
  have W := V.1
  have hN := W.2.1
  have hn := E.2.2.2.2.1
  have dj := lt_ev ha he
  have nle := NP_le W
  refine LT_countPathsFrom_wp hG ha he ?_
  refine AR_fill_spec hG (miA6 ha) (by decide) ?_
  have e0 : (if a = a + 6 ∧ (0 : Int) ≤ 2 ∧ (2 : Int) < (625 : Nat) then (0 : Int) else h a 2) = NP C := by rw [if_neg (fun z => by omega)]; exact L.1
  simp only [e0]
  rw [mwi (z := NP C - 1) (by omega) (by omega)]
  refine ⟨⟨by omega, by omega⟩, ?_⟩
  rintro h2 rfl
  rw [upd_ob (b := a) (a := a + 6) (by omega)]
  simp only [e0]
  rw [mwi (z := NP C - 1) (by omega) (by omega)]
  rintro v3 rfl
  have outer : ∀ m, 0 ≤ m → m ≤ NP C → ∀ h', (∀ b, ¬ b = a + 6 → h' b = h b) → PfI C (m - 1) 0 (h' (a + 6)) → ∀ u, LT_countPathsFrom_27 g h' a e (m - 1) u K := by
    refine int_ind ?_ ?_
    · intro _ h' F I u
      exact LT_countPathsFrom_27_wp hG ha he ⟨fun _ => k h' F I.done, fun z => absurd z (by omega)⟩
    · intro i i0 ih hi h' F I u
      rw [show i + 1 - 1 = i by omega] at I ⊢
      have ci := ctI_in W i0 (show i < NP C by omega)
      refine LT_countPathsFrom_27_wp hG ha he ⟨fun z => absurd z (by omega), fun _ => ?_⟩
      have back : ∀ u h', (∀ b, ¬ b = a + 6 → h' b = h b) → PfI C (i - 1) 0 (h' (a + 6)) → LT_countPathsFrom_27 g h' a e (mw (i + -1)) u K := fun u h' F I => by
        rw [mwi (z := i + -1) (by omega) (by omega)]
        exact ih (by omega) h' F I u
      have inner : ∀ p, p ≤ cN C → 0 ≤ p → ∀ h', (∀ b, ¬ b = a + 6 → h' b = h b) → PfI C i p (h' (a + 6)) → (Cons C (ctI C i) ∨ p = 0) → LT_countPathsFrom_33 g h' a e i p K := by
        refine up_ind ?_ ?_
        · intro _ h' F I hk
          refine LT_countPathsFrom_33_wp hG ha he ⟨fun _ => ?_, fun z => absurd z (by rw [F e (by omega), E.1.1]; omega)⟩
          refine back _ h' F ?_
          rcases hk with hk | hk
          · exact I.next V i0 (by omega) hk
          · omega
        · intro p hp ih2 p0 h' F I hk
          have E' := E.keep (h' := h') (fun b hb => F b (by omega))
          have ht : h' (a + 5) i = npc C (ctI C i) := by rw [F (a + 5) (by omega)]; exact T i i0 (by omega)
          refine LT_countPathsFrom_33_wp hG ha he ⟨fun z => absurd z (by rw [F e (by omega), E.1.1]; omega), fun _ => ⟨⟨i0, by omega⟩, fun hz => ?_, fun hz => ⟨⟨i0, by omega⟩, ?_⟩⟩⟩
          · rw [ht] at hz
            have nk : ¬ Cons C (ctI C i) := fun y => by have := (npc_pos V ci).mpr y; omega
            rcases hk with hk | hk
            · exact absurd hk nk
            · rw [hk] at I
              exact back _ h' F (I.nextz V i0 (by omega) nk)
          · rw [ht] at hz
            have hk2 := (npc_pos V ci).mp hz
            rw [F (a + 3) (by omega), L.2.2 i i0 (by omega)]
            refine EV_canFollow_spec hG he E' ci p0 hp (fun cf => ⟨fun z => absurd z (by decide), fun _ => ?_⟩) (fun cf => ⟨fun _ => ?_, fun z => absurd rfl z⟩)
            · obtain ⟨c1, c2⟩ := ctI_inc W i0 (by omega) p0 (by omega) cf.1
              have sp := st_pos W p
              rw [F (a + 2) (by omega), L.2.1 p p0 hp, mwi (z := i + st C p) (by omega) (by omega), mwi (z := p + 1) (by omega) (by omega)]
              refine ⟨⟨i0, by omega⟩, ⟨p0, by omega⟩, ⟨by omega, by omega⟩, ⟨i0, by omega⟩, ?_⟩
              rintro h3 rfl
              exact ih2 (by omega) _ (fun b hb => by rw [upd_ob hb]; exact F b hb) (I.yes V i0 (by omega) p0 hp hk2 cf upd_at (fun j hj => upd_ix hj)) (Or.inl hk2)
            · rw [mwi (z := p + 1) (by omega) (by omega)]
              exact ih2 (by omega) h' F (I.no p0 cf) (Or.inl hk2)
      exact inner 0 (by omega) (Int.le_refl _) h' F I (Or.inr rfl)
  refine outer (NP C) (by omega) (Int.le_refl _) _ (fun b hb => ?_) (PfI.start (fun j j0 j1 => ?_)) _
  · rw [upd_ob hb]
    funext i
    rw [if_neg (fun z => hb z.1)]
  · by_cases ej : j = NP C - 1
    · rw [if_pos ej, ej, upd_at]
    · rw [if_neg ej, upd_ix ej, if_pos ⟨rfl, j0, by omega⟩]
end LT
