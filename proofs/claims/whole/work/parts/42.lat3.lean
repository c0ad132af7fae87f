/-! paths to the cuts, place after place -/
theorem pick_cg {α : Type} {P Q : Prop} {a b : α} (h : P ↔ Q) : pick P a b = pick Q a b := by rw [propext h]
theorem ixc_dec {C : Cmp} {c : Int → Int} {p : Int} (h0 : 0 ≤ p) (h4 : p < 4) : ixc C (dec c p) = ixc C c - st C p := by
  have := ixc_inc (C := C) (c := dec c p) h0 h4
  rw [inc_dec] at this
  omega
theorem ctI_inc {C : Cmp} (W : Wf C) {i p : Int} (i0 : 0 ≤ i) (i1 : i < NP C) (p0 : 0 ≤ p) (p4 : p < 4) (hl : ctI C i p < cS C p) : ctI C (i + st C p) = inc (ctI C i) p ∧ i + st C p < NP C := by
  have hi := (ctI_in W i0 i1).inc hl
  have e : ixc C (inc (ctI C i) p) = i + st C p := by rw [ixc_inc p0 p4, ixc_ctI]
  have r := ixc_r hi
  rw [← e]
  exact ⟨ctI_ixc W hi, r.2⟩
theorem ctI_dec {C : Cmp} (W : Wf C) {j p : Int} (j0 : 0 ≤ j) (j1 : j < NP C) (p0 : 0 ≤ p) (p4 : p < 4) (hl : 0 < ctI C j p) : ctI C (j - st C p) = dec (ctI C j) p ∧ 0 ≤ j - st C p := by
  have hi := (ctI_in W j0 j1).dec hl
  have e : ixc C (dec (ctI C j) p) = j - st C p := by rw [ixc_dec p0 p4, ixc_ctI]
  have r := ixc_r hi
  rw [← e]
  exact ⟨ctI_ixc W hi, r.1⟩
noncomputable def wtv (C : Cmp) (i p j : Int) : Int := if j = 0 then 1 else sumI (fun q => pick (0 < ctI C j q ∧ canF C (dec (ctI C j) q) q ∧ (j - st C q < i ∨ (j - st C q = i ∧ q < p))) (npc C (dec (ctI C j) q)) 0) (cN C)
theorem lev_z {C : Cmp} (W : Wf C) {c : Int → Int} (hi : In C c) (h : lev c = 0) : c = fun _ => 0 := by
  have hN := W.2.1
  unfold lev at h
  have := hi 0; have := hi 1; have := hi 2; have := hi 3
  funext p
  by_cases hp : 0 ≤ p ∧ p < 4
  · rcases (show p = 0 ∨ p = 1 ∨ p = 2 ∨ p = 3 by omega) with rfl | rfl | rfl | rfl <;> omega
  · exact hi.out W (by omega)
theorem lev_ct {C : Cmp} (W : Wf C) {j : Int} (j0 : 0 < j) (j1 : j < NP C) : 0 < lev (ctI C j) := by
  have hi := ctI_in W (by omega) j1
  have l := lev_nn hi
  by_cases h : lev (ctI C j) = 0
  · have e := ixc_ctI (C := C) (x := j)
    rw [lev_z W hi h, show ixc C (fun _ => 0) = 0 by unfold ixc; simp] at e
    omega
  · omega
theorem npc_s {C : Cmp} (W : Wf C) {c : Int → Int} (hi : In C c) (h : 0 < lev c) : npc C c = sumI (fun q => pick (0 < c q ∧ canF C (dec c q) q) (npc C (dec c q)) 0) (cN C) := by
  have hN := W.2.1
  have e : npc C c = np C ((lev c - 1).toNat + 1) c := by unfold npc; rw [show (lev c).toNat = (lev c - 1).toNat + 1 by omega]
  rw [e]
  refine sumI_congr (fun q q0 q1 => ?_)
  have e2 : npc C (dec c q) = np C (lev c - 1).toNat (dec c q) := by unfold npc; rw [lev_dec q0 (by omega)]
  simp only [e2]
theorem wtv_full {C : Cmp} (W : Wf C) {i p j : Int} (j0 : 0 ≤ j) (j1 : j < NP C) (hj : j ≤ i) : wtv C i p j = npc C (ctI C j) := by
  unfold wtv
  by_cases h : j = 0
  · rw [if_pos h, h, ctI_0 W]; rfl
  · rw [if_neg h, npc_s W (ctI_in W j0 j1) (lev_ct W (by omega) j1)]
    refine sumI_congr (fun q q0 q1 => pick_cg ?_)
    have := st_pos W q
    exact ⟨fun z => ⟨z.1, z.2.1⟩, fun z => ⟨z.1, z.2, by omega⟩⟩
theorem wtv_r {C : Cmp} (W : Wf C) {i p j : Int} (j0 : 0 ≤ j) (j1 : j < NP C) : 0 ≤ wtv C i p j ∧ wtv C i p j ≤ npc C (ctI C j) := by
  unfold wtv
  have hi := ctI_in W j0 j1
  by_cases h : j = 0
  · rw [if_pos h, h, ctI_0 W]; exact ⟨by omega, Int.le_refl _⟩
  · rw [if_neg h, npc_s W hi (lev_ct W (by omega) j1)]
    have nn : ∀ q, 0 < ctI C j q → 0 ≤ npc C (dec (ctI C j) q) := fun q hq => (np_lt W (hi.dec hq)).1
    refine ⟨sumI_0 W.1 (fun q q0 q1 => ?_), sumI_le W.1 (fun q q0 q1 => ?_)⟩
    · by_cases c : 0 < ctI C j q ∧ canF C (dec (ctI C j) q) q ∧ (j - st C q < i ∨ (j - st C q = i ∧ q < p))
      · rw [pick_t c]; exact nn q c.1
      · rw [pick_f c]; exact Int.le_refl _
    · by_cases c : 0 < ctI C j q ∧ canF C (dec (ctI C j) q) q ∧ (j - st C q < i ∨ (j - st C q = i ∧ q < p))
      · rw [pick_t c, pick_t ⟨c.1, c.2.1⟩]; exact Int.le_refl _
      · rw [pick_f c]
        by_cases d : 0 < ctI C j q ∧ canF C (dec (ctI C j) q) q
        · rw [pick_t d]; exact nn q d.1
        · rw [pick_f d]; exact Int.le_refl _
theorem wtv_0 {C : Cmp} (W : Wf C) {j : Int} (j0 : 0 ≤ j) (j1 : j < NP C) : wtv C 0 0 j = if j = 0 then 1 else 0 := by
  have hN := W.2.1
  unfold wtv
  by_cases h : j = 0
  · rw [if_pos h, if_pos h]
  · rw [if_neg h, if_neg h]
    refine Eq.trans (sumI_congr (g := fun _ => 0) (fun q q0 q1 => pick_f (fun z => ?_))) (sumI_z _)
    have := (ctI_dec W j0 j1 q0 (by omega) z.1).2
    omega
theorem wtv_next {C : Cmp} {i j : Int} : wtv C i (cN C) j = wtv C (i + 1) 0 j := by
  unfold wtv
  split
  · rfl
  · refine sumI_congr (fun q q0 q1 => pick_cg ?_)
    constructor
    · exact fun z => ⟨z.1, z.2.1, by omega⟩
    · exact fun z => ⟨z.1, z.2.1, by omega⟩
theorem wtv_yes {C : Cmp} (W : Wf C) {i p j : Int} (i0 : 0 ≤ i) (i1 : i < NP C) (p0 : 0 ≤ p) (p1 : p < cN C) (hc : canF C (ctI C i) p) (j0 : 0 ≤ j) (j1 : j < NP C) : wtv C i (p + 1) j = if j = i + st C p then wtv C i p j + npc C (ctI C i) else wtv C i p j := by
  have hN := W.2.1
  have sp := st_pos W p
  by_cases e : j = i + st C p
  · rw [if_pos e]
    obtain ⟨e1, -⟩ := ctI_inc W i0 i1 p0 (by omega) hc.1
    rw [← e] at e1
    unfold wtv
    rw [if_neg (by omega), if_neg (by omega)]
    refine sumI_one W.1 p0 p1 (fun q q0 q1 hq => pick_cg ?_) ?_
    · constructor
      · exact fun z => ⟨z.1, z.2.1, by omega⟩
      · exact fun z => ⟨z.1, z.2.1, by omega⟩
    · have hi := ctI_in W i0 i1 p
      rw [e1, dec_inc, pick_t ⟨by rw [inc_at]; omega, hc, by omega⟩, pick_f (fun z => by have := z.2.2; omega)]
      omega
  · rw [if_neg e]
    unfold wtv
    split
    · rfl
    · refine sumI_congr (fun q q0 q1 => pick_cg ?_)
      by_cases hq : q = p
      · subst hq
        constructor
        · exact fun z => ⟨z.1, z.2.1, by omega⟩
        · exact fun z => ⟨z.1, z.2.1, by omega⟩
      · constructor
        · exact fun z => ⟨z.1, z.2.1, by omega⟩
        · exact fun z => ⟨z.1, z.2.1, by omega⟩
theorem wtv_no {C : Cmp} (V : Valid C) {i p j : Int} (i0 : 0 ≤ i) (i1 : i < NP C) (p0 : 0 ≤ p) (p1 : p < cN C) (hc : ¬ (Cons C (ctI C i) ∧ canF C (ctI C i) p)) (j0 : 0 ≤ j) (j1 : j < NP C) : wtv C i (p + 1) j = wtv C i p j := by
  have W := V.1
  by_cases cf : canF C (ctI C i) p
  · rw [wtv_yes W i0 i1 p0 p1 cf j0 j1]
    have hi := ctI_in W i0 i1
    have nn := (np_lt W hi).1
    have z : npc C (ctI C i) = 0 := by
      have := mt (npc_pos V hi).mp (fun y => hc ⟨y, cf⟩)
      omega
    rw [z]
    split <;> omega
  · have hN := W.2.1
    unfold wtv
    split
    · rfl
    · refine sumI_congr (fun q q0 q1 => pick_cg ?_)
      constructor
      · intro z
        refine ⟨z.1, z.2.1, ?_⟩
        rcases z.2.2 with l | ⟨l1, l2⟩
        · exact Or.inl l
        · by_cases hq : q = p
          · subst hq
            have := (ctI_dec W j0 j1 q0 (by omega) z.1).1
            rw [l1] at this
            exact absurd (by rw [this]; exact z.2.1) cf
          · exact Or.inr ⟨l1, by omega⟩
      · exact fun z => ⟨z.1, z.2.1, by omega⟩
/-- the table of the paths while it is made -/
def WtI (C : Cmp) (i p : Int) (w : Int → Int) : Prop := ∀ j, 0 ≤ j → j < NP C → w j = wtv C i p j
theorem WtI.no {C : Cmp} (V : Valid C) {i p : Int} {w : Int → Int} (h : WtI C i p w) (i0 : 0 ≤ i) (i1 : i < NP C) (p0 : 0 ≤ p) (p1 : p < cN C) (hc : ¬ (Cons C (ctI C i) ∧ canF C (ctI C i) p)) : WtI C i (p + 1) w := fun j j0 j1 => by rw [h j j0 j1, wtv_no V i0 i1 p0 p1 hc j0 j1]
theorem WtI.here {C : Cmp} (W : Wf C) {i p : Int} {w : Int → Int} (h : WtI C i p w) (i0 : 0 ≤ i) (i1 : i < NP C) : w i = npc C (ctI C i) := by rw [h i i0 i1, wtv_full W i0 i1 (Int.le_refl _)]
theorem WtI.yes {C : Cmp} (W : Wf C) {i p : Int} {w w' : Int → Int} (h : WtI C i p w) (i0 : 0 ≤ i) (i1 : i < NP C) (p0 : 0 ≤ p) (p1 : p < cN C) (hc : canF C (ctI C i) p) (e1 : w' (i + st C p) = mw (w (i + st C p) + w i)) (e2 : ∀ j, ¬ j = i + st C p → w' j = w j) : WtI C i (p + 1) w' := by
  intro j j0 j1
  have y := wtv_yes W i0 i1 p0 p1 hc j0 j1
  by_cases e : j = i + st C p
  · rw [if_pos e] at y
    rw [e, e1, ← e, h j j0 j1, h.here W i0 i1, ← y]
    have r := wtv_r W (i := i) (p := p + 1) j0 j1
    have l := (np_lt W (ctI_in W j0 j1)).2
    exact mwi (by omega) (by omega)
  · rw [if_neg e] at y
    rw [e2 j e, h j j0 j1, y]
theorem WtI.next {C : Cmp} {i : Int} {w : Int → Int} (h : WtI C i (cN C) w) : WtI C (i + 1) 0 w := fun j j0 j1 => by rw [h j j0 j1, wtv_next]
theorem WtI.nextz {C : Cmp} (V : Valid C) {i p : Int} {w : Int → Int} (h : WtI C i p w) (i0 : 0 ≤ i) (i1 : i < NP C) (p0 : 0 ≤ p) (p1 : p ≤ cN C) (hc : ¬ Cons C (ctI C i)) : WtI C (i + 1) 0 w := by
  have key : ∀ q, q ≤ cN C → p ≤ q → WtI C i q w → WtI C (i + 1) 0 w := by
    refine up_ind (P := fun q => p ≤ q → WtI C i q w → WtI C (i + 1) 0 w) ?_ ?_
    · exact fun _ h => h.next
    · intro q hq ih hp h
      exact ih (by omega) (h.no V i0 i1 (by omega) hq (fun z => hc z.1))
  exact key p p1 (Int.le_refl _) h
theorem WtI.done {C : Cmp} (W : Wf C) {w : Int → Int} (h : WtI C (NP C) 0 w) : ∀ j, 0 ≤ j → j < NP C → w j = npc C (ctI C j) := fun j j0 j1 => by rw [h j j0 j1, wtv_full W j0 j1 (by omega)]
theorem WtI.start {C : Cmp} (W : Wf C) {w : Int → Int} (h : ∀ j, 0 ≤ j → j < NP C → w j = if j = 0 then 1 else 0) : WtI C 0 0 w := fun j j0 j1 => by rw [h j j0 j1, wtv_0 W j0 j1]
