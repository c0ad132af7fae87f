/-! one event more, one less: it stays a computation -/
theorem cOf_cg {C D : Cmp} {p x q m : Int} (h : ∀ i, 0 ≤ i → i < m → cK C p i = cK D p i ∧ cD C p i = cD D p i) : cOf C p x q m = cOf D p x q m := it_congr fun i s i0 i1 => by
  obtain ⟨a, b⟩ := h i i0 i1
  rw [a, b]
theorem addE_of {C : Cmp} {p k d q x y m : Int} (hm : m ≤ cS C q) : cOf (addE C p k d) q x y m = cOf C q x y m := cOf_cg fun i i0 i1 => by
  rw [addE_K, addE_D, if_neg (fun z => by have := z.2; rw [← z.1] at this; omega), if_neg (fun z => by have := z.2; rw [← z.1] at this; omega)]
  exact ⟨rfl, rfl⟩
theorem addE_Wf {C : Cmp} (W : Wf C) {p k d : Int} (p0 : 0 ≤ p) (p1 : p < cN C) (hs : cS C p < 9) (ht : cT C < 16) (hk : (k = 0 ∧ 0 ≤ d ∧ d ≤ 9) ∨ ((k = 1 ∨ k = 2) ∧ 0 ≤ d ∧ d < cN C ∧ ¬ d = p)) : Wf (addE C p k d) := by
  have hN := W.2.1
  refine ⟨W.1, W.2.1, fun q q0 q1 => ?_, fun q hq => ?_, by rw [addE_T p0 (by omega)]; omega, fun q i q0 q1 i0 i1 => ?_⟩
  · have := W.sz q
    rw [addE_S]
    split
    · rename_i e; subst e; omega
    · exact this
  · rw [addE_N] at hq
    rw [addE_S, if_neg (fun e => hq (by omega))]
    exact W.2.2.2.1 q hq
  · rw [addE_N] at q1 ⊢
    rw [addE_S] at i1
    rw [addE_K, addE_D]
    by_cases e : q = p ∧ i = cS C p
    · rw [if_pos e, if_pos e, e.1]; exact hk
    · rw [if_neg e, if_neg e]
      refine W.2.2.2.2.2 q i q0 q1 i0 ?_
      by_cases eq : q = p
      · rw [if_pos eq] at i1
        have : ¬ i = cS C p := fun z => e ⟨eq, z⟩
        rw [← eq] at this
        omega
      · rw [if_neg eq] at i1; exact i1
theorem addE_pth {C : Cmp} (W : Wf C) {p k d : Int} : ∀ (m : Nat) (c : Int → Int), Pth C m c → Pth (addE C p k d) m c := by
  intro m
  induction m with
  | zero => intro c hc; exact hc
  | succ m ih =>
    intro c hc
    obtain ⟨q, e, q0, q1, he, hq, rfl⟩ := hc
    obtain ⟨E1, -, -⟩ := Pth.fin W m e he
    have a := E1 q
    have hq1 := hq.1
    refine ⟨q, e, q0, q1, ih e he, ⟨?_, fun hk => ?_⟩, rfl⟩
    · rw [addE_S]; split <;> omega
    · have ne : ¬ (q = p ∧ e q = cS C p) := fun z => by have := z.2; rw [← z.1] at this; omega
      rw [addE_K, if_neg ne] at hk
      rw [addE_D, if_neg ne, addE_of a.2, addE_of (E1 _).2]
      exact hq.2 hk
theorem addE_Valid {C : Cmp} (V : Valid C) {p k d : Int} (p0 : 0 ≤ p) (p1 : p < cN C) (hs : cS C p < 9) (ht : cT C < 16) (hk : (k = 0 ∧ 0 ≤ d ∧ d ≤ 9) ∨ ((k = 1 ∨ k = 2) ∧ 0 ≤ d ∧ d < cN C ∧ ¬ d = p)) (hr : k = 2 → cOf C p 2 d (cS C p) < cOf C d 1 p (cS C d)) : Valid (addE C p k d) := by
  have W := V.1
  have hN := W.2.1
  have W' := addE_Wf W p0 p1 hs ht hk
  obtain ⟨m, hm⟩ := full_pth V
  have l := (Pth.fin W m _ hm).2.2
  have hm' := addE_pth W (p := p) (k := k) (d := d) m _ hm
  refine valid_of W' (m := m + 1) (c := inc (fun q => cS C q) p) ⟨p, _, p0, p1, hm', ⟨?_, fun hk2 => ?_⟩, rfl⟩ ?_
  · show cS C p < cS (addE C p k d) p
    rw [addE_S, if_pos rfl]; omega
  · simp only at hk2 ⊢
    rw [addE_K, if_pos ⟨rfl, rfl⟩] at hk2
    rw [addE_D, if_pos ⟨rfl, rfl⟩, addE_of (Int.le_refl _), addE_of (Int.le_refl _)]
    exact hr hk2
  · rw [addE_T p0 (by omega)]
    have e : lev (fun q => cS C q) = cT C := rfl
    omega
def delE (C : Cmp) (p : Int) : Cmp := (cN C, fun q => if q = p then cS C q - 1 else cS C q, C.2.2)
theorem delE_N {C : Cmp} {p : Int} : cN (delE C p) = cN C := rfl
theorem delE_S {C : Cmp} {p q : Int} : cS (delE C p) q = if q = p then cS C q - 1 else cS C q := rfl
theorem delE_K {C : Cmp} {p q i : Int} : cK (delE C p) q i = cK C q i := rfl
theorem delE_D {C : Cmp} {p q i : Int} : cD (delE C p) q i = cD C q i := rfl
theorem delE_T {C : Cmp} {p : Int} (p0 : 0 ≤ p) (p4 : p < 4) : cT (delE C p) = cT C - 1 := by
  unfold cT
  simp only [delE_S]
  rcases (show p = 0 ∨ p = 1 ∨ p = 2 ∨ p = 3 by omega) with rfl | rfl | rfl | rfl <;> simp <;> omega
theorem delE_of {C : Cmp} {p q x y m : Int} : cOf (delE C p) q x y m = cOf C q x y m := rfl
theorem delE_Wf {C : Cmp} (W : Wf C) {p : Int} (p0 : 0 ≤ p) (p1 : p < cN C) (hs : 0 < cS C p) : Wf (delE C p) := by
  have hN := W.2.1
  refine ⟨W.1, W.2.1, fun q q0 q1 => ?_, fun q hq => ?_, by rw [delE_T p0 (by omega)]; have := W.2.2.2.2.1; omega, fun q i q0 q1 i0 i1 => ?_⟩
  · have := W.sz q
    rw [delE_S]
    split
    · rename_i e; subst e; omega
    · exact this
  · rw [delE_N] at hq
    rw [delE_S, if_neg (fun e => hq (by omega))]
    exact W.2.2.2.1 q hq
  · rw [delE_S] at i1
    refine W.2.2.2.2.2 q i q0 q1 i0 ?_
    split at i1 <;> omega
theorem delE_Valid {C : Cmp} (V : Valid C) {p : Int} (p0 : 0 ≤ p) (p1 : p < cN C) (hs : 0 < cS C p) (hd : ¬ (cK C p (cS C p - 1) = 1 ∧ ¬ cPt C p (cS C p - 1) = -1)) : Valid (delE C p) := by
  have V0 := V
  obtain ⟨W, f, wt, O⟩ := V
  have hN := W.2.1
  have W' := delE_Wf W p0 p1 hs
  have hT := cT_nn W
  have key : ∀ i : Nat, (i : Int) ≤ cT C → ∃ m, Pth (delE C p) m (fun q => min (f i q) (cS (delE C p) q)) := by
    intro i
    induction i with
    | zero =>
      intro _
      refine ⟨0, fun q => ?_⟩
      simp only
      rw [O.1 q]
      have := W'.sz q
      omega
    | succ i ih =>
      intro hi
      obtain ⟨m, hm⟩ := ih (by omega)
      obtain ⟨w0, w1, wc, wf⟩ := O.2.1 i (by omega)
      obtain ⟨F1, -⟩ := O.fin W i (by omega)
      have fw := F1 (wt i)
      have c1 := wc.1
      by_cases last : wt i = p ∧ f i p = cS C p - 1
      · refine ⟨m, ?_⟩
        have eq : (fun q => min (f (i + 1) q) (cS (delE C p) q)) = fun q => min (f i q) (cS (delE C p) q) := by
          funext q
          rw [wf]
          by_cases eq : q = wt i
          · have e1 : cS (delE C p) p = cS C p - 1 := by rw [delE_S, if_pos rfl]
            rw [eq, inc_at, last.1, e1, last.2]; omega
          · rw [inc_ne eq]
        rw [eq]; exact hm
      · have lt : f i (wt i) < cS (delE C p) (wt i) := by
          rw [delE_S]
          split
          · rename_i e
            have : ¬ f i p = cS C p - 1 := fun z => last ⟨e, z⟩
            rw [e] at c1 ⊢
            omega
          · exact c1
        refine ⟨m + 1, wt i, _, w0, w1, hm, ⟨?_, fun hk => ?_⟩, ?_⟩
        · simp only; omega
        · simp only at hk ⊢
          rw [Int.min_eq_left (by omega)] at hk ⊢
          rw [delE_K] at hk
          rw [delE_D, delE_of, delE_of]
          have cc := wc.2 hk
          rcases W.2.2.2.2.2 (wt i) (f i (wt i)) w0 w1 fw.1 c1 with ⟨z, -⟩ | ⟨-, b1, b2, b3⟩
          · omega
          have fd := F1 (cD C (wt i) (f i (wt i)))
          by_cases ep : cD C (wt i) (f i (wt i)) = p
          · rw [ep] at cc fd b3 ⊢
            have e1 : cS (delE C p) p = cS C p - 1 := by rw [delE_S, if_pos rfl]
            by_cases full : f i p = cS C p
            · rw [e1, Int.min_eq_right (by omega)]
              rw [full] at cc
              have es := cOf_s (C := C) (p := p) (K := 1) (q := wt i) (k := cS C p - 1) (by omega)
              rw [show cS C p - 1 + 1 = cS C p by omega] at es
              rw [es] at cc
              by_cases y : cK C p (cS C p - 1) = 1 ∧ cD C p (cS C p - 1) = wt i
              · have np : cPt C p (cS C p - 1) = -1 := Classical.byContradiction (fun n => hd ⟨y.1, n⟩)
                unfold cPt at np
                rw [if_neg (by omega), y.1, y.2] at np
                have tot := (cNth_none (W.sz (wt i)).1 (cOf_le (C := C) (p := p) (K := 1) (q := wt i) (k := cS C p - 1) (by omega)).1).mp np
                have lt2 := cOf_lt (C := C) (p := wt i) (K := 2) (q := p) fw.1 c1 hk ep
                have e32 : (3 - 1 : Int) = 2 := rfl
                rw [e32] at tot
                omega
              · rw [if_neg y] at cc; exact cc
            · rw [Int.min_eq_left (by omega)]; exact cc
          · have e1 : cS (delE C p) (cD C (wt i) (f i (wt i))) = cS C (cD C (wt i) (f i (wt i))) := by rw [delE_S, if_neg ep]
            rw [e1, Int.min_eq_left (by omega)]; exact cc
        · funext q
          rw [wf]
          by_cases eq : q = wt i
          · rw [eq, inc_at, inc_at]; omega
          · rw [inc_ne eq, inc_ne eq]
  obtain ⟨m, hm⟩ := key (cT C).toNat (by omega)
  have eq : (fun q => min (f (cT C).toNat q) (cS (delE C p) q)) = cS (delE C p) := by
    funext q
    rw [O.2.2 _ (by omega) q, delE_S]
    split <;> omega
  rw [eq] at hm
  refine valid_of W' hm ?_
  have := (Pth.fin W' m _ hm).2.2
  rw [lev_cS] at this
  omega
/-- in a computation no more is received than sent -/
theorem full_le {C : Cmp} (V : Valid C) {p q : Int} (p0 : 0 ≤ p) (p1 : p < cN C) (q0 : 0 ≤ q) (q1 : q < cN C) : cOf C p 2 q (cS C p) ≤ cOf C q 1 p (cS C q) := (full_cut V).2 p q p0 p1 q0 q1
