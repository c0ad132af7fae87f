/-! there are vectors -/
def vf1 (C : Cmp) (X : Int → Int → Int → Int) (p k q : Int) : Int := if q = p then k + 1 else max (if k = 0 then 0 else X p (k - 1) q) (if cK C p k = 2 then X (cD C p k) (cPt C p k) q else 0)
def vfn (C : Cmp) : Nat → Int → Int → Int → Int
  | 0 => fun _ _ _ => 0
  | n + 1 => vf1 C (vfn C n)
theorem vec_isV {C : Cmp} (V : Valid C) : IsV C (vec C) := by
  obtain ⟨W, f, wt, O⟩ := id V
  have hT := cT_nn W
  have key : ∀ (t n : Nat), (t : Int) ≤ cT C → t ≤ n → ∀ p k q, 0 ≤ p → p < cN C → 0 ≤ k → k < f t p → vfn C n p k q = vfn C t p k q := by
    intro t
    induction t with
    | zero => intro n _ _ p k q p0 p1 k0 k1; rw [O.1 p] at k1; omega
    | succ t ih =>
      intro n ht hn p k q p0 p1 k0 k1
      obtain ⟨n', rfl⟩ : ∃ n', n = n' + 1 := ⟨n - 1, by omega⟩
      obtain ⟨w0, w1, wc, wf⟩ := O.2.1 t (by omega)
      obtain ⟨F1, F2⟩ := O.fin W t (by omega)
      have kS : k < cS C p := by have := ((O.fin W (t + 1) ht).1 p).2; omega
      have kle : k ≤ f t p := by
        rw [wf] at k1
        by_cases e : p = wt t
        · rw [e, inc_at] at k1; rw [e]; omega
        · rw [inc_ne e] at k1; omega
      show vf1 C (vfn C n') p k q = vf1 C (vfn C t) p k q
      unfold vf1
      split
      · rfl
      · congr 1
        · split
          · rfl
          · exact ih n' (by omega) (by omega) p (k - 1) q p0 p1 (by omega) (by omega)
        · split
          · rename_i hk
            rcases W.2.2.2.2.2 p k p0 p1 k0 kS with ⟨z, -⟩ | ⟨-, b1, b2, b3⟩
            · omega
            · have hnth := recv_pt V p0 p1 k0 kS hk
              refine ih n' (by omega) (by omega) _ _ q b1 b2 hnth.1 ?_
              refine (isNth_lt hnth (F1 _).1).mpr ?_
              by_cases old : k < f t p
              · have hc := (show Cons C (f t) from (by
                  have key : ∀ i : Nat, (i : Int) ≤ cT C → Cons C (f i) := by
                    intro i
                    induction i with
                    | zero => intro _; exact Cons_0 O.1
                    | succ i ih =>
                      intro hi
                      obtain ⟨c1, c2, c3, c4⟩ := O.2.1 i (by omega)
                      rw [c4]
                      exact (Cons_inc W (O.fin W i (by omega)).1 (ih (by omega)) c1 c2 c3.1).mpr c3
                  exact key t (by omega))) p (cD C p k) p0 p1 b1 b2
                have h5 := cOf_lt (C := C) (p := p) (K := 2) (q := cD C p k) k0 old hk rfl
                omega
              · have ek : k = f t p := by omega
                have ep : p = wt t := by
                  by_cases e : p = wt t
                  · exact e
                  · rw [wf, inc_ne e] at k1; omega
                have := wc.2
                rw [← ep, ← ek] at this
                exact this hk
          · rfl
  refine vec_of (V := vfn C (cT C).toNat) (fun p k q p0 p1 k0 k1 q0 q1 => ?_)
  have e := key (cT C).toNat ((cT C).toNat + 1) (by omega) (by omega) p k q p0 p1 k0 (by rw [O.2.2 _ (by omega) p]; exact k1)
  rw [← e]
  rfl
