/-! small tools -/
theorem mwi {z : Int} (h1 : -2147483648 ≤ z) (h2 : z < 2147483648) : mw z = z := mw_id ⟨h1, h2⟩
def itN {α : Type} (f : Int → α → α) (a : α) : Nat → α
  | 0 => a
  | k + 1 => f (k : Int) (itN f a k)
/-- a loop over 0 .. k-1 -/
def it {α : Type} (f : Int → α → α) (a : α) (k : Int) : α := itN f a k.toNat
theorem it_0 {α : Type} {f : Int → α → α} {a : α} : it f a 0 = a := rfl
theorem it_s {α : Type} {f : Int → α → α} {a : α} {k : Int} (h : 0 ≤ k) : it f a (k + 1) = f k (it f a k) := by
  unfold it
  rw [show (k + 1).toNat = k.toNat + 1 by omega]
  show f ((k.toNat : Nat) : Int) _ = _
  rw [Int.toNat_of_nonneg h]
theorem it_neg {α : Type} {f : Int → α → α} {a : α} {k : Int} (h : k ≤ 0) : it f a k = a := by
  unfold it
  rw [show k.toNat = 0 by omega]
  rfl
theorem it_congr {α : Type} {f g : Int → α → α} {a : α} {k : Int} (h : ∀ i x, 0 ≤ i → i < k → f i x = g i x) : it f a k = it g a k := by
  unfold it
  have key : ∀ m : Nat, (m : Int) ≤ k.toNat → itN f a m = itN g a m := by
    intro m
    induction m with
    | zero => intro _; rfl
    | succ m ih =>
      intro hm
      show f m (itN f a m) = g m (itN g a m)
      rw [ih (by omega), h m _ (by omega) (by omega)]
  exact key _ (Int.le_refl _)
/-- induction for a loop that counts up to n -/
theorem up_ind {n : Int} {P : Int → Prop} (hn : P n) (hs : ∀ i, i < n → P (i + 1) → P i) : ∀ i, i ≤ n → P i := by
  have key : ∀ (m : Nat) (i : Int), i + m = n → P i := by
    intro m
    induction m with
    | zero => intro i hi; rw [show i = n by omega]; exact hn
    | succ m ih => intro i hi; exact hs i (by omega) (ih (i + 1) (by omega))
  intro i hi
  exact key (n - i).toNat i (by omega)
/-- .. down to 0 -/
theorem int_ind {P : Int → Prop} (h0 : P 0) (hs : ∀ i, 0 ≤ i → P i → P (i + 1)) : ∀ i, 0 ≤ i → P i := by
  have key : ∀ m : Nat, P (m : Int) := by
    intro m
    induction m with
    | zero => exact h0
    | succ m ih => exact hs m (by omega) ih
  intro i hi
  have := key i.toNat
  rwa [Int.toNat_of_nonneg hi] at this
theorem upd_at {h : Nat → Int → Int} {a : Nat} {i v : Int} : mvUpd h a i v a i = v := by simp [mvUpd]
theorem upd_ix {h : Nat → Int → Int} {a : Nat} {i v j : Int} (hj : ¬ j = i) : mvUpd h a i v a j = h a j := by simp [mvUpd, hj]
theorem upd_ob {h : Nat → Int → Int} {a b : Nat} {i v : Int} (hb : ¬ b = a) : mvUpd h a i v b = h b := mvUpd_ne hb
theorem upd_if {h : Nat → Int → Int} {a b : Nat} {i v j : Int} : mvUpd h a i v b j = if b = a ∧ j = i then v else h b j := rfl
theorem AR_fill_spec {sw : Bool} {g : Nat → Nat → Nat} {h : Nat → Int → Int} {b n : Nat} {x : Int} {K : (Nat → Int → Int) → Prop} (hG : Gok sw g) (ia : mvIs 97 b = (1, 0, n)) (hn : n ≤ 1000)
    (k : K (fun a i => if a = b ∧ 0 ≤ i ∧ i < n then x else h a i)) : AR_fill g h b x K := by
  refine AR_fill_wp hG ia ?_
  intro v1 hv
  subst hv
  have key : ∀ i : Int, i ≤ n → ∀ h2, 0 ≤ i → (h2 = fun a j => if a = b ∧ 0 ≤ j ∧ j < i then x else h a j) → AR_fill_5 g h2 b x i n K := by
    refine up_ind ?_ ?_
    · intro h2 hi h2e
      refine AR_fill_5_wp hG ia ⟨fun _ => ?_, fun c => absurd c (by omega)⟩
      rw [h2e]; exact k
    · intro i hi ih h2 h0 h2e
      refine AR_fill_5_wp hG ia ⟨fun c => absurd c (by omega), fun _ => ⟨⟨h0, hi⟩, ?_⟩⟩
      intro h1 e1
      rw [mwi (by omega) (by omega)]
      refine ih h1 (by omega) ?_
      rw [e1, h2e]
      funext a j
      rw [upd_if]
      by_cases ha : a = b
      · by_cases hj : j = i
        · rw [if_pos ⟨ha, hj⟩, if_pos ⟨ha, by omega⟩]
        · rw [if_neg (fun z => hj z.2)]
          by_cases hl : 0 ≤ j ∧ j < i
          · rw [if_pos ⟨ha, hl⟩, if_pos ⟨ha, by omega⟩]
          · rw [if_neg (fun z => hl z.2), if_neg (fun z => hl (by omega))]
      · rw [if_neg (fun z => ha z.1), if_neg (fun z => ha z.1), if_neg (fun z => ha z.1)]
  exact key 0 (by omega) h (Int.le_refl _) (by
    funext a j
    rw [if_neg (fun z => by omega)])
/-! computations -/
abbrev Cmp : Type := Int × (Int → Int) × (Int → Int → Int) × (Int → Int → Int)
def cN (C : Cmp) : Int := C.1
def cS (C : Cmp) (p : Int) : Int := C.2.1 p
def cK (C : Cmp) (p k : Int) : Int := C.2.2.1 p k
def cD (C : Cmp) (p k : Int) : Int := C.2.2.2 p k
def cT (C : Cmp) : Int := cS C 0 + cS C 1 + cS C 2 + cS C 3
/-- the text's conditions but order and partners -/
def Wf (C : Cmp) : Prop := 0 ≤ cN C ∧ cN C ≤ 4 ∧ (∀ p, 0 ≤ p → p < cN C → 0 ≤ cS C p ∧ cS C p ≤ 9) ∧ (∀ p, ¬ (0 ≤ p ∧ p < cN C) → cS C p = 0) ∧ cT C ≤ 16 ∧
  ∀ p k, 0 ≤ p → p < cN C → 0 ≤ k → k < cS C p → (cK C p k = 0 ∧ 0 ≤ cD C p k ∧ cD C p k ≤ 9) ∨ ((cK C p k = 1 ∨ cK C p k = 2) ∧ 0 ≤ cD C p k ∧ cD C p k < cN C ∧ ¬ cD C p k = p)
theorem Wf.sz {C : Cmp} (h : Wf C) (p : Int) : 0 ≤ cS C p ∧ cS C p ≤ 9 := by
  by_cases hp : 0 ≤ p ∧ p < cN C
  · exact h.2.2.1 p hp.1 hp.2
  · rw [h.2.2.2.1 p hp]; omega
/-- the computation's events stand in the cells of the object e -/
def EvR (e : Nat) (h : Nat → Int → Int) (C : Cmp) : Prop := h e 0 = cN C ∧ h e 1 = cT C ∧ (∀ p, 0 ≤ p → p < 4 → h (e + 1) p = cS C p) ∧
  ∀ p k, 0 ≤ p → p < cN C → 0 ≤ k → k < cS C p → h (e + 2) (9 * p + k) = cK C p k ∧ h (e + 3) (9 * p + k) = cD C p k
def Tens (h : Nat → Int → Int) : Prop := h 1 0 = 1 ∧ h 1 1 = 10 ∧ h 1 2 = 100 ∧ h 1 3 = 1000
def ten (j : Int) : Int := if j = 0 then 1 else if j = 1 then 10 else if j = 2 then 100 else if j = 3 then 1000 else 10000
theorem Tens.at {h : Nat → Int → Int} (H : Tens h) {j : Int} (h0 : 0 ≤ j) (h4 : j < 4) : h 1 j = ten j := by
  obtain ⟨t0, t1, t2, t3⟩ := H
  unfold ten
  rcases (show j = 0 ∨ j = 1 ∨ j = 2 ∨ j = 3 by omega) with rfl | rfl | rfl | rfl
  · rw [t0]; rfl
  · rw [t1]; rfl
  · rw [t2]; rfl
  · rw [t3]; rfl
/-- a cut as a number -/
def en (n : Int) (c : Int → Int) : Int := if n = 1 then c 0 else if n = 2 then 10 * c 0 + c 1 else if n = 3 then 100 * c 0 + 10 * c 1 + c 2 else if n = 4 then 1000 * c 0 + 100 * c 1 + 10 * c 2 + c 3 else 0
/-- its digits -/
def dg (n x p : Int) : Int := x / ten (n - 1 - p) % 10
def Dg (n : Int) (c : Int → Int) : Prop := ∀ p, 0 ≤ p → p < n → 0 ≤ c p ∧ c p ≤ 9
theorem dg_en {n p : Int} {c : Int → Int} (hn : 1 ≤ n ∧ n ≤ 4) (hc : Dg n c) (h0 : 0 ≤ p) (h1 : p < n) : dg n (en n c) p = c p := by
  unfold dg en ten
  rcases (show n = 1 ∨ n = 2 ∨ n = 3 ∨ n = 4 by omega) with rfl | rfl | rfl | rfl
  · have := hc 0 (by omega) (by omega)
    rw [show p = 0 by omega]
    simp
    omega
  · have a0 := hc 0 (by omega) (by omega)
    have a1 := hc 1 (by omega) (by omega)
    rcases (show p = 0 ∨ p = 1 by omega) with rfl | rfl <;> simp <;> omega
  · have a0 := hc 0 (by omega) (by omega)
    have a1 := hc 1 (by omega) (by omega)
    have a2 := hc 2 (by omega) (by omega)
    rcases (show p = 0 ∨ p = 1 ∨ p = 2 by omega) with rfl | rfl | rfl <;> simp <;> omega
  · have a0 := hc 0 (by omega) (by omega)
    have a1 := hc 1 (by omega) (by omega)
    have a2 := hc 2 (by omega) (by omega)
    have a3 := hc 3 (by omega) (by omega)
    rcases (show p = 0 ∨ p = 1 ∨ p = 2 ∨ p = 3 by omega) with rfl | rfl | rfl | rfl <;> simp <;> omega
theorem en_lt {n : Int} {c : Int → Int} (hn : 1 ≤ n ∧ n ≤ 4) (hc : Dg n c) : 0 ≤ en n c ∧ en n c < ten n := by
  unfold en ten
  rcases (show n = 1 ∨ n = 2 ∨ n = 3 ∨ n = 4 by omega) with rfl | rfl | rfl | rfl
  · have := hc 0 (by omega) (by omega)
    simp; omega
  · have a0 := hc 0 (by omega) (by omega)
    have a1 := hc 1 (by omega) (by omega)
    simp; omega
  · have a0 := hc 0 (by omega) (by omega)
    have a1 := hc 1 (by omega) (by omega)
    have a2 := hc 2 (by omega) (by omega)
    simp; omega
  · have a0 := hc 0 (by omega) (by omega)
    have a1 := hc 1 (by omega) (by omega)
    have a2 := hc 2 (by omega) (by omega)
    have a3 := hc 3 (by omega) (by omega)
    simp; omega
theorem ten_le (n : Int) : 1 ≤ ten n ∧ ten n ≤ 10000 := by
  unfold ten
  repeat' split
  all_goals omega
theorem en_dg {n x : Int} (hn : 1 ≤ n ∧ n ≤ 4) (h0 : 0 ≤ x) (h1 : x < ten n) : en n (dg n x) = x := by
  unfold dg en
  unfold ten at *
  rcases (show n = 1 ∨ n = 2 ∨ n = 3 ∨ n = 4 by omega) with rfl | rfl | rfl | rfl <;> simp at * <;> omega
theorem dg_dg {n x : Int} : Dg n (dg n x) := fun p _ _ => by unfold dg; omega
theorem en_congr {n : Int} {c d : Int → Int} (hn : 1 ≤ n ∧ n ≤ 4) (h : ∀ p, 0 ≤ p → p < n → c p = d p) : en n c = en n d := by
  unfold en
  rcases (show n = 1 ∨ n = 2 ∨ n = 3 ∨ n = 4 by omega) with rfl | rfl | rfl | rfl
  · rw [h 0 (by omega) (by omega)]; simp
  · rw [h 0 (by omega) (by omega), h 1 (by omega) (by omega)]; simp
  · rw [h 0 (by omega) (by omega), h 1 (by omega) (by omega), h 2 (by omega) (by omega)]; simp
  · rw [h 0 (by omega) (by omega), h 1 (by omega) (by omega), h 2 (by omega) (by omega), h 3 (by omega) (by omega)]
/-- one event more of a process -/
def inc (c : Int → Int) (p : Int) : Int → Int := fun q => if q = p then c q + 1 else c q
theorem inc_at {c : Int → Int} {p : Int} : inc c p p = c p + 1 := by simp [inc]
theorem inc_ne {c : Int → Int} {p q : Int} (h : ¬ q = p) : inc c p q = c q := by simp [inc, h]
theorem en_inc {n p : Int} {c : Int → Int} (hn : 1 ≤ n ∧ n ≤ 4) (h0 : 0 ≤ p) (h1 : p < n) : en n (inc c p) = en n c + ten (n - 1 - p) := by
  unfold en ten inc
  rcases (show n = 1 ∨ n = 2 ∨ n = 3 ∨ n = 4 by omega) with rfl | rfl | rfl | rfl
  · rw [show p = 0 by omega]; simp
  · rcases (show p = 0 ∨ p = 1 by omega) with rfl | rfl <;> simp <;> omega
  · rcases (show p = 0 ∨ p = 1 ∨ p = 2 by omega) with rfl | rfl | rfl <;> simp <;> omega
  · rcases (show p = 0 ∨ p = 1 ∨ p = 2 ∨ p = 3 by omega) with rfl | rfl | rfl | rfl <;> simp <;> omega
