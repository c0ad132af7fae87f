/-! the model: all cuts are laid -/
theorem upd_no {h : Nat → Int → Int} {a b : Nat} {i v j : Int} (hn : ¬ (b = a ∧ j = i)) : mvUpd h a i v b j = h b j := by rw [upd_if, if_neg hn]
theorem pick_1 {P : Prop} : (¬ pick P (1 : Int) 0 = 0) ↔ P := by
  rcases Classical.em P with a | a
  · rw [pick_t a]; simp [a]
  · rw [pick_f a]; simp [a]
theorem pick_0 {P : Prop} : pick P (1 : Int) 0 = 0 ↔ ¬ P := by
  rcases Classical.em P with a | a
  · rw [pick_t a]; simp [a]
  · rw [pick_f a]; simp [a]
theorem or0 {x : Int} (hx : mv32 x) : mvOr x 0 = x := by
  unfold mvOr
  rw [show Int32.ofInt 0 = 0 from rfl, Int32.or_zero, m32 hx]
theorem bits_32 {B : Int → Prop} {n : Int} (h : 0 ≤ n) : mv32 (bits B n) := by
  refine int_ind (P := fun n => mv32 (bits B n)) (by show mv32 0; unfold mv32; omega) ?_ n h
  intro i i0 ih
  rw [bits_s i0]
  rcases Classical.em (B i) with a | a
  · rw [pick_t a]; exact mv_i32 _
  · rw [pick_f a]; exact ih
def L1 (h : Nat → Int → Int) (C : Cmp) (w : Wsh) (c : Int) : Prop := ∀ j, 0 ≤ j → j < c → h 82 j = pick (Cons C (ctI C j)) 1 0 ∧ h 83 j = pick (held C w j) 1 0 ∧ h 84 j = (if j = 0 then 1 else 0) ∧ h 85 j = (if j = NP C - 1 then 1 else 0) ∧ h 86 j = pick (j = NP C - 1 ∧ ¬ Hold C w (ctI C j)) 1 0 ∧ h 87 j = lev (ctI C j)
theorem L1.upd {h : Nat → Int → Int} {C : Cmp} {w : Wsh} {c x : Int} {b : Nat} (L : L1 h C w c) : L1 (mvUpd h b c x) C w c := fun j j0 j1 => by
  have e : ∀ a, mvUpd h b c x a j = h a j := fun a => upd_no (fun z => by omega)
  rw [e, e, e, e, e, e]
  exact L j j0 j1
/-- all rows of the cuts -/
def LcOk (h : Nat → Int → Int) (C : Cmp) (w : Wsh) : Prop := ∀ j, 0 ≤ j → j < NP C → h 82 j = pick (Cons C (ctI C j)) 1 0 ∧ h 83 j = pick (held C w j) 1 0 ∧ h 84 j = npc C (ctI C j) ∧ h 85 j = pv C j ∧ h 86 j = pick (Cons C (ctI C j) ∧ av C w (ctI C j)) 1 0 ∧ h 87 j = lev (ctI C j)
theorem LcOk.keep {h h' : Nat → Int → Int} {C : Cmp} {w : Wsh} (L : LcOk h C w) (hk : ∀ b, 82 ≤ b → b ≤ 87 → h' b = h b) : LcOk h' C w := by
  unfold LcOk
  rw [hk 82 (by omega) (by omega), hk 83 (by omega) (by omega), hk 84 (by omega) (by omega), hk 85 (by omega) (by omega), hk 86 (by omega) (by omega), hk 87 (by omega) (by omega)]
  exact L
/-- the ways round, while they are laid -/
def FrI (C : Cmp) (w : Wsh) (i p : Int) (f : Int → Int) : Prop := ∀ j, 0 ≤ j → j < NP C → f j = if i < j then pick (Cons C (ctI C j) ∧ av C w (ctI C j)) 1 0 else if j = NP C - 1 then pick (¬ Hold C w (ctI C j)) 1 0 else if j = i then pick (∃ q, 0 ≤ q ∧ q < p ∧ canF C (ctI C i) q ∧ ¬ Hold C w (ctI C i) ∧ av C w (inc (ctI C i) q)) 1 0 else 0
theorem FrI.no {C : Cmp} {w : Wsh} {i p : Int} {f : Int → Int} (I : FrI C w i p f) (hc : ¬ canF C (ctI C i) p) : FrI C w i (p + 1) f := fun j j0 j1 => by
  rw [I j j0 j1]
  have e : pick (∃ q, 0 ≤ q ∧ q < p ∧ canF C (ctI C i) q ∧ ¬ Hold C w (ctI C i) ∧ av C w (inc (ctI C i) q)) (1 : Int) 0 = pick (∃ q, 0 ≤ q ∧ q < p + 1 ∧ canF C (ctI C i) q ∧ ¬ Hold C w (ctI C i) ∧ av C w (inc (ctI C i) q)) 1 0 := pick_cg ⟨fun ⟨q, a, b, d⟩ => ⟨q, a, by omega, d⟩, fun ⟨q, a, b, d, e⟩ => ⟨q, a, by
    by_cases z : q = p
    · rw [z] at d; exact absurd d hc
    · omega, d, e⟩⟩
  rw [e]
theorem FrI.yes {C : Cmp} (V : Valid C) {w : Wsh} {i p : Int} {f f' : Int → Int} (I : FrI C w i p f) (i0 : 0 ≤ i) (i1 : i < NP C) (p0 : 0 ≤ p) (p1 : p < cN C) (hk : Cons C (ctI C i)) (hc : canF C (ctI C i) p) (e1 : f' i = pick (¬ f i = 0 ∨ (¬ Hold C w (ctI C i) ∧ ¬ f (i + st C p) = 0)) 1 0) (e2 : ∀ j, ¬ j = i → f' j = f j) : FrI C w i (p + 1) f' := fun j j0 j1 => by
  have W := V.1
  have hN := W.2.1
  have sp := st_pos W p
  obtain ⟨c1, c2⟩ := ctI_inc W i0 i1 p0 (by omega) hc.1
  by_cases ej : j = i
  · subst ej
    have ci := ctI_in W i0 i1
    rw [e1, if_neg (by omega), if_neg (by omega), if_pos rfl]
    have ei := I j i0 i1
    rw [if_neg (by omega), if_neg (by omega), if_pos rfl] at ei
    have es := I (j + st C p) (by omega) c2
    rw [if_pos (by omega)] at es
    rw [ei, es]
    refine pick_cg ?_
    rw [pick_1, pick_1, c1]
    constructor
    · rintro (⟨q, a, b, d⟩ | ⟨a, b, d⟩)
      · exact ⟨q, a, by omega, d⟩
      · exact ⟨p, p0, by omega, hc, a, d⟩
    · rintro ⟨q, a, b, d, e, z⟩
      by_cases eq : q = p
      · right
        rw [eq] at z
        exact ⟨e, (Cons_inc W ci hk p0 p1 hc.1).mpr hc, z⟩
      · left; exact ⟨q, a, by omega, d, e, z⟩
  · rw [e2 j ej, I j j0 j1, if_neg ej, if_neg ej]
theorem FrI.next {C : Cmp} (V : Valid C) {w : Wsh} {i : Int} {f : Int → Int} (I : FrI C w i (cN C) f) (i0 : 0 ≤ i) (i1 : i < NP C) (hk : Cons C (ctI C i)) : FrI C w (i - 1) 0 f := fun j j0 j1 => by
  have W := V.1
  rw [I j j0 j1]
  by_cases a : i < j
  · rw [if_pos a, if_pos (by omega)]
  · rw [if_neg a]
    by_cases b : j = i
    · subst b
      rw [if_pos (show j - 1 < j by omega)]
      have ci := ctI_in W i0 i1
      by_cases l : j = NP C - 1
      · rw [if_pos l]
        refine pick_cg ?_
        have e : lev (ctI C j) = cT C := by rw [l, ct_last V, lev_cS]
        rw [av_last e]
        exact ⟨fun z => ⟨hk, z⟩, fun z => z.2⟩
      · rw [if_neg l, if_pos rfl]
        refine pick_cg ?_
        have hl : lev (ctI C j) < cT C := by
          have := lev_le ci
          have : ¬ lev (ctI C j) = cT C := fun z => l (not_last V i0 i1 z)
          omega
        rw [av_s W hl]
        constructor
        · rintro ⟨q, q0, q1, z1, z2, z3⟩; exact ⟨hk, z2, q, q0, q1, z1, z3⟩
        · rintro ⟨-, z2, q, q0, q1, z1, z3⟩; exact ⟨q, q0, q1, z1, z2, z3⟩
    · rw [if_neg (show ¬ i - 1 < j by omega), if_neg b]
      by_cases l : j = NP C - 1
      · rw [if_pos l, if_pos l]
      · rw [if_neg l, if_neg l]
        by_cases d : j = i - 1
        · rw [if_pos d, pick_f (fun ⟨q, q0, q1, _⟩ => by omega)]
        · rw [if_neg d]
theorem FrI.nextz {C : Cmp} (V : Valid C) {w : Wsh} {i : Int} {f : Int → Int} (I : FrI C w i 0 f) (i0 : 0 ≤ i) (i1 : i < NP C) (hk : ¬ Cons C (ctI C i)) : FrI C w (i - 1) 0 f := fun j j0 j1 => by
  have W := V.1
  have nl : ¬ i = NP C - 1 := fun z => hk (by rw [z, ct_last V]; exact (full_cut V).2)
  rw [I j j0 j1]
  by_cases a : i < j
  · rw [if_pos a, if_pos (by omega)]
  · rw [if_neg a]
    by_cases b : j = i
    · subst b
      rw [if_pos (show j - 1 < j by omega), if_neg nl, if_pos rfl, pick_f (fun ⟨q, q0, q1, _⟩ => by omega), pick_f (fun z => hk z.1)]
    · rw [if_neg (show ¬ i - 1 < j by omega), if_neg b]
      by_cases l : j = NP C - 1
      · rw [if_pos l, if_pos l]
      · rw [if_neg l, if_neg l]
        by_cases d : j = i - 1
        · rw [if_pos d, pick_f (fun ⟨q, q0, q1, _⟩ => by omega)]
        · rw [if_neg d]
section MD
variable {sw : Bool} {g : Nat → Nat → Nat} {h : Nat → Int → Int} {C : Cmp} {c : Int → Int} {w : Wsh}
theorem MD_canGoOn_spec (hG : Gok sw g) (R : MdR h C) (V : Valid C) (hn : 1 ≤ cN C) (D : ∀ j, 0 ≤ j → j < NP C → h 82 j = pick (Cons C (ctI C j)) 1 0) {i p : Int} {K : Int → (Nat → Int → Int) → Prop} (i0 : 0 ≤ i) (i1 : i < NP C) (hk : Cons C (ctI C i)) (p0 : 0 ≤ p) (p1 : p < cN C)
    (kt : canF C (ctI C i) p → ∀ h', (∀ b, ¬ b = 81 → h' b = h b) → At h' C (ctI C i) → K 1 h') (kf : ¬ canF C (ctI C i) p → ∀ h', (∀ b, ¬ b = 81 → h' b = h b) → At h' C (ctI C i) → K 0 h') : MD_canGoOn g h i p K := by
  have W := V.1
  have hN := W.2.1
  have n := NP_le W
  have ci := ctI_in W i0 i1
  refine MD_canGoOn_wp hG (MD_take_spec hG R W hn i0 i1 (fun h1 F1 A1 => ?_))
  have R1 : MdR h1 C := R.keep (by rw [F1 68 (by omega)]) (F1 69 (by omega)) (F1 70 (by omega)) (F1 71 (by omega))
  simp (disch := omega) only [bd, R1.2.1, A1 p p0 p1]
  refine ⟨fun z => kf (fun y => by have := y.1; omega) h1 F1 A1, fun z => MD_stride_spec hG R1 W p0 p1 ?_⟩
  obtain ⟨c1, c2⟩ := ctI_inc W i0 i1 p0 (by omega) z
  have sp := st_pos W p
  have e := D (i + st C p) (by omega) c2
  rw [← F1 82 (by omega), c1] at e
  simp (disch := omega) only [mwi, bd]
  rw [e, pick_1, pick_0, Cons_inc W ci hk p0 p1 z]
  exact ⟨fun y => kf y h1 F1 A1, fun y => kt y h1 F1 A1⟩
theorem MD_nextBits_spec (hG : Gok sw g) (R : MdR h C) (V : Valid C) (hn : 1 ≤ cN C) (D : ∀ j, 0 ≤ j → j < NP C → h 82 j = pick (Cons C (ctI C j)) 1 0) {i : Int} {K : Int → (Nat → Int → Int) → Prop} (i0 : 0 ≤ i) (i1 : i < NP C) (hk : Cons C (ctI C i)) (k : ∀ h', (∀ b, ¬ b = 81 → h' b = h b) → K (fol C (ctI C i)) h') : MD_nextBits g h i K := by
  have W := V.1
  have hN := W.2.1
  refine MD_nextBits_wp hG ?_
  have key : ∀ p : Int, p ≤ cN C → 0 ≤ p → ∀ h', (∀ b, ¬ b = 81 → h' b = h b) → MD_nextBits_4 g h' i (bits (fun p => canF C (ctI C i) p) p) p K := by
    refine up_ind ?_ ?_
    · intro _ h' F
      exact MD_nextBits_4_wp hG ⟨fun _ => k h' F, fun z => absurd z (by rw [F 68 (by omega), R.1]; omega)⟩
    · intro p hp ih p0 h' F
      have R' : MdR h' C := R.keep (by rw [F 68 (by omega)]) (F 69 (by omega)) (F 70 (by omega)) (F 71 (by omega))
      have ih := ih (by omega)
      rw [bits_s p0] at ih
      refine MD_nextBits_4_wp hG ⟨fun z => absurd z (by rw [F 68 (by omega), R.1]; omega), fun _ => ?_⟩
      refine MD_canGoOn_spec hG R' V hn (fun j j0 j1 => by rw [F 82 (by omega)]; exact D j j0 j1) i0 i1 hk p0 hp (fun y h2 F2 _ => ⟨fun z => absurd z (by decide), fun _ => ?_⟩) (fun y h2 F2 _ => ⟨fun _ => ?_, fun z => absurd rfl z⟩)
      · simp (disch := omega) only [mwi, forall_eq]
        rw [pick_t y] at ih
        exact ih h2 (fun b nb => (F2 b nb).trans (F b nb))
      · simp (disch := omega) only [mwi, forall_eq]
        rw [pick_f y] at ih
        rw [or0 (bits_32 p0)]
        exact ih h2 (fun b nb => (F2 b nb).trans (F b nb))
  exact key 0 W.1 (Int.le_refl _) h (fun _ _ => rfl)
end MD
