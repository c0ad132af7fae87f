/-! the search, built -/
theorem held_step {C : Cmp} (W : Wf C) {w : Wsh} {i m : Int} (i0 : 0 ≤ i) (i1 : i < NP C) (hk : Cons C (ctI C i)) (hr : rk C i = m) : cntI (fun j => held C w j ∧ m ≤ rk C j) (NP C) = cntI (fun j => held C w j ∧ m + 1 ≤ rk C j) (NP C) + pick (held C w i) 1 0 := by
  refine sumI_one (by omega) i0 i1 (fun j j0 j1 hj => pick_cg ⟨fun z => ⟨z.1, ?_⟩, fun z => ⟨z.1, by omega⟩⟩) ?_
  · have := rk_ne W j0 j1 z.1.1 i0 i1 hk hj
    omega
  · rw [pick_f (P := held C w i ∧ m + 1 ≤ rk C i) (fun z => by omega)]
    by_cases y : held C w i
    · rw [pick_t y, pick_t ⟨y, by omega⟩]; rfl
    · rw [pick_f y, pick_f (fun z => y z.1)]; rfl
section SE
variable {sw : Bool} {g : Nat → Nat → Nat} {h : Nat → Int → Int} {s a e : Nat} {C : Cmp} {c : Int → Int} {w : Wsh}
def SeI (s : Nat) (h h' : Nat → Int → Int) (C : Cmp) (w : Wsh) (m : Int) : Prop := (∀ b, ¬ b = s → ¬ b = s + 2 → h' b = h b) ∧ ¬ h' s 0 = 0 ∧ h' s 3 = cntI (fun j => held C w j ∧ m ≤ rk C j) (NP C) ∧
  ((h' s 4 = -1 ∧ ∀ j, 0 ≤ j → j < NP C → held C w j → ¬ m ≤ rk C j) ∨ ∃ j, IsLow C w m j ∧ h' s 4 = en (cN C) (ctI C j)) ∧ ∀ j, 0 ≤ j → j < NP C → Cons C (ctI C j) → m ≤ rk C j → h' (s + 2) j = pick (av C w (ctI C j)) 1 0
theorem SeI.row {h h' : Nat → Int → Int} (W : Wf C) {m i x : Int} (I : SeI s h h' C w (m + 1)) (i0 : 0 ≤ i) (i1 : i < NP C) (hk : Cons C (ctI C i)) (hr : rk C i = m) (hx : x = pick (av C w (ctI C i)) 1 0) : ∀ j, 0 ≤ j → j < NP C → Cons C (ctI C j) → m ≤ rk C j → mvUpd h' (s + 2) i x (s + 2) j = pick (av C w (ctI C j)) 1 0 := by
  intro j j0 j1 j2 j3
  by_cases ej : j = i
  · rw [ej, upd_at, hx]
  · rw [upd_ix ej]
    have := rk_ne W j0 j1 j2 i0 i1 hk ej
    exact I.2.2.2.2 j j0 j1 j2 (by omega)
theorem SeI.no {h h' : Nat → Int → Int} (W : Wf C) {m i x : Int} (I : SeI s h h' C w (m + 1)) (i0 : 0 ≤ i) (i1 : i < NP C) (hk : Cons C (ctI C i)) (hr : rk C i = m) (hh : ¬ Hold C w (ctI C i)) (hx : x = pick (av C w (ctI C i)) 1 0) : SeI s h (mvUpd h' (s + 2) i x) C w m := by
  have nh : ¬ held C w i := fun z => hh z.2
  have ne : ∀ j, 0 ≤ j → j < NP C → held C w j → m ≤ rk C j → m + 1 ≤ rk C j := fun j j0 j1 j2 j3 => by
    have := rk_ne W j0 j1 j2.1 i0 i1 hk (fun z => nh (z ▸ j2))
    omega
  refine ⟨fun b n1 n2 => by rw [upd_ob n2]; exact I.1 b n1 n2, by rw [upd_ob (by omega)]; exact I.2.1, ?_, ?_, I.row W i0 i1 hk hr hx⟩
  · rw [upd_ob (by omega), I.2.2.1, held_step W i0 i1 hk hr, pick_f nh]; omega
  · rw [upd_ob (by omega)]
    rcases I.2.2.2.1 with ⟨z, y⟩ | ⟨j, ⟨b0, b1, b2, b3, b4⟩, z⟩
    · exact Or.inl ⟨z, fun j j0 j1 j2 j3 => y j j0 j1 j2 (ne j j0 j1 j2 j3)⟩
    · exact Or.inr ⟨j, ⟨b0, b1, b2, by omega, fun q q0 q1 q2 q3 => b4 q q0 q1 q2 (ne q q0 q1 q2 q3)⟩, z⟩
theorem SeI.yes {h h' : Nat → Int → Int} (W : Wf C) {m i x y : Int} (I : SeI s h h' C w (m + 1)) (i0 : 0 ≤ i) (i1 : i < NP C) (hk : Cons C (ctI C i)) (hr : rk C i = m) (hh : Hold C w (ctI C i)) (hx : x = h' s 3 + 1) (hy : y = en (cN C) (ctI C i)) : SeI s h (mvUpd (mvUpd (mvUpd h' s 3 x) s 4 y) (s + 2) i 0) C w m := by
  have nh : held C w i := ⟨hk, hh⟩
  have na : ¬ av C w (ctI C i) := fun z => by
    have l := lev_le (ctI_in W i0 i1)
    by_cases q : lev (ctI C i) = cT C
    · exact (av_last q).mp z hh
    · exact ((av_s W (by omega)).mp z).1 hh
  refine ⟨fun b n1 n2 => by rw [upd_ob n2, upd_ob n1, upd_ob n1]; exact I.1 b n1 n2, by rw [upd_ob (by omega), upd_ix (by omega), upd_ix (by omega)]; exact I.2.1, ?_, ?_, fun j j0 j1 j2 j3 => ?_⟩
  · rw [upd_ob (by omega), upd_ix (by omega), upd_at, hx, I.2.2.1, held_step W i0 i1 hk hr, pick_t nh]
  · rw [upd_ob (by omega), upd_at]
    exact Or.inr ⟨i, ⟨i0, i1, nh, by omega, fun q q0 q1 q2 q3 => by omega⟩, hy⟩
  · by_cases ej : j = i
    · rw [ej, upd_at, pick_f na]
    · rw [upd_ix ej, upd_ob (by omega), upd_ob (by omega)]
      have := rk_ne W j0 j1 j2 i0 i1 hk ej
      exact I.2.2.2.2 j j0 j1 j2 (by omega)
theorem SE_build_spec (hG : Gok sw g) (hs : SeId s) (ha : LtId a) (he : EvId e) (E : EvOk e h C) (L : LtOk a h C) (P : PrOk h w) (S : h s 0 = 0 ∨ SeOk s h C w) {K : (Nat → Int → Int) → Prop} (k : ∀ h', (∀ b, ¬ (s ≤ b ∧ b ≤ s + 2) → h' b = h b) → SeOk s h' C w → K h') : SE_build g h s e a K := by
  have W := E.2.2.1.1
  have V := E.2.2.1
  have hN := W.2.1
  have hn := E.2.2.2.2.1
  have nle := NP_le W
  have dj := se_lt hs ha he
  have b17 := bl_r W 17
  refine SE_build_wp hG hs he ha ⟨fun z => ?_, fun z => ?_⟩
  · rintro h1 rfl
    rintro h2 rfl
    rintro h3 rfl
    rw [upd_ob (b := a) (by omega), upd_ob (b := a) (by omega), upd_ob (b := a) (by omega), L.2.2.2.2.2.1, mwi (z := bl C 17 - 1) (by omega) (by omega)]
    rintro v4 rfl
    have key : ∀ m, 0 ≤ m → m ≤ bl C 17 → ∀ h', SeI s h h' C w m → ∀ u5 u6 u7, SE_build_31 g h' s e a (m - 1) u5 u6 u7 K := by
      refine int_ind ?_ ?_
      · intro _ h' I u5 u6 u7
        refine SE_build_31_wp hG hs he ha ⟨fun _ => ?_, fun z => absurd z (by omega)⟩
        have rk0 : ∀ j, 0 ≤ j → 0 ≤ rk C j := fun j j0 => by
          have := bl_r W (lev (ctI C j)); have := lc_r (C := C) (l := lev (ctI C j)) j0
          unfold rk; omega
        have A : ∀ j, 0 ≤ j → j < NP C → Cons C (ctI C j) → h' (s + 2) j = pick (av C w (ctI C j)) 1 0 := fun j j0 j1 j2 => I.2.2.2.2 j j0 j1 j2 (rk0 j j0)
        refine SE_findPath_spec hG hs ha he (E.keep (fun b hb => I.1 b (by omega) (by omega))) (L.keep (fun b b0 b1 => I.1 b (by omega) (by omega))) A ?_
        intro h'' F F2 P1 P2
        refine k h'' (fun b hb => ?_) ⟨?_, ?_, ?_, fun j j0 j1 j2 => ?_, P1, P2⟩
        · rw [F b (by omega) (by omega)]; exact I.1 b (by omega) (by omega)
        · rw [F2 0 (by omega)]; exact I.2.1
        · rw [F2 3 (by omega), I.2.2.1]
          exact cntI_cg (fun j j0 j1 => ⟨fun z => z.1, fun z => ⟨z, rk0 j j0⟩⟩)
        · rw [F2 4 (by omega)]
          rcases I.2.2.2.1 with ⟨z, y⟩ | ⟨j, hj, z⟩
          · rw [z, lowV_none (fun j j0 j1 j2 => y j j0 j1 j2 (rk0 j j0))]
          · rw [z, lowV_at W hn hj]
        · rw [F (s + 2) (by omega) (by omega)]; exact A j j0 j1 j2
      · intro m m0 ih hm h' I u5 u6 u7
        rw [show m + 1 - 1 = m by omega]
        obtain ⟨i, i0, i1, hk, hr⟩ := rk_at W m0 (by omega)
        have ci := ctI_in W i0 i1
        have E' := E.keep (h' := h') (fun b hb => I.1 b (by omega) (by omega))
        have L' := L.keep (h' := h') (fun b b0 b1 => I.1 b (by omega) (by omega))
        have P' := P.keep (I.1 31 (by omega) (by omega)) (I.1 32 (by omega) (by omega))
        have e4 : h' (a + 4) m = i := by rw [← hr]; exact L'.2.2.2.2.2.2.2 i i0 i1 hk
        have e3 := L'.2.2.1.2.2 i i0 i1
        have e2 : mw (h' a 2 - 1) = NP C - 1 := by rw [L'.2.2.1.1, mwi (by omega) (by omega)]
        have ll := lev_le ci
        refine SE_build_31_wp hG hs he ha ⟨fun z => absurd z (by omega), fun _ => ⟨⟨m0, by omega⟩, ?_⟩⟩
        rw [e4]
        intro v2 hv2
        obtain rfl : i = v2 := hv2.symm
        rw [e3, mwi (z := m + -1) (by omega) (by omega), show m + -1 = m - 1 by omega]
        refine ⟨⟨i0, by omega⟩, PR_holdsIn_spec hG he E' P' ci (fun hh => ?_) (fun hh => ?_)⟩
        · refine ⟨fun z => absurd z (by omega), fun _ => ?_⟩
          rintro h12 rfl
          refine ⟨⟨i0, by omega⟩, ?_⟩
          have c3 := I.2.2.1
          have cr := cntI_r (P := fun j => held C w j ∧ m + 1 ≤ rk C j) (k := NP C) (by omega)
          rw [mwi (z := h' s 3 + 1) (by omega) (by omega), upd_ob (b := a + 3) (by omega), e3]
          rintro h13 rfl
          have nx := I.yes W i0 i1 hk hr hh rfl rfl
          refine ⟨fun _ => ⟨fun _ => ⟨⟨i0, by omega⟩, ?_⟩, fun z => absurd z (by omega)⟩, fun _ => ⟨fun _ => ⟨⟨i0, by omega⟩, ?_⟩, fun z => absurd z (by omega)⟩⟩
          · rintro h14 rfl
            exact ih (by omega) _ nx _ _ _
          · rintro h19 rfl
            exact ih (by omega) _ nx _ _ _
        · refine ⟨fun _ => ?_, fun z => absurd rfl z⟩
          rw [e2]
          refine ⟨fun nl => ⟨fun z => absurd rfl z, fun _ => ?_⟩, fun la => ⟨fun z => absurd rfl z, fun _ => ⟨⟨i0, by omega⟩, ?_⟩⟩⟩
          · have hl : lev (ctI C i) < cT C := by
              by_cases q : lev (ctI C i) = cT C
              · exact absurd (not_last V i0 i1 q) nl
              · omega
            refine SE_avoidingStep_spec (w := w) hG hs ha he E' L' i0 i1 hk (fun j j0 j1 j2 j3 => I.2.2.2.2 j j0 j1 j2 ?_) ?_
            · have := rk_lt W i0 i1 hk j0 j1 j2 (Or.inl j3); omega
            refine ⟨fun z => ⟨⟨i0, by omega⟩, ?_⟩, fun z => ⟨⟨i0, by omega⟩, ?_⟩⟩
            · rintro h8 rfl
              refine ih (by omega) _ (I.no W i0 i1 hk hr hh ?_) _ _ _
              rw [pick_f (fun y => ?_)]
              have := (gst_ok W hl y).1
              omega
            · rintro h9 rfl
              refine ih (by omega) _ (I.no W i0 i1 hk hr hh ?_) _ _ _
              rw [pick_t ((av_s W hl).mpr ⟨hh, ?_⟩)]
              rcases fst_cases (P := goes C w (ctI C i)) W.1 with ⟨y, -⟩ | ⟨y1, y2, y3, -⟩
              · exact absurd y z
              · exact ⟨_, y1, y2, y3⟩
          · rintro h11 rfl
            refine ih (by omega) _ (I.no W i0 i1 hk hr hh ?_) _ _ _
            rw [pick_t ((av_last (by rw [la, ct_last V]; exact lev_cS)).mpr hh)]
    refine key (bl C 17) b17.1 (Int.le_refl _) _ ⟨fun b n1 n2 => ?_, ?_, ?_, Or.inl ⟨upd_at, fun j j0 j1 j2 j3 => ?_⟩, fun j j0 j1 j2 j3 => ?_⟩ _ _ _
    · rw [upd_ob n1, upd_ob n1, upd_ob n1]
    · rw [upd_ix (by omega), upd_ix (by omega), upd_at]; omega
    · rw [upd_ix (by omega), upd_at, cntI_none (fun j j0 j1 z => ?_)]
      have := rk_r W j0 j1 z.1.1
      have := lev_le (ctI_in W j0 j1)
      have := W.2.2.2.2.1
      have := bl_mono W (C := C) (l := lev (ctI C j) + 1) (m := 17) (by omega)
      omega
    · have := rk_r W j0 j1 j2.1
      have := lev_le (ctI_in W j0 j1)
      have := W.2.2.2.2.1
      have := bl_mono W (C := C) (l := lev (ctI C j) + 1) (m := 17) (by omega)
      omega
    · have := rk_r W j0 j1 j2
      have := lev_le (ctI_in W j0 j1)
      have := W.2.2.2.2.1
      have := bl_mono W (C := C) (l := lev (ctI C j) + 1) (m := 17) (by omega)
      omega
  · rcases S with S | S
    · exact absurd S z
    · exact k h (fun b _ => rfl) S
end SE
