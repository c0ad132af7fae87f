/-! snapshots: the class -/
def SnC (h : Nat → Int → Int) (C : Cmp) (c : Int → Int) (z : Sns) : Prop := h 63 4 = en (cN C) c ∧ (∀ p q, 0 ≤ p → p < cN C → 0 ≤ q → q < cN C → h 64 (4 * p + q) = cOf C p 1 q (c p) ∧ h 65 (4 * p + q) = cOf C q 2 p (c q)) ∧ (∀ p, 0 ≤ p → p < 4 → h 67 p = z.1 p) ∧ (∀ j, 0 ≤ j → j < 16 → h 66 j = z.2.1 j) ∧ h 63 3 = z.2.2
section SN
variable {sw : Bool} {g : Nat → Nat → Nat} {h : Nat → Int → Int} {e : Nat} {C : Cmp} {c : Int → Int} {z : Sns}
theorem SN_firstMarker_spec (hG : Gok sw g) (S : SnC h C c z) (I : MkI C z) {any : Prop} {x : Int} (hx : any ↔ ¬ x = 0) {K : Int → (Nat → Int → Int) → Prop} (k : K (fm C c any z) h) : SN_firstMarker g h x K := by
  refine SN_firstMarker_wp hG ?_
  have key : ∀ i : Int, i ≤ 16 → 0 ≤ i → (∀ j, 0 ≤ j → j < i → ¬ mkP C c any z j) → SN_firstMarker_2 g h x i K := by
    refine up_ind ?_ ?_
    · intro _ hz
      have e : fm C c any z = -1 := fst_none (by omega) hz
      rw [e] at k
      exact SN_firstMarker_2_wp hG ⟨fun _ => k, fun y => absurd y (by omega)⟩
    · intro i hi ih i0 hz
      have s6 := S.2.2.2.1 i i0 hi
      have no : ¬ mkP C c any z i → SN_firstMarker_2 g h x (mw (i + 1)) K := fun n => by
        rw [mwi (by omega) (by omega)]
        refine ih (by omega) (fun j j0 j1 => ?_)
        by_cases ej : j = i
        · rw [ej]; exact n
        · exact hz j j0 (by omega)
      have yes : mkP C c any z i → K i h := fun y => by
        have e : fm C c any z = i := fst_at i0 hi y hz
        rw [e] at k
        exact k
      refine SN_firstMarker_2_wp hG ⟨fun y => absurd y (by omega), fun _ => ⟨⟨i0, by omega⟩, ?_⟩⟩
      rw [s6]
      refine ⟨fun y => no (fun m => m.1 y), fun y => ⟨fun y2 => yes ⟨y, Or.inl (hx.mpr y2)⟩, fun y2 => ⟨⟨i0, by omega⟩, ⟨i0, by omega⟩, ?_⟩⟩⟩
      obtain ⟨b1, b2, b3⟩ := I i i0 hi y
      have s5 := (S.2.1 (i / 4) (i % 4) (by omega) b2 (by omega) b3).2
      rw [show 4 * (i / 4) + i % 4 = i by omega] at s5
      rw [s5]
      refine ⟨fun lt => no (fun m => ?_), fun le => yes ⟨y, Or.inr le⟩⟩
      rcases m.2 with m2 | m2
      · exact (hx.mp m2) y2
      · omega
  exact key 0 (by omega) (Int.le_refl _) (fun j j0 j1 => by omega)
theorem SN_note_spec (hG : Gok sw g) (he : EvId e) (E : EvOk e h C) (S : SnC h C c z) (hi : In C c) {p : Int} (p0 : 0 ≤ p) (p1 : p < cN C) {K : (Nat → Int → Int) → Prop} (k : ∀ h', (∀ b, ¬ b = 63 → ¬ b = 66 → ¬ b = 67 → h' b = h b) → (∀ i, ¬ i = 3 → h' 63 i = h 63 i) → SnC h' C c (nt C c z p) → K h') : SN_note g h e p K := by
  have W := E.2.2.1.1
  have hN := W.2.1
  have hn := E.2.2.2.2.1
  have ed : e + 8 < 61 := by unfold EvId at he; omega
  obtain ⟨S1, S2, S3, S4, S5⟩ := id S
  refine SN_note_wp hG he ⟨⟨p0, by omega⟩, ?_⟩
  rw [S3 p p0 (by omega), S1]
  refine ⟨fun y => ?_, fun y => ?_⟩
  · refine EV_count hG he E.1 W hn E.2.2.2.2.2 hi p0 p1 ⟨⟨p0, by omega⟩, ?_⟩
    simp (disch := omega) only [forall_eq, upd_ob]
    rw [S1]
    refine RC_levelOf_spec hG W hn hi ?_
    have F0 : ∀ b, ¬ b = 63 → ¬ b = 67 → mvUpd (mvUpd h 67 p (c p)) 63 3 (lev c) b = h b := fun b a1 a2 => by rw [upd_ob a1, upd_ob a2]
    have en : nt C c z p = (fun q => if q = p then c p else z.1 q, fun j => if j / 4 = p ∧ ¬ j % 4 = p ∧ j % 4 < cN C then cOf C p 1 (j % 4) (c p) else z.2.1 j, lev c) := by unfold nt; rw [if_pos y]
    have key : ∀ q : Int, q ≤ cN C → 0 ≤ q → ∀ (h' : Nat → Int → Int) u, (∀ b, ¬ b = 66 → h' b = mvUpd (mvUpd h 67 p (c p)) 63 3 (lev c) b) → (∀ j, 0 ≤ j → j < 16 → h' 66 j = if j / 4 = p ∧ ¬ j % 4 = p ∧ j % 4 < q then cOf C p 1 (j % 4) (c p) else z.2.1 j) → SN_note_39 g h' e p q u K := by
      refine up_ind ?_ ?_
      · intro _ h' u F D
        refine SN_note_39_wp hG he ⟨fun _ => k h' (fun b a1 a2 a3 => by rw [F b a2, F0 b a1 a3]) (fun i ni => by rw [F 63 (by omega), upd_ix ni, upd_ob (by omega)]) ?_, fun y => absurd y (by rw [F e (by omega), F0 e (by omega) (by omega), E.1.1]; omega)⟩
        rw [en]
        refine ⟨by rw [F 63 (by omega), upd_ix (by omega), upd_ob (by omega)]; exact S1, fun a b a0 a1 b0 b1 => by rw [F 64 (by omega), F0 64 (by omega) (by omega), F 65 (by omega), F0 65 (by omega) (by omega)]; exact S2 a b a0 a1 b0 b1, fun q q0 q1 => ?_, fun j j0 j1 => D j j0 j1, by rw [F 63 (by omega), upd_at]⟩
        show h' 67 q = if q = p then c p else z.1 q
        rw [F 67 (by omega), upd_ob (by omega), upd_if]
        by_cases eq : q = p
        · rw [if_pos ⟨rfl, eq⟩, if_pos eq]
        · rw [if_neg (fun y => eq y.2), if_neg eq]; exact S3 q q0 q1
      · intro q hq ih q0 h' u F D
        have ev : mw (mw (p * 4) + q) = 4 * p + q := by rw [mwi (z := p * 4) (by omega) (by omega), mwi (by omega) (by omega)]; omega
        refine SN_note_39_wp hG he ⟨fun y => absurd y (by rw [F e (by omega), F0 e (by omega) (by omega), E.1.1]; omega), fun _ => ?_⟩
        simp (disch := omega) only [ev, mwi, forall_eq, bd]
        refine ⟨fun eq => ih (by omega) h' _ F (fun j j0 j1 => ?_), fun ne => ih (by omega) _ _ (fun b nb => by rw [upd_ob nb]; exact F b nb) (fun j j0 j1 => ?_)⟩
        · rw [D j j0 j1]
          by_cases a : j / 4 = p ∧ ¬ j % 4 = p ∧ j % 4 < q
          · rw [if_pos a, if_pos (by omega)]
          · rw [if_neg a, if_neg (by omega)]
        · have s64 := (S2 p q p0 p1 q0 hq).1
          rw [show 4 * p + q = p * 4 + q by omega] at s64
          by_cases ej : j = p * 4 + q
          · rw [ej, upd_at, if_pos (by omega), F 64 (by omega), F0 64 (by omega) (by omega), s64]
            congr 1; omega
          · rw [upd_ix ej, D j j0 j1]
            by_cases a : j / 4 = p ∧ ¬ j % 4 = p ∧ j % 4 < q
            · rw [if_pos a, if_pos (by omega)]
            · rw [if_neg a, if_neg (by omega)]
    refine key 0 W.1 (Int.le_refl _) _ none (fun b _ => rfl) (fun j j0 j1 => ?_)
    rw [if_neg (by omega), F0 66 (by omega) (by omega)]
    exact S4 j j0 j1
  · have en : nt C c z p = z := by unfold nt; rw [if_neg y]
    exact k h (fun _ _ _ _ => rfl) (fun _ _ => rfl) (by rw [en]; exact S)
theorem SnC.gone {ch : Int} (S : SnC h C c z) (c0 : 0 ≤ ch) (c1 : ch < 16) : SnC (mvUpd h 66 ch (-1)) C c (z.1, (fun j => if j = ch then -1 else z.2.1 j), z.2.2) := by
  obtain ⟨S1, S2, S3, S4, S5⟩ := S
  refine ⟨by rw [upd_ob (by omega)]; exact S1, fun a b a0 a1 b0 b1 => by rw [upd_ob (by omega), upd_ob (by omega)]; exact S2 a b a0 a1 b0 b1, fun q q0 q1 => by rw [upd_ob (by omega)]; exact S3 q q0 q1, fun j j0 j1 => ?_, by rw [upd_ob (by omega)]; exact S5⟩
  show mvUpd h 66 ch (-1) 66 j = if j = ch then -1 else z.2.1 j
  by_cases ej : j = ch
  · rw [ej, upd_at, if_pos rfl]
  · rw [upd_ix ej, if_neg ej]; exact S4 j j0 j1
theorem SN_deliver_spec (hG : Gok sw g) (he : EvId e) (E : EvOk e h C) (S : SnC h C c z) (hi : In C c) (I : MkI C z) {K : (Nat → Int → Int) → Prop} (k : ∀ h', (∀ b, ¬ b = 63 → ¬ b = 66 → ¬ b = 67 → h' b = h b) → (∀ i, ¬ i = 3 → h' 63 i = h 63 i) → SnC h' C c (dl C c 16 z) → K h') : SN_deliver g h e K := by
  have ed : e + 8 < 61 := by unfold EvId at he; omega
  refine SN_deliver_wp hG he ?_
  have key : ∀ i : Int, i ≤ 16 → 0 ≤ i → ∀ (h' : Nat → Int → Int) (z' : Sns) u, (∀ b, ¬ b = 63 → ¬ b = 66 → ¬ b = 67 → h' b = h b) → (∀ i, ¬ i = 3 → h' 63 i = h 63 i) → SnC h' C c z' → MkI C z' → dl C c (16 - i).toNat z' = dl C c 16 z → SN_deliver_2 g h' e i u K := by
    refine up_ind ?_ ?_
    · intro _ h' z' u F G3 S' I' hd
      have hd : z' = dl C c 16 z := hd
      rw [hd] at S'
      exact SN_deliver_2_wp hG he ⟨fun _ => k h' F G3 S', fun y => absurd y (by omega)⟩
    · intro i hi2 ih i0 h' z' u F G3 S' I' hd
      have E' : EvOk e h' C := E.keep (fun b hb => F b (by omega) (by omega) (by omega))
      refine SN_deliver_2_wp hG he ⟨fun y => absurd y (by omega), fun _ => SN_firstMarker_spec hG S' I' (any := False) (x := 0) ⟨fun y => y.elim, fun y => absurd rfl y⟩ ⟨fun hne => ?_, fun he1 => ?_⟩⟩
      · obtain ⟨a0, a1, a2⟩ := fm_c hne
        obtain ⟨b1, b2, b3⟩ := I' _ a0 a1 a2.1
        simp (disch := omega) only [bd, forall_eq, tmd, mwi]
        have E3 : EvOk e (mvUpd h' 66 (fm C c False z') (-1)) C := E'.keep (fun b hb => upd_ob (by omega))
        refine SN_note_spec hG he E3 (S'.gone a0 a1) hi (by omega) b3 (fun h4 F4 G4 S4 => ?_)
        have iv := (ar_inv hi I' a0 a1 a2.1).1
        refine ih (by omega) h4 _ _ (fun b n1 n2 n3 => by rw [F4 b n1 n2 n3, upd_ob n2]; exact F b n1 n2 n3) (fun i ni => by rw [G4 i ni, upd_ob (by omega)]; exact G3 i ni) S4 iv ?_
        rw [← hd, show (16 - i).toNat = (16 - (i + 1)).toNat + 1 by omega]
        show dl C c (16 - (i + 1)).toNat (ar C c z' (fm C c False z')) = if fm C c False z' = -1 then z' else _
        rw [if_neg hne]
      · rw [dl_end he1] at hd
        rw [hd] at S'
        exact k h' F G3 S'
  exact key 0 (by omega) (Int.le_refl _) h z none (fun _ _ _ _ => rfl) (fun _ _ => rfl) S I rfl
theorem SN_forceLeft_spec (hG : Gok sw g) (he : EvId e) (E : EvOk e h C) (S : SnC h C c z) (hi : In C c) (I : MkI C z) (h2 : h 63 2 = 0) {K : (Nat → Int → Int) → Prop} (k : ∀ h', (∀ b, ¬ b = 63 → ¬ b = 66 → ¬ b = 67 → h' b = h b) → (∀ i, ¬ i = 3 → ¬ i = 2 → h' 63 i = h 63 i) → SnC h' C c (fo C c 16 (z, 0)).1 → h' 63 2 = (fo C c 16 (z, 0)).2 → K h') : SN_forceLeft g h e K := by
  have ed : e + 8 < 61 := by unfold EvId at he; omega
  refine SN_forceLeft_wp hG he ?_
  have key : ∀ i : Int, i ≤ 16 → 0 ≤ i → ∀ (h' : Nat → Int → Int) (z' : Sns) u, (∀ b, ¬ b = 63 → ¬ b = 66 → ¬ b = 67 → h' b = h b) → (∀ i, ¬ i = 3 → ¬ i = 2 → h' 63 i = h 63 i) → SnC h' C c z' → MkI C z' → h' 63 2 ≤ i → 0 ≤ h' 63 2 → fo C c (16 - i).toNat (z', h' 63 2) = fo C c 16 (z, 0) → SN_forceLeft_2 g h' e i u K := by
    refine up_ind ?_ ?_
    · intro _ h' z' u F G3 S' I' f0 f1 hd
      have hd : (z', h' 63 2) = fo C c 16 (z, 0) := hd
      refine SN_forceLeft_2_wp hG he ⟨fun _ => k h' F G3 (by rw [← hd]; exact S') (by rw [← hd]), fun y => absurd y (by omega)⟩
    · intro i hi2 ih i0 h' z' u F G3 S' I' f0 f1 hd
      have E' : EvOk e h' C := E.keep (fun b hb => F b (by omega) (by omega) (by omega))
      refine SN_forceLeft_2_wp hG he ⟨fun y => absurd y (by omega), fun _ => SN_firstMarker_spec hG S' I' (any := True) (x := 1) ⟨fun _ => by decide, fun _ => trivial⟩ ⟨fun hne => ?_, fun he1 => ?_⟩⟩
      · obtain ⟨a0, a1, a2⟩ := fm_c hne
        obtain ⟨b1, b2, b3⟩ := I' _ a0 a1 a2.1
        simp (disch := omega) only [bd, forall_eq, tmd, mwi]
        have S3 : SnC (mvUpd h' 63 2 (h' 63 2 + 1)) C c z' := by
          obtain ⟨T1, T2, T3, T4, T5⟩ := S'
          exact ⟨by rw [upd_ix (by omega)]; exact T1, fun a b a0 a1 b0 b1 => by rw [upd_ob (by omega), upd_ob (by omega)]; exact T2 a b a0 a1 b0 b1, fun q q0 q1 => by rw [upd_ob (by omega)]; exact T3 q q0 q1, fun j j0 j1 => by rw [upd_ob (by omega)]; exact T4 j j0 j1, by rw [upd_ix (by omega)]; exact T5⟩
        have E3 : EvOk e (mvUpd (mvUpd h' 63 2 (h' 63 2 + 1)) 66 (fm C c True z') (-1)) C := E'.keep (fun b hb => by rw [upd_ob (by omega), upd_ob (by omega)])
        refine SN_note_spec hG he E3 (S3.gone a0 a1) hi (by omega) b3 (fun h4 F4 G4 S4 => ?_)
        have iv := (ar_inv hi I' a0 a1 a2.1).1
        have E4 : EvOk e h4 C := E3.keep (fun b hb => F4 b (by omega) (by omega) (by omega))
        refine SN_deliver_spec hG he E4 S4 hi iv (fun h5 F5 G5 S5 => ?_)
        have e2 : h5 63 2 = h' 63 2 + 1 := by rw [G5 2 (by omega), G4 2 (by omega), upd_ob (by omega), upd_at]
        refine ih (by omega) h5 _ _ (fun b n1 n2 n3 => by rw [F5 b n1 n2 n3, F4 b n1 n2 n3, upd_ob n2, upd_ob n1]; exact F b n1 n2 n3) (fun i n3 n2 => by rw [G5 i n3, G4 i n3, upd_ob (by omega), upd_ix n2]; exact G3 i n3 n2) S5 (dl_inv hi 16 _ iv).1 (by omega) (by omega) ?_
        rw [← hd, e2, show (16 - i).toNat = (16 - (i + 1)).toNat + 1 by omega]
        show fo C c (16 - (i + 1)).toNat (dl C c 16 (ar C c z' (fm C c True z')), h' 63 2 + 1) = if fm C c True z' = -1 then (z', h' 63 2) else _
        rw [if_neg hne]
      · rw [fo_end (z := (z', h' 63 2)) he1] at hd
        exact k h' F G3 (by rw [← hd]; exact S') (by rw [← hd])
  exact key 0 (by omega) (Int.le_refl _) h z none (fun _ _ _ _ => rfl) (fun _ _ _ => rfl) S I (by omega) (by omega) (by rw [h2]; rfl)
theorem SN_pass_spec (hG : Gok sw g) (he : EvId e) (E : EvOk e h C) (S : SnC h C c z) (hi : In C c) {p : Int} (p0 : 0 ≤ p) (p1 : p < cN C) (hc : canF C c p) {K : (Nat → Int → Int) → Prop} (k : ∀ h', (∀ b, ¬ b = 63 → ¬ b = 64 → ¬ b = 65 → h' b = h b) → (∀ i, ¬ i = 4 → h' 63 i = h 63 i) → SnC h' C (inc c p) z → K h') : SN_pass g h e p K := by
  have W := E.2.2.1.1
  have hN := W.2.1
  have hn := E.2.2.2.2.1
  have ed : e + 8 < 61 := by unfold EvId at he; omega
  obtain ⟨S1, S2, S3, S4, S5⟩ := id S
  have cp := hi p
  have sz := W.sz p
  have c1 := hc.1
  obtain ⟨r1, r2⟩ := E.1.2.2.2 p (c p) p0 p1 cp.1 c1
  refine SN_pass_wp hG he ?_
  rw [S1]
  refine EV_count hG he E.1 W hn E.2.2.2.2.2 hi p0 p1 ?_
  have e9 : mw (mw (p * 9) + c p) = 9 * p + c p := row9 p0 (by omega) cp.1 (by omega)
  simp (disch := omega) only [e9, bd, forall_eq, r1, r2]
  -- the end: the event is behind the cut
  have fin : ∀ h', (∀ b, ¬ b = 64 → ¬ b = 65 → h' b = h b) → (∀ a b, 0 ≤ a → a < cN C → 0 ≤ b → b < cN C → h' 64 (4 * a + b) = cOf C a 1 b (inc c p a) ∧ h' 65 (4 * a + b) = cOf C b 2 a (inc c p b)) → EV_with g h' e (en (cN C) c) p (fun r6 h5 => K (mvUpd h5 63 4 r6)) := by
    intro h' F T
    have E' : EvOk e h' C := E.keep (fun b hb => F b (by omega) (by omega))
    have hw := EV_with_spec (K := fun r6 h5 => K (mvUpd h5 63 4 r6)) hG he (h := h') (c := c) (p := p) (by rw [E'.1.1]; exact ⟨hn, hN⟩) E'.2.2.2.2.2 (hi.dg W) p0 (by rw [E'.1.1]; exact p1) (by
      rw [E'.1.1]
      refine k _ (fun b n1 n2 n3 => by rw [upd_ob n1]; exact F b n2 n3) (fun i ni => by rw [upd_ix ni, F 63 (by omega) (by omega)]) ⟨upd_at, fun a b a0 a1 b0 b1 => by rw [upd_ob (by omega), upd_ob (by omega)]; exact T a b a0 a1 b0 b1, fun q q0 q1 => by rw [upd_ob (by omega), F 67 (by omega) (by omega)]; exact S3 q q0 q1, fun j j0 j1 => by rw [upd_ob (by omega), F 66 (by omega) (by omega)]; exact S4 j j0 j1, by rw [upd_ix (by omega), F 63 (by omega) (by omega)]; exact S5⟩)
    rw [E'.1.1] at hw
    exact hw
  have sent : ∀ a b, 0 ≤ a → cOf C a 1 b (inc c p a) = if a = p ∧ cK C p (c p) = 1 ∧ cD C p (c p) = b then cOf C a 1 b (c a) + 1 else cOf C a 1 b (c a) := fun a b a0 => by
    by_cases ea : a = p
    · rw [ea, inc_at, cOf_s cp.1]
      by_cases y : cK C p (c p) = 1 ∧ cD C p (c p) = b
      · rw [if_pos y, if_pos ⟨rfl, y⟩]
      · rw [if_neg y, if_neg (fun z => y z.2)]
    · rw [inc_ne ea, if_neg (fun z => ea z.1)]
  have recd : ∀ a b, 0 ≤ b → cOf C b 2 a (inc c p b) = if b = p ∧ cK C p (c p) = 2 ∧ cD C p (c p) = a then cOf C b 2 a (c b) + 1 else cOf C b 2 a (c b) := fun a b b0 => by
    by_cases ea : b = p
    · rw [ea, inc_at, cOf_s cp.1]
      by_cases y : cK C p (c p) = 2 ∧ cD C p (c p) = a
      · rw [if_pos y, if_pos ⟨rfl, y⟩]
      · rw [if_neg y, if_neg (fun z => y z.2)]
    · rw [inc_ne ea, if_neg (fun z => ea z.1)]
  refine ⟨fun n1 => ⟨fun n2 => ?_, fun y2 => ?_⟩, fun y1 => ?_⟩
  · rw [S1]
    refine fin h (fun _ _ _ => rfl) (fun a b a0 a1 b0 b1 => ?_)
    rw [sent a b a0, recd a b b0, if_neg (fun z => n1 z.2.1), if_neg (fun z => n2 z.2.1)]
    exact S2 a b a0 a1 b0 b1
  · rcases W.2.2.2.2.2 p (c p) p0 p1 cp.1 c1 with ⟨y, -⟩ | ⟨-, b1, b2, b3⟩
    · omega
    have s65 := (S2 (cD C p (c p)) p b1 b2 p0 p1).2
    have cr := cOf_le (C := C) (p := p) (K := 2) (q := cD C p (c p)) cp.1
    have e4 : mw (mw (cD C p (c p) * 4) + p) = 4 * cD C p (c p) + p := by rw [mwi (z := cD C p (c p) * 4) (by omega) (by omega), mwi (by omega) (by omega)]; omega
    simp (disch := omega) only [e4, bd, forall_eq, upd_ob]
    rw [S1]
    refine fin _ (fun b n4 n5 => upd_ob n5) (fun a b a0 a1 b0 b1 => ?_)
    rw [sent a b a0, recd a b b0, if_neg (fun z => n1 z.2.1), upd_ob (by omega)]
    refine ⟨(S2 a b a0 a1 b0 b1).1, ?_⟩
    by_cases y : b = p ∧ cK C p (c p) = 2 ∧ cD C p (c p) = a
    · rw [if_pos y, y.2.2, y.1, ← y.2.2, upd_at, s65, mwi (by omega) (by omega)]
    · rw [if_neg y, upd_ix (fun z => y ⟨by omega, y2, by omega⟩)]
      exact (S2 a b a0 a1 b0 b1).2
  · rcases W.2.2.2.2.2 p (c p) p0 p1 cp.1 c1 with ⟨y, -⟩ | ⟨-, b1, b2, b3⟩
    · omega
    have s64 := (S2 p (cD C p (c p)) p0 p1 b1 b2).1
    have cr := cOf_le (C := C) (p := p) (K := 1) (q := cD C p (c p)) cp.1
    have e4 : mw (mw (p * 4) + cD C p (c p)) = 4 * p + cD C p (c p) := by rw [mwi (z := p * 4) (by omega) (by omega), mwi (by omega) (by omega)]; omega
    simp (disch := omega) only [e4, bd, forall_eq, upd_ob]
    refine ⟨fun _ => ?_, fun y => absurd y (by omega)⟩
    rw [S1]
    refine fin _ (fun b n4 n5 => upd_ob n4) (fun a b a0 a1 b0 b1 => ?_)
    rw [sent a b a0, recd a b b0, if_neg (fun z : b = p ∧ cK C p (c p) = 2 ∧ cD C p (c p) = a => by omega), upd_ob (b := 65) (by omega)]
    refine ⟨?_, (S2 a b a0 a1 b0 b1).2⟩
    by_cases y : a = p ∧ cK C p (c p) = 1 ∧ cD C p (c p) = b
    · rw [if_pos y, y.1, ← y.2.2, upd_at, s64, mwi (by omega) (by omega)]
    · rw [if_neg y, upd_ix (fun z => y ⟨by omega, y1, by omega⟩)]
      exact (S2 a b a0 a1 b0 b1).1
theorem SN_take_spec (hG : Gok sw g) (he : EvId e) (E : EvOk e h C) {st : Int → Int} (Y : Way C st) (P1 : h 61 0 = cT C) (P2 : ∀ i, 0 ≤ i → i < cT C → h 62 i = st i) {p t : Int} (p0 : 0 ≤ p) (p1 : p < cN C) (t0 : 0 ≤ t) (t1 : t ≤ cT C) {K : (Nat → Int → Int) → Prop}
    (k : ∀ h', (∀ b, ¬ (63 ≤ b ∧ b ≤ 67) → h' b = h b) → h' 63 0 = 1 → h' 63 1 = tld (sn3 C st p t).1.1 (cN C) → h' 63 2 = (sn3 C st p t).2 → h' 63 3 = (sn3 C st p t).1.2.2 → K h') : SN_take g h e p t K := by
  have V := E.2.2.1
  have W := V.1
  have hN := W.2.1
  have hT := cT_r W
  have ed : e + 8 < 61 := by unfold EvId at he; omega
  have Yk := Y.ok W
  refine SN_take_wp hG he (SN_clear_wp hG ?_)
  simp only [forall_eq]
  refine AR_fill_spec hG mis64 (by decide) (AR_fill_spec hG mis65 (by decide) (AR_fill_spec hG mis66 (by decide) (AR_fill_spec hG mis67 (by decide) ?_)))
  -- the end: the cut that was noted
  have last : ∀ q : Int, q ≤ cN C → 0 ≤ q → ∀ h' u v, (∀ b, ¬ (63 ≤ b ∧ b ≤ 67) → h' b = h b) → SnC h' C (ctW st (cT C)) (sn3 C st p t).1 → h' 63 2 = (sn3 C st p t).2 → h' 63 1 = tld (sn3 C st p t).1.1 q → SN_take_92 g h' e u v q K := by
    refine up_ind ?_ ?_
    · intro _ h' u v F S f2 f1
      refine SN_take_92_wp hG he ⟨fun _ => ?_, fun y => absurd y (by rw [F e (by omega), E.1.1]; omega)⟩
      simp only [forall_eq]
      exact k _ (fun b nb => by rw [upd_ob (by omega)]; exact F b nb) upd_at (by rw [upd_ix (by omega)]; exact f1) (by rw [upd_ix (by omega)]; exact f2) (by rw [upd_ix (by omega)]; exact S.2.2.2.2)
    · intro q hq ih q0 h' u v F S f2 f1
      obtain ⟨S1, S2, S3, S4, S5⟩ := S
      refine SN_take_92_wp hG he ⟨fun y => absurd y (by rw [F e (by omega), E.1.1]; omega), fun _ => ⟨⟨q0, by omega⟩, ?_⟩⟩
      simp only [forall_eq]
      rw [S3 q q0 (by omega), f1, ← tld_s q0, mwi (z := q + 1) (by omega) (by omega)]
      exact ih (by omega) _ u v (fun b nb => by rw [upd_ob (by omega)]; exact F b nb) ⟨by rw [upd_ix (by omega)]; exact S1, fun a b a0 a1 b0 b1 => by rw [upd_ob (by omega), upd_ob (by omega)]; exact S2 a b a0 a1 b0 b1, fun q q0 q1 => by rw [upd_ob (by omega)]; exact S3 q q0 q1, fun j j0 j1 => by rw [upd_ob (by omega)]; exact S4 j j0 j1, by rw [upd_ix (by omega)]; exact S5⟩ (by rw [upd_ix (by omega)]; exact f2) upd_at
  -- the play goes on
  have goon : ∀ i : Int, i ≤ cT C → t ≤ i → ∀ h' u v, (∀ b, ¬ (63 ≤ b ∧ b ≤ 67) → h' b = h b) → SnC h' C (ctW st i) (sn2 C st p t (i - t)) → h' 63 2 = 0 → SN_take_47 g h' e u v i K := by
    refine up_ind ?_ ?_
    · intro _ h' u v F S f2
      have E' : EvOk e h' C := E.keep (fun b hb => F b (by omega))
      refine SN_take_47_wp hG he ⟨fun _ => SN_forceLeft_spec hG he E' S (Yk _ hT.1 (Int.le_refl _)).1 (sn2_inv W Y p0 p1 t0 _ (by omega) (by omega)) f2 (fun h1 F1 G1 S1 f21 => ?_), fun y => absurd y (by rw [F 61 (by omega), P1]; omega)⟩
      simp only [forall_eq]
      obtain ⟨T1, T2, T3, T4, T5⟩ := S1
      exact last 0 W.1 (Int.le_refl _) _ u v (fun b nb => by rw [upd_ob (by omega), F1 b (by omega) (by omega) (by omega)]; exact F b nb) ⟨by rw [upd_ix (by omega)]; exact T1, fun a b a0 a1 b0 b1 => by rw [upd_ob (by omega), upd_ob (by omega)]; exact T2 a b a0 a1 b0 b1, fun q q0 q1 => by rw [upd_ob (by omega)]; exact T3 q q0 q1, fun j j0 j1 => by rw [upd_ob (by omega)]; exact T4 j j0 j1, by rw [upd_ix (by omega)]; exact T5⟩ (by rw [upd_ix (by omega)]; exact f21) upd_at
    · intro i hi ih i0 h' u v F S f2
      have E' : EvOk e h' C := E.keep (fun b hb => F b (by omega))
      obtain ⟨s0, s1, s2⟩ := Y i (by omega) hi
      obtain ⟨c1, c2, c3⟩ := Yk i (by omega) (by omega)
      obtain ⟨d1, d2, d3⟩ := Yk (i + 1) (by omega) (by omega)
      refine SN_take_47_wp hG he ⟨fun y => absurd y (by rw [F 61 (by omega), P1]; omega), fun _ => ⟨⟨by omega, by omega⟩, ?_⟩⟩
      rw [F 62 (by omega), P2 i (by omega) hi]
      refine SN_pass_spec hG he E' S c1 s0 s1 s2 (fun h3 F3 G3 S3 => ?_)
      rw [← ctW_s (by omega)] at S3
      have E3 : EvOk e h3 C := E'.keep (fun b hb => F3 b (by omega) (by omega) (by omega))
      refine SN_deliver_spec hG he E3 S3 d1 (sn2_inv W Y p0 p1 t0 _ (by omega) (by omega)) (fun h4 F4 G4 S4 => ?_)
      rw [mwi (z := i + 1) (by omega) (by omega)]
      refine ih (by omega) h4 u v (fun b nb => by rw [F4 b (by omega) (by omega) (by omega), F3 b (by omega) (by omega) (by omega)]; exact F b nb) ?_ (by rw [G4 2 (by omega), G3 2 (by omega)]; exact f2)
      rw [show i + 1 - t = i - t + 1 by omega, sn2_s (by omega), show t + (i - t) + 1 = i + 1 by omega]
      exact S4
  -- the first t events
  have ahead : ∀ i : Int, i ≤ t → 0 ≤ i → ∀ h', (∀ b, ¬ (63 ≤ b ∧ b ≤ 67) → h' b = h b) → SnC h' C (ctW st i) sn0 → h' 63 2 = 0 → SN_take_7 g h' e p t i K := by
    refine up_ind ?_ ?_
    · intro _ h' F S f2
      have E' : EvOk e h' C := E.keep (fun b hb => F b (by omega))
      obtain ⟨c1, c2, c3⟩ := Yk t t0 t1
      refine SN_take_7_wp hG he ⟨fun _ => SN_note_spec hG he E' S c1 p0 p1 (fun h1 F1 G1 S1 => ?_), fun y => absurd y (by omega)⟩
      have E1 : EvOk e h1 C := E'.keep (fun b hb => F1 b (by omega) (by omega) (by omega))
      refine SN_deliver_spec hG he E1 S1 c1 (nt_inv c1 sn0_inv p0 p1).1 (fun h2 F2 G2 S2 => ?_)
      refine goon t t1 (Int.le_refl _) h2 _ _ (fun b nb => by rw [F2 b (by omega) (by omega) (by omega), F1 b (by omega) (by omega) (by omega)]; exact F b nb) ?_ (by rw [G2 2 (by omega), G1 2 (by omega)]; exact f2)
      rw [show t - t = 0 by omega]
      exact S2
    · intro i hi ih i0 h' F S f2
      have E' : EvOk e h' C := E.keep (fun b hb => F b (by omega))
      obtain ⟨s0, s1, s2⟩ := Y i i0 (by omega)
      obtain ⟨c1, c2, c3⟩ := Yk i i0 (by omega)
      refine SN_take_7_wp hG he ⟨fun y => absurd y (by omega), fun _ => ⟨⟨by omega, by omega⟩, ?_⟩⟩
      rw [F 62 (by omega), P2 i i0 (by omega)]
      refine SN_pass_spec hG he E' S c1 s0 s1 s2 (fun h3 F3 G3 S3 => ?_)
      rw [← ctW_s i0] at S3
      rw [mwi (z := i + 1) (by omega) (by omega)]
      exact ih (by omega) h3 (fun b nb => by rw [F3 b (by omega) (by omega) (by omega)]; exact F b nb) S3 (by rw [G3 2 (by omega)]; exact f2)
  refine ahead 0 t0 (Int.le_refl _) _ (fun b nb => ?_) ⟨?_, fun a b a0 a1 b0 b1 => ?_, fun q q0 q1 => ?_, fun j j0 j1 => ?_, ?_⟩ ?_
  · funext i
    rw [if_neg (fun y => by omega), if_neg (fun y => by omega), if_neg (fun y => by omega), if_neg (fun y => by omega), upd_ob (by omega), upd_ob (by omega), upd_ob (by omega)]
  · dsimp only
    rw [if_neg (fun y => by omega), if_neg (fun y => by omega), if_neg (fun y => by omega), if_neg (fun y => by omega), upd_ix (by omega), upd_ix (by omega), upd_at]
    show 0 = en (cN C) (fun _ => 0)
    unfold en
    simp
  · have e1 : cOf C a 1 b (ctW st 0 a) = 0 := rfl
    have e2 : cOf C b 2 a (ctW st 0 b) = 0 := rfl
    rw [e1, e2]
    dsimp only
    constructor
    · rw [if_neg (fun y => by omega), if_neg (fun y => by omega), if_neg (fun y => by omega), if_pos ⟨rfl, by omega, by omega⟩]
    · rw [if_neg (fun y => by omega), if_neg (fun y => by omega), if_pos ⟨rfl, by omega, by omega⟩]
  · dsimp only
    rw [if_pos ⟨rfl, by omega, by omega⟩]; rfl
  · dsimp only
    rw [if_neg (fun y => by omega), if_pos ⟨rfl, by omega, by omega⟩]; rfl
  · dsimp only
    rw [if_neg (fun y => by omega), if_neg (fun y => by omega), if_neg (fun y => by omega), if_neg (fun y => by omega), upd_at]; rfl
  · show (if _ then _ else _) = _
    rw [if_neg (fun y => by omega), if_neg (fun y => by omega), if_neg (fun y => by omega), if_neg (fun y => by omega), upd_ix (by omega), upd_at]
end SN
