/-! snapshots: the model -/
def SnM (h : Nat → Int → Int) (z : Sns) : Prop := (∀ p, 0 ≤ p → p < 4 → h 95 p = z.1 p) ∧ (∀ j, 0 ≤ j → j < 16 → h 96 j = z.2.1 j) ∧ h 68 15 = z.2.2
section MD
variable {sw : Bool} {g : Nat → Nat → Nat} {h : Nat → Int → Int} {C : Cmp} {c : Int → Int} {w : Wsh} {z : Sns}
theorem MD_toldNow_tld (hG : Gok sw g) (R : MdR h C) (W : Wf C) {o : Int → Int} (A : ∀ p, 0 ≤ p → p < cN C → h 81 p = o p) {K : Int → (Nat → Int → Int) → Prop} (k : K (tld o (cN C)) h) : MD_toldNow g h K := by
  have hN := W.2.1
  refine MD_toldNow_wp hG ?_
  have key : ∀ p : Int, p ≤ cN C → 0 ≤ p → MD_toldNow_4 g h (tld o p) p K := by
    refine up_ind ?_ ?_
    · intro _
      exact MD_toldNow_4_wp hG ⟨fun _ => k, fun z => absurd z (by rw [R.1]; omega)⟩
    · intro p hp ih p0
      have ih := ih (by omega)
      rw [tld_s p0] at ih
      refine MD_toldNow_4_wp hG ⟨fun z => absurd z (by rw [R.1]; omega), fun _ => ⟨⟨p0, by omega⟩, ?_⟩⟩
      simp only [forall_eq]
      rw [A p p0 hp, mwi (z := p + 1) (by omega) (by omega)]
      exact ih
  exact key 0 W.1 (Int.le_refl _)
theorem MD_nextMarker_spec (hG : Gok sw g) (R : MdR h C) (W : Wf C) (A : At h C c) (hi : In C c) (S : SnM h z) (I : MkI C z) {any : Prop} {x : Int} (hx : any ↔ ¬ x = 0) {K : Int → (Nat → Int → Int) → Prop} (k : K (fm C c any z) h) : MD_nextMarker g h x K := by
  have hN := W.2.1
  refine MD_nextMarker_wp hG ?_
  have key : ∀ i : Int, i ≤ 16 → 0 ≤ i → (∀ j, 0 ≤ j → j < i → ¬ mkP C c any z j) → ∀ u v, MD_nextMarker_2 g h x i u v K := by
    refine up_ind ?_ ?_
    · intro _ hz u v
      have e : fm C c any z = -1 := fst_none (by omega) hz
      rw [e] at k
      exact MD_nextMarker_2_wp hG ⟨fun _ => k, fun y => absurd y (by omega)⟩
    · intro i hi2 ih i0 hz u v
      have s6 := S.2.1 i i0 hi2
      have no : ¬ mkP C c any z i → ∀ u v, MD_nextMarker_2 g h x (i + 1) u v K := fun n => by
        refine ih (by omega) (fun j j0 j1 => ?_)
        by_cases ej : j = i
        · rw [ej]; exact n
        · exact hz j j0 (by omega)
      have yes : mkP C c any z i → K i h := fun y => by
        have e : fm C c any z = i := fst_at i0 hi2 y hz
        rw [e] at k
        exact k
      refine MD_nextMarker_2_wp hG ⟨fun y => absurd y (by omega), fun _ => ?_⟩
      simp (disch := omega) only [tdv, tmd, mwi, forall_eq, bd, s6]
      refine ⟨fun y => no (fun m => m.1 y) _ _, fun y => ⟨fun y2 => yes ⟨y, Or.inl (hx.mpr y2)⟩, fun y2 => ?_⟩⟩
      obtain ⟨b1, b2, b3⟩ := I i i0 hi2 y
      have cp := hi (i % 4)
      have sz := W.sz (i % 4)
      rw [A (i % 4) (by omega) b3]
      refine MD_of_spec hG (by omega) (by omega) cp.1 (by omega) (R.of (by omega) b3 cp.2) ?_
      rw [s6]
      refine ⟨fun lt => no (fun m => ?_) _ _, fun le => yes ⟨y, Or.inr le⟩⟩
      rcases m.2 with m2 | m2
      · exact (hx.mp m2) y2
      · omega
  exact key 0 (by omega) (Int.le_refl _) (fun j j0 j1 => by omega) none none
theorem MD_notes_spec (hG : Gok sw g) (R : MdR h C) (W : Wf C) (A : At h C c) (hi : In C c) (S : SnM h z) {p x : Int} (p0 : 0 ≤ p) (p1 : p < cN C) (hz : z.1 p = -1) (hx : x = lev c) {K : (Nat → Int → Int) → Prop} (k : ∀ h', (∀ b, ¬ b = 68 → ¬ b = 95 → ¬ b = 96 → h' b = h b) → (∀ i, ¬ i = 15 → ¬ i = 43 → h' 68 i = h 68 i) → SnM h' (nt C c z p) → K h') : MD_notes g h p x K := by
  have hN := W.2.1
  obtain ⟨S3, S4, S5⟩ := id S
  have cp := hi p
  have sz := W.sz p
  refine MD_notes_wp hG ?_
  simp (disch := omega) only [bd, forall_eq]
  rw [A p p0 p1]
  generalize hm : mw (mvUpd h 95 p (c p) 68 43 + 1) = m
  have en : nt C c z p = (fun q => if q = p then c p else z.1 q, fun j => if j / 4 = p ∧ ¬ j % 4 = p ∧ j % 4 < cN C then cOf C p 1 (j % 4) (c p) else z.2.1 j, lev c) := by unfold nt; rw [if_pos hz]
  have F0 : ∀ b, ¬ b = 68 → ¬ b = 95 → mvUpd (mvUpd (mvUpd h 95 p (c p)) 68 43 m) 68 15 x b = h b := fun b a1 a2 => by rw [upd_ob a1, upd_ob a1, upd_ob a2]
  have G0 : ∀ i, ¬ i = 15 → ¬ i = 43 → mvUpd (mvUpd (mvUpd h 95 p (c p)) 68 43 m) 68 15 x 68 i = h 68 i := fun i a1 a2 => by rw [upd_ix a1, upd_ix a2, upd_ob (by omega)]
  have key : ∀ q : Int, q ≤ cN C → 0 ≤ q → ∀ (h' : Nat → Int → Int) u, (∀ b, ¬ b = 96 → h' b = mvUpd (mvUpd (mvUpd h 95 p (c p)) 68 43 m) 68 15 x b) → (∀ j, 0 ≤ j → j < 16 → h' 96 j = if j / 4 = p ∧ ¬ j % 4 = p ∧ j % 4 < q then cOf C p 1 (j % 4) (c p) else z.2.1 j) → MD_notes_29 g h' p u q K := by
    refine up_ind ?_ ?_
    · intro _ h' u F D
      refine MD_notes_29_wp hG ⟨fun _ => k h' (fun b a1 a2 a3 => by rw [F b a3, F0 b a1 a2]) (fun i n1 n2 => by rw [F 68 (by omega), G0 i n1 n2]) ?_, fun y => absurd y (by rw [F 68 (by omega), G0 0 (by omega) (by omega), R.1]; omega)⟩
      rw [en]
      refine ⟨fun q q0 q1 => ?_, fun j j0 j1 => D j j0 j1, by rw [F 68 (by omega), upd_at]; exact hx⟩
      show h' 95 q = if q = p then c p else z.1 q
      rw [F 95 (by omega), upd_ob (by omega), upd_ob (by omega), upd_if]
      by_cases eq : q = p
      · rw [if_pos ⟨rfl, eq⟩, if_pos eq]
      · rw [if_neg (fun y => eq y.2), if_neg eq]; exact S3 q q0 q1
    · intro q hq ih q0 h' u F D
      have R' : MdR h' C := R.keep (by rw [F 68 (by omega), G0 0 (by omega) (by omega)]) (by rw [F 69 (by omega), F0 69 (by omega) (by omega)]) (by rw [F 70 (by omega), F0 70 (by omega) (by omega)]) (by rw [F 71 (by omega), F0 71 (by omega) (by omega)])
      refine MD_notes_29_wp hG ⟨fun y => absurd y (by rw [R'.1]; omega), fun _ => ?_⟩
      rw [mwi (z := q + 1) (by omega) (by omega)]
      refine ⟨fun eq => ih (by omega) h' _ F (fun j j0 j1 => ?_), fun ne => ⟨⟨p0, by omega⟩, ?_⟩⟩
      · rw [D j j0 j1]
        by_cases a : j / 4 = p ∧ ¬ j % 4 = p ∧ j % 4 < q
        · rw [if_pos a, if_pos (by omega)]
        · rw [if_neg a, if_neg (by omega)]
      · rw [F 81 (by omega), F0 81 (by omega) (by omega), A p p0 p1]
        refine MD_of_spec hG p0 (by omega) cp.1 (by omega) (R'.of p0 p1 cp.2) ?_
        simp (disch := omega) only [mwi, bd, forall_eq]
        refine ih (by omega) _ _ (fun b nb => by rw [upd_ob nb]; exact F b nb) (fun j j0 j1 => ?_)
        by_cases ej : j = 4 * p + q
        · rw [ej, upd_at, if_pos (by omega)]
          congr 1; omega
        · rw [upd_ix ej, D j j0 j1]
          by_cases a : j / 4 = p ∧ ¬ j % 4 = p ∧ j % 4 < q
          · rw [if_pos a, if_pos (by omega)]
          · rw [if_neg a, if_neg (by omega)]
  refine key 0 W.1 (Int.le_refl _) _ _ (fun b _ => rfl) (fun j j0 j1 => ?_)
  rw [if_neg (by omega), F0 96 (by omega) (by omega)]
  exact S4 j j0 j1
theorem MD_markerComes_spec (hG : Gok sw g) (R : MdR h C) (W : Wf C) (A : At h C c) (hi : In C c) (S : SnM h z) (I : MkI C z) {ch x : Int} (c0 : 0 ≤ ch) (c1 : ch < 16) (hm : ¬ z.2.1 ch = -1) (hx : x = lev c) {K : (Nat → Int → Int) → Prop} (k : ∀ h', (∀ b, ¬ b = 68 → ¬ b = 95 → ¬ b = 96 → h' b = h b) → (∀ i, ¬ i = 15 → ¬ i = 43 → h' 68 i = h 68 i) → SnM h' (ar C c z ch) → K h') : MD_markerComes g h ch x K := by
  obtain ⟨b1, b2, b3⟩ := I ch c0 c1 hm
  obtain ⟨S3, S4, S5⟩ := id S
  refine MD_markerComes_wp hG ?_
  have S' : SnM (mvUpd h 96 ch (-1)) (z.1, (fun j => if j = ch then -1 else z.2.1 j), z.2.2) := by
    refine ⟨fun q q0 q1 => by rw [upd_ob (by omega)]; exact S3 q q0 q1, fun j j0 j1 => ?_, by rw [upd_ob (by omega)]; exact S5⟩
    show mvUpd h 96 ch (-1) 96 j = if j = ch then -1 else z.2.1 j
    by_cases ej : j = ch
    · rw [ej, upd_at, if_pos rfl]
    · rw [upd_ix ej, if_neg ej]; exact S4 j j0 j1
  have R' : MdR (mvUpd h 96 ch (-1)) C := R.keep (by rw [upd_ob (by omega)]) (upd_ob (by omega)) (upd_ob (by omega)) (upd_ob (by omega))
  have A' : At (mvUpd h 96 ch (-1)) C c := fun p p0 p1 => by rw [upd_ob (by omega)]; exact A p p0 p1
  have s95 := S3 (ch % 4) (by omega) (by omega)
  simp (disch := omega) only [bd, forall_eq, tmd, upd_ob, s95]
  refine ⟨fun n => ?_, fun y => MD_notes_spec hG R' W A' hi S' (by omega) b3 y hx (fun h2 F2 G2 S2 => k h2 (fun b n1 n2 n3 => by rw [F2 b n1 n2 n3, upd_ob n3]) (fun i n1 n2 => by rw [G2 i n1 n2, upd_ob (by omega)]) S2)⟩
  have e : ar C c z ch = (z.1, (fun j => if j = ch then -1 else z.2.1 j), z.2.2) := by
    unfold ar nt
    rw [if_neg n]
  exact k _ (fun b n1 n2 n3 => upd_ob n3) (fun i n1 n2 => by rw [upd_ob (by omega)]) (by rw [e]; exact S')
theorem MD_markersCome_spec (hG : Gok sw g) (R : MdR h C) (W : Wf C) (A : At h C c) (hi : In C c) (S : SnM h z) (I : MkI C z) {x : Int} (hx : x = lev c) {K : (Nat → Int → Int) → Prop} (k : ∀ h', (∀ b, ¬ b = 68 → ¬ b = 95 → ¬ b = 96 → h' b = h b) → (∀ i, ¬ i = 15 → ¬ i = 43 → h' 68 i = h 68 i) → SnM h' (dl C c 16 z) → K h') : MD_markersCome g h x K := by
  refine MD_markersCome_wp hG ?_
  have key : ∀ (n : Nat) (h' : Nat → Int → Int) (z' : Sns), mu z' ≤ n → (∀ b, ¬ b = 68 → ¬ b = 95 → ¬ b = 96 → h' b = h b) → (∀ i, ¬ i = 15 → ¬ i = 43 → h' 68 i = h 68 i) → SnM h' z' → MkI C z' → dl C c 16 z' = dl C c 16 z → MD_nextMarker g h' 0 (fun r2 h1 => MD_markersCome_6 g h1 x r2 K) := by
    intro n
    induction n with
    | zero =>
      intro h' z' hm F G S' I' hd
      have R' : MdR h' C := R.keep (G 0 (by omega) (by omega)) (F 69 (by omega) (by omega) (by omega)) (F 70 (by omega) (by omega) (by omega)) (F 71 (by omega) (by omega) (by omega))
      have A' : At h' C c := fun p p0 p1 => by rw [F 81 (by omega) (by omega) (by omega)]; exact A p p0 p1
      refine MD_nextMarker_spec hG R' W A' hi S' I' (any := False) (x := 0) ⟨fun y => y.elim, fun y => absurd rfl y⟩ (MD_markersCome_6_wp hG ⟨fun he => ?_, fun hne => ?_⟩)
      · rw [dl_end he] at hd
        exact k h' F G (by rw [← hd]; exact S')
      · obtain ⟨a0, a1, a2⟩ := fm_c hne
        have := (ar_inv hi I' a0 a1 a2.1).2
        have := (mu_r (ar C c z' (fm C c False z'))).1
        omega
    | succ n ih =>
      intro h' z' hm F G S' I' hd
      have R' : MdR h' C := R.keep (G 0 (by omega) (by omega)) (F 69 (by omega) (by omega) (by omega)) (F 70 (by omega) (by omega) (by omega)) (F 71 (by omega) (by omega) (by omega))
      have A' : At h' C c := fun p p0 p1 => by rw [F 81 (by omega) (by omega) (by omega)]; exact A p p0 p1
      refine MD_nextMarker_spec hG R' W A' hi S' I' (any := False) (x := 0) ⟨fun y => y.elim, fun y => absurd rfl y⟩ (MD_markersCome_6_wp hG ⟨fun he => ?_, fun hne => ?_⟩)
      · rw [dl_end he] at hd
        exact k h' F G (by rw [← hd]; exact S')
      · obtain ⟨a0, a1, a2⟩ := fm_c hne
        have iv := ar_inv hi I' a0 a1 a2.1
        refine MD_markerComes_spec hG R' W A' hi S' I' a0 a1 a2.1 hx (fun h2 F2 G2 S2 => ?_)
        refine ih h2 _ (by omega) (fun b n1 n2 n3 => (F2 b n1 n2 n3).trans (F b n1 n2 n3)) (fun i n1 n2 => (G2 i n1 n2).trans (G i n1 n2)) S2 iv.1 ?_
        rw [← dl_step hi I' hne]; exact hd
  exact key 16 h z (mu_r z).2 (fun _ _ _ _ => rfl) (fun _ _ _ => rfl) S I rfl
theorem MD_shotNow_spec (hG : Gok sw g) (E : MdOk h C) {st : Int → Int} (Y : Way C st) (P2 : ∀ i, 0 ≤ i → i < cT C → h 75 i = st i) {p t : Int} (p0 : 0 ≤ p) (p1 : p < cN C) (t0 : 0 ≤ t) (t1 : t ≤ cT C) {K : Int → (Nat → Int → Int) → Prop}
    (k : ∀ h', (∀ b, ¬ b = 68 → ¬ b = 81 → ¬ b = 95 → ¬ b = 96 → h' b = h b) → (∀ i, ¬ i = 14 → ¬ i = 15 → ¬ i = 43 → h' 68 i = h 68 i) → h' 68 14 = (sn3 C st p t).2 → h' 68 15 = (sn3 C st p t).1.2.2 → K (tld (sn3 C st p t).1.1 (cN C)) h') : MD_shotNow g h p t K := by
  have V := E.2.2.1
  have W := V.1
  have hN := W.2.1
  have hn := E.2.2.2.2
  have hT := cT_r W
  have n := NP_le W
  have Yk := Y.ok W
  have kR : ∀ h' : Nat → Int → Int, (∀ b, ¬ b = 68 → ¬ b = 81 → ¬ b = 95 → ¬ b = 96 → h' b = h b) → h' 68 0 = h 68 0 → MdR h' C := fun h' F F0 => E.1.keep F0 (F 69 (by omega) (by omega) (by omega) (by omega)) (F 70 (by omega) (by omega) (by omega) (by omega)) (F 71 (by omega) (by omega) (by omega) (by omega))
  refine MD_shotNow_wp hG ?_
  -- what has been noted is told
  have last : ∀ q : Int, q ≤ 4 → 0 ≤ q → ∀ (h' : Nat → Int → Int) u v s, (∀ b, ¬ b = 68 → ¬ b = 81 → ¬ b = 95 → ¬ b = 96 → h' b = h b) → (∀ i, ¬ i = 14 → ¬ i = 15 → ¬ i = 43 → h' 68 i = h 68 i) → h' 68 14 = (sn3 C st p t).2 → SnM h' (sn3 C st p t).1 → (∀ r, 0 ≤ r → r < q → h' 81 r = (sn3 C st p t).1.1 r) → MD_shotNow_179 g h' u v s q K := by
    refine up_ind ?_ ?_
    · intro _ h' u v s F G f2 S D
      exact MD_shotNow_179_wp hG ⟨fun _ => MD_toldNow_tld hG (kR h' F (G 0 (by omega) (by omega) (by omega))) W (fun r r0 r1 => D r r0 (by omega)) (k h' F G f2 S.2.2), fun y => absurd y (by omega)⟩
    · intro q hq ih q0 h' u v s F G f2 S D
      refine MD_shotNow_179_wp hG ⟨fun y => absurd y (by omega), fun _ => ?_⟩
      simp (disch := omega) only [bd, forall_eq, mwi]
      obtain ⟨S3, S4, S5⟩ := S
      refine ih (by omega) _ u v s (fun b n1 n2 n3 n4 => by rw [upd_ob n2]; exact F b n1 n2 n3 n4) (fun i n1 n2 n3 => by rw [upd_ob (by omega)]; exact G i n1 n2 n3) (by rw [upd_ob (by omega)]; exact f2) ⟨fun r r0 r1 => by rw [upd_ob (by omega)]; exact S3 r r0 r1, fun j j0 j1 => by rw [upd_ob (by omega)]; exact S4 j j0 j1, by rw [upd_ob (by omega)]; exact S5⟩ (fun r r0 r1 => ?_)
      by_cases e : r = q
      · rw [e, upd_at]; exact S3 q q0 hq
      · rw [upd_ix e]; exact D r r0 (by omega)
  -- what is left is forced
  have force : ∀ (m : Nat) (h' : Nat → Int → Int) (z' : Sns) u v s, mu z' ≤ m → mu z' + h' 68 14 ≤ 16 → 0 ≤ h' 68 14 → (∀ b, ¬ b = 68 → ¬ b = 81 → ¬ b = 95 → ¬ b = 96 → h' b = h b) → (∀ i, ¬ i = 14 → ¬ i = 15 → ¬ i = 43 → h' 68 i = h 68 i) → At h' C (ctW st (cT C)) → SnM h' z' → MkI C z' → fo C (ctW st (cT C)) 16 (z', h' 68 14) = sn3 C st p t → MD_shotNow_139 g h' u v (cT C) s K := by
    intro m
    have hi := (Yk _ hT.1 (Int.le_refl _)).1
    have hl := (Yk _ hT.1 (Int.le_refl _)).2.2
    induction m with
    | zero =>
      intro h' z' u v s hm hs f0 F G A S I hd
      have R' := kR h' F (G 0 (by omega) (by omega) (by omega))
      refine MD_shotNow_139_wp hG (MD_nextMarker_spec hG R' W A hi S I (any := True) (x := 1) ⟨fun _ => by decide, fun _ => trivial⟩ ⟨fun he => ?_, fun hne => ?_⟩)
      · rw [fo_end (z := (z', h' 68 14)) he] at hd
        exact last 0 (by omega) (Int.le_refl _) h' _ _ _ F G (by rw [← hd]) (by rw [← hd]; exact S) (fun r r0 r1 => by omega)
      · obtain ⟨a0, a1, a2⟩ := fm_c hne
        have := (ar_inv hi I a0 a1 a2.1).2
        have := (mu_r (ar C (ctW st (cT C)) z' (fm C (ctW st (cT C)) True z'))).1
        omega
    | succ m ih =>
      intro h' z' u v s hm hs f0 F G A S I hd
      have R' := kR h' F (G 0 (by omega) (by omega) (by omega))
      refine MD_shotNow_139_wp hG (MD_nextMarker_spec hG R' W A hi S I (any := True) (x := 1) ⟨fun _ => by decide, fun _ => trivial⟩ ⟨fun he => ?_, fun hne => ?_⟩)
      · rw [fo_end (z := (z', h' 68 14)) he] at hd
        exact last 0 (by omega) (Int.le_refl _) h' _ _ _ F G (by rw [← hd]) (by rw [← hd]; exact S) (fun r r0 r1 => by omega)
      · obtain ⟨a0, a1, a2⟩ := fm_c hne
        have iv := ar_inv hi I a0 a1 a2.1
        have mr := (mu_r z').1
        have mr2 := (mu_r (ar C (ctW st (cT C)) z' (fm C (ctW st (cT C)) True z'))).1
        refine MD_nextMarker_spec hG R' W A hi S I (any := True) (x := 1) ⟨fun _ => by decide, fun _ => trivial⟩ ?_
        refine MD_markerComes_spec hG R' W A hi S I a0 a1 a2.1 hl.symm (fun h5 F5 G5 S5 => ?_)
        have e14 : h5 68 14 = h' 68 14 := G5 14 (by omega) (by omega)
        simp only [forall_eq]
        rw [e14, mwi (by omega) (by omega)]
        have F6 : ∀ b, ¬ b = 68 → ¬ b = 81 → ¬ b = 95 → ¬ b = 96 → mvUpd h5 68 14 (h' 68 14 + 1) b = h b := fun b n1 n2 n3 n4 => by rw [upd_ob n1, F5 b n1 n3 n4]; exact F b n1 n2 n3 n4
        have R6 := kR _ F6 (by rw [upd_ix (by omega), G5 0 (by omega) (by omega)]; exact G 0 (by omega) (by omega) (by omega))
        have A6 : At (mvUpd h5 68 14 (h' 68 14 + 1)) C (ctW st (cT C)) := fun q q0 q1 => by rw [upd_ob (by omega), F5 81 (by omega) (by omega) (by omega)]; exact A q q0 q1
        have S6 : SnM (mvUpd h5 68 14 (h' 68 14 + 1)) (ar C (ctW st (cT C)) z' (fm C (ctW st (cT C)) True z')) := ⟨fun r r0 r1 => by rw [upd_ob (by omega)]; exact S5.1 r r0 r1, fun j j0 j1 => by rw [upd_ob (by omega)]; exact S5.2.1 j j0 j1, by rw [upd_ix (by omega)]; exact S5.2.2⟩
        refine MD_markersCome_spec hG R6 W A6 hi S6 iv.1 hl.symm (fun h7 F7 G7 S7 => ?_)
        have e7 : h7 68 14 = h' 68 14 + 1 := by rw [G7 14 (by omega) (by omega), upd_at]
        have di := dl_inv hi 16 _ iv.1
        refine ih h7 _ u v s (by omega) (by omega) (by omega) (fun b n1 n2 n3 n4 => by rw [F7 b n1 n3 n4]; exact F6 b n1 n2 n3 n4) (fun i n1 n2 n3 => by rw [G7 i n2 n3, upd_ix n1, G5 i n2 n3]; exact G i n1 n2 n3) (fun q q0 q1 => by rw [F7 81 (by omega) (by omega) (by omega)]; exact A6 q q0 q1) S7 di.1 ?_
        rw [← hd, e7]
        exact (fo_step hi (z := (z', h' 68 14)) I hne).symm
  -- one event more of the play
  have more : ∀ i, 0 ≤ i → i < cT C → ∀ (h' : Nat → Int → Int), (∀ b, ¬ b = 68 → ¬ b = 81 → ¬ b = 95 → ¬ b = 96 → h' b = h b) → At h' C (ctW st i) → mw (h' 81 (st i) + 1) = ctW st i (st i) + 1 ∧ At (mvUpd h' 81 (st i) (ctW st i (st i) + 1)) C (ctW st (i + 1)) := by
    intro i i0 i1 h' F A
    obtain ⟨s0, s1, s2⟩ := Y i i0 i1
    have cs := (Yk i i0 (by omega)).1 (st i)
    have sz := W.sz (st i)
    refine ⟨by rw [A _ s0 s1, mwi (by omega) (by omega)], fun q q0 q1 => ?_⟩
    rw [ctW_s i0]
    by_cases e : q = st i
    · rw [e, upd_at, inc_at]
    · rw [upd_ix e, inc_ne e]; exact A q q0 q1
  have goon : ∀ i : Int, i ≤ cT C → t ≤ i → ∀ (h' : Nat → Int → Int) u v, (∀ b, ¬ b = 68 → ¬ b = 81 → ¬ b = 95 → ¬ b = 96 → h' b = h b) → (∀ i, ¬ i = 14 → ¬ i = 15 → ¬ i = 43 → h' 68 i = h 68 i) → h' 68 14 = 0 → At h' C (ctW st i) → SnM h' (sn2 C st p t (i - t)) → MD_shotNow_103 g h' u v (cT C) i K := by
    refine up_ind ?_ ?_
    · intro _ h' u v F G f2 A S
      have iv := sn2_inv W Y p0 p1 t0 (cT C - t) (by omega) (by omega)
      have mr := mu_r (sn2 C st p t (cT C - t))
      exact MD_shotNow_103_wp hG ⟨fun _ => force 16 h' _ _ _ _ mr.2 (by omega) (by omega) F G A S iv (by rw [f2]; rfl), fun y => absurd y (by omega)⟩
    · intro i hi ih i0 h' u v F G f2 A S
      obtain ⟨s0, s1, s2⟩ := Y i (by omega) hi
      obtain ⟨d1, d2, d3⟩ := Yk (i + 1) (by omega) (by omega)
      obtain ⟨m1, m2⟩ := more i (by omega) hi h' F A
      have e75 : h' 75 i = st i := by rw [F 75 (by omega) (by omega) (by omega) (by omega)]; exact P2 i (by omega) hi
      refine MD_shotNow_103_wp hG ⟨fun y => absurd y (by omega), fun _ => ?_⟩
      simp (disch := omega) only [bd, forall_eq, e75, m1]
      have F1 : ∀ b, ¬ b = 68 → ¬ b = 81 → ¬ b = 95 → ¬ b = 96 → mvUpd h' 81 (st i) (ctW st i (st i) + 1) b = h b := fun b n1 n2 n3 n4 => by rw [upd_ob n2]; exact F b n1 n2 n3 n4
      have R1 := kR _ F1 (by rw [upd_ob (by omega)]; exact G 0 (by omega) (by omega) (by omega))
      have S1 : SnM (mvUpd h' 81 (st i) (ctW st i (st i) + 1)) (sn2 C st p t (i - t)) := ⟨fun r r0 r1 => by rw [upd_ob (by omega)]; exact S.1 r r0 r1, fun j j0 j1 => by rw [upd_ob (by omega)]; exact S.2.1 j j0 j1, by rw [upd_ob (by omega)]; exact S.2.2⟩
      rw [mwi (z := i + 1) (by omega) (by omega)]
      refine MD_markersCome_spec hG R1 W m2 d1 S1 (sn2_inv W Y p0 p1 t0 _ (by omega) (by omega)) d3.symm (fun h4 F4 G4 S4 => ?_)
      refine ih (by omega) h4 u v (fun b n1 n2 n3 n4 => by rw [F4 b n1 n3 n4]; exact F1 b n1 n2 n3 n4) (fun i n1 n2 n3 => by rw [G4 i n2 n3, upd_ob (by omega)]; exact G i n1 n2 n3) (by rw [G4 14 (by omega) (by omega), upd_ob (by omega)]; exact f2) (fun q q0 q1 => by rw [F4 81 (by omega) (by omega) (by omega)]; exact m2 q q0 q1) ?_
      rw [show i + 1 - t = i - t + 1 by omega, sn2_s (by omega), show t + (i - t) + 1 = i + 1 by omega]
      exact S4
  have ahead : ∀ i : Int, i ≤ t → 0 ≤ i → ∀ (h' : Nat → Int → Int) u, (∀ b, ¬ b = 68 → ¬ b = 81 → ¬ b = 95 → ¬ b = 96 → h' b = h b) → (∀ i, ¬ i = 14 → ¬ i = 15 → ¬ i = 43 → h' 68 i = h 68 i) → h' 68 14 = 0 → At h' C (ctW st i) → SnM h' (sn0.1, sn0.2.1, h' 68 15) → MD_shotNow_58 g h' p t i u K := by
    refine up_ind ?_ ?_
    · intro _ h' u F G f2 A S
      obtain ⟨c1, c2, c3⟩ := Yk t t0 t1
      have R' := kR h' F (G 0 (by omega) (by omega) (by omega))
      refine MD_shotNow_58_wp hG ⟨fun _ => MD_notes_spec hG R' W A c1 S p0 p1 rfl c3.symm (fun h1 F1 G1 S1 => ?_), fun y => absurd y (by omega)⟩
      have en : nt C (ctW st t) (sn0.1, sn0.2.1, h' 68 15) p = nt C (ctW st t) sn0 p := by
        have e1 : sn0.1 p = -1 := rfl
        unfold nt
        rw [if_pos e1, if_pos e1]
      rw [en] at S1
      have F1' : ∀ b, ¬ b = 68 → ¬ b = 81 → ¬ b = 95 → ¬ b = 96 → h1 b = h b := fun b n1 n2 n3 n4 => by rw [F1 b n1 n3 n4]; exact F b n1 n2 n3 n4
      have R1 := kR h1 F1' (by rw [G1 0 (by omega) (by omega)]; exact G 0 (by omega) (by omega) (by omega))
      have A1 : At h1 C (ctW st t) := fun q q0 q1 => by rw [F1 81 (by omega) (by omega) (by omega)]; exact A q q0 q1
      refine MD_markersCome_spec hG R1 W A1 c1 S1 (nt_inv c1 sn0_inv p0 p1).1 c3.symm (fun h2 F2 G2 S2 => ?_)
      have F2' : ∀ b, ¬ b = 68 → ¬ b = 81 → ¬ b = 95 → ¬ b = 96 → h2 b = h b := fun b n1 n2 n3 n4 => by rw [F2 b n1 n3 n4]; exact F1' b n1 n2 n3 n4
      have G2' : ∀ i, ¬ i = 14 → ¬ i = 15 → ¬ i = 43 → h2 68 i = h 68 i := fun i n1 n2 n3 => by rw [G2 i n2 n3, G1 i n2 n3]; exact G i n1 n2 n3
      refine MD_eventsAll_spec hG (kR h2 F2' (G2' 0 (by omega) (by omega) (by omega))) W ?_
      refine goon t t1 (Int.le_refl _) h2 _ _ F2' G2' (by rw [G2 14 (by omega) (by omega), G1 14 (by omega) (by omega)]; exact f2) (fun q q0 q1 => by rw [F2 81 (by omega) (by omega) (by omega)]; exact A1 q q0 q1) ?_
      rw [show t - t = 0 by omega]
      exact S2
    · intro i hi ih i0 h' u F G f2 A S
      obtain ⟨s0, s1, s2⟩ := Y i i0 (by omega)
      obtain ⟨m1, m2⟩ := more i i0 (by omega) h' F A
      have e75 : h' 75 i = st i := by rw [F 75 (by omega) (by omega) (by omega) (by omega)]; exact P2 i i0 (by omega)
      refine MD_shotNow_58_wp hG ⟨fun y => absurd y (by omega), fun _ => ?_⟩
      simp (disch := omega) only [bd, forall_eq, e75, m1]
      rw [mwi (z := i + 1) (by omega) (by omega)]
      refine ih (by omega) _ u (fun b n1 n2 n3 n4 => by rw [upd_ob n2]; exact F b n1 n2 n3 n4) (fun i n1 n2 n3 => by rw [upd_ob (by omega)]; exact G i n1 n2 n3) (by rw [upd_ob (by omega)]; exact f2) m2 ⟨fun r r0 r1 => by rw [upd_ob (by omega)]; exact S.1 r r0 r1, fun j j0 j1 => by rw [upd_ob (by omega)]; exact S.2.1 j j0 j1, rfl⟩
  have second : ∀ i : Int, i ≤ 4 → 0 ≤ i → ∀ (h' : Nat → Int → Int) u, (∀ b, ¬ b = 95 → ¬ b = 96 → h' b = h b) → (∀ j, 0 ≤ j → j < 16 → h' 96 j = -1) → (∀ j, 0 ≤ j → j < i → h' 95 j = -1) → MD_shotNow_23 g h' p t i u K := by
    refine up_ind ?_ ?_
    · intro _ h' u F D1 D2
      refine MD_shotNow_23_wp hG ⟨fun _ => ?_, fun y => absurd y (by omega)⟩
      simp only [forall_eq]
      have F1 : ∀ b, ¬ b = 68 → ¬ b = 81 → ¬ b = 95 → ¬ b = 96 → mvUpd (mvUpd h' 68 43 0) 68 14 0 b = h b := fun b n1 n2 n3 n4 => by rw [upd_ob n1, upd_ob n1]; exact F b n3 n4
      have R1 := kR _ F1 (by rw [upd_ix (by omega), upd_ix (by omega), F 68 (by omega) (by omega)])
      refine MD_take_spec hG R1 W hn (Int.le_refl _) (by omega) (fun h3 F3 A3 => ?_)
      rw [ctI_0 W] at A3
      refine ahead 0 t0 (Int.le_refl _) h3 u (fun b n1 n2 n3 n4 => by rw [F3 b n2]; exact F1 b n1 n2 n3 n4) (fun i n1 n2 n3 => by rw [F3 68 (by omega), upd_ix n1, upd_ix n3, F 68 (by omega) (by omega)]) (by rw [F3 68 (by omega), upd_at]) A3 ⟨fun r r0 r1 => ?_, fun j j0 j1 => ?_, rfl⟩
      · rw [F3 95 (by omega), upd_ob (by omega), upd_ob (by omega), D2 r r0 r1]; rfl
      · rw [F3 96 (by omega), upd_ob (by omega), upd_ob (by omega), D1 j j0 j1]; rfl
    · intro i hi ih i0 h' u F D1 D2
      refine MD_shotNow_23_wp hG ⟨fun y => absurd y (by omega), fun _ => ?_⟩
      simp (disch := omega) only [bd, forall_eq, mwi]
      refine ih (by omega) _ u (fun b n1 n2 => by rw [upd_ob n1]; exact F b n1 n2) (fun j j0 j1 => by rw [upd_ob (by omega)]; exact D1 j j0 j1) (fun j j0 j1 => ?_)
      by_cases e : j = i
      · rw [e, upd_at]
      · rw [upd_ix e]; exact D2 j j0 (by omega)
  have first : ∀ i : Int, i ≤ 16 → 0 ≤ i → ∀ (h' : Nat → Int → Int) u, (∀ b, ¬ b = 96 → h' b = h b) → (∀ j, 0 ≤ j → j < i → h' 96 j = -1) → MD_shotNow_2 g h' p t i u K := by
    refine up_ind ?_ ?_
    · intro _ h' u F D1
      exact MD_shotNow_2_wp hG ⟨fun _ => second 0 (by omega) (Int.le_refl _) h' u (fun b n1 n2 => F b n2) D1 (fun j j0 j1 => by omega), fun y => absurd y (by omega)⟩
    · intro i hi ih i0 h' u F D1
      refine MD_shotNow_2_wp hG ⟨fun y => absurd y (by omega), fun _ => ?_⟩
      simp (disch := omega) only [bd, forall_eq, mwi]
      refine ih (by omega) _ u (fun b nb => by rw [upd_ob nb]; exact F b nb) (fun j j0 j1 => ?_)
      by_cases e : j = i
      · rw [e, upd_at]
      · rw [upd_ix e]; exact D1 j j0 (by omega)
  exact first 0 (by omega) (Int.le_refl _) h none (fun _ _ => rfl) (fun j j0 j1 => by omega)
end MD
