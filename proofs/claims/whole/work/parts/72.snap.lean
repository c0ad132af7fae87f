/-! snapshots: noted counts, markers on their way (by channel), how many events had come at the last note -/
abbrev Sns : Type := (Int → Int) × (Int → Int) × Int
noncomputable def nt (C : Cmp) (c : Int → Int) (z : Sns) (p : Int) : Sns := if z.1 p = -1 then (fun q => if q = p then c p else z.1 q, fun j => if j / 4 = p ∧ ¬ j % 4 = p ∧ j % 4 < cN C then cOf C p 1 (j % 4) (c p) else z.2.1 j, lev c) else z
noncomputable def ar (C : Cmp) (c : Int → Int) (z : Sns) (ch : Int) : Sns := nt C c (z.1, fun j => if j = ch then -1 else z.2.1 j, z.2.2) (ch % 4)
def mkP (C : Cmp) (c : Int → Int) (any : Prop) (z : Sns) (ch : Int) : Prop := ¬ z.2.1 ch = -1 ∧ (any ∨ z.2.1 ch ≤ cOf C (ch % 4) 2 (ch / 4) (c (ch % 4)))
noncomputable def fm (C : Cmp) (c : Int → Int) (any : Prop) (z : Sns) : Int := fst (mkP C c any z) 16
noncomputable def dl (C : Cmp) (c : Int → Int) : Nat → Sns → Sns
  | 0, z => z
  | n + 1, z => if fm C c False z = -1 then z else dl C c n (ar C c z (fm C c False z))
noncomputable def fo (C : Cmp) (c : Int → Int) : Nat → Sns × Int → Sns × Int
  | 0, z => z
  | n + 1, z => if fm C c True z.1 = -1 then z else fo C c n (dl C c 16 (ar C c z.1 (fm C c True z.1)), z.2 + 1)
/-- who has a marker on its way has noted -/
def MkI (C : Cmp) (z : Sns) : Prop := ∀ ch, 0 ≤ ch → ch < 16 → ¬ z.2.1 ch = -1 → ¬ z.1 (ch / 4) = -1 ∧ ch / 4 < cN C ∧ ch % 4 < cN C
def muP (z : Sns) (ch : Int) : Prop := z.1 (ch / 4) = -1 ∨ ¬ z.2.1 ch = -1
noncomputable def mu (z : Sns) : Int := cntI (muP z) 16
theorem cntI_sub {P Q : Int → Prop} {k : Int} (hk : 0 ≤ k) (h : ∀ i, 0 ≤ i → i < k → P i → Q i) : cntI P k ≤ cntI Q k := sumI_le hk (fun i i0 i1 => by
  rcases pick01 (P := P i) with ⟨z, e⟩ | ⟨z, e⟩
  · rw [e, pick_t (h i i0 i1 z)]; exact Int.le_refl _
  · rw [e]
    rcases pick01 (P := Q i) with ⟨_, e⟩ | ⟨_, e⟩ <;> rw [e] <;> omega)
theorem cntI_less {P Q : Int → Prop} {k j : Int} (h : ∀ i, 0 ≤ i → i < k → P i → Q i) (j0 : 0 ≤ j) (j1 : j < k) (hq : Q j) (hp : ¬ P j) : cntI P k + 1 ≤ cntI Q k := by
  have e := cntI_add (P := fun i => Q i ∧ ¬ i = j) (Q := fun i => i = j) (R := Q) (k := k) (by omega) (fun i i0 i1 => ⟨⟨fun z => by
    by_cases e : i = j
    · exact Or.inr e
    · exact Or.inl ⟨z, e⟩, fun z => by
    rcases z with z | z
    · exact z.1
    · rw [z]; exact hq⟩, fun z => z.1.2 z.2⟩)
  have s := cntI_sub (P := P) (Q := fun i => Q i ∧ ¬ i = j) (k := k) (by omega) (fun i i0 i1 z => ⟨h i i0 i1 z, fun y => hp (by rw [← y]; exact z)⟩)
  have l := cntI_lt (P := fun i => i = j) j0 j1 rfl
  have l0 := (cntI_r (P := fun i => i = j) j0).1
  omega
theorem mu_r (z : Sns) : 0 ≤ mu z ∧ mu z ≤ 16 := cntI_r (by omega)
theorem nt_inv {C : Cmp} {c : Int → Int} (hi : In C c) {z : Sns} (I : MkI C z) {p : Int} (p0 : 0 ≤ p) (p1 : p < cN C) : MkI C (nt C c z p) ∧ mu (nt C c z p) ≤ mu z := by
  unfold nt
  have hc := (hi p).1
  split
  · rename_i hz
    refine ⟨fun ch c0 c1 hm => ?_, cntI_sub (by omega) (fun ch c0 c1 y => ?_)⟩
    · simp only at hm ⊢
      by_cases a : ch / 4 = p ∧ ¬ ch % 4 = p ∧ ch % 4 < cN C
      · rw [if_pos a.1]
        exact ⟨by omega, by omega, a.2.2⟩
      · rw [if_neg a] at hm
        obtain ⟨b1, b2, b3⟩ := I ch c0 c1 hm
        have ne : ¬ ch / 4 = p := fun e => b1 (by rw [e]; exact hz)
        rw [if_neg ne]
        exact ⟨b1, b2, b3⟩
    · unfold muP at y ⊢
      simp only at y
      by_cases e : ch / 4 = p
      · rw [e]; exact Or.inl hz
      · rw [if_neg e, if_neg (fun a => e a.1)] at y
        exact y
  · exact ⟨I, Int.le_refl _⟩
theorem ar_inv {C : Cmp} {c : Int → Int} (hi : In C c) {z : Sns} (I : MkI C z) {ch : Int} (c0 : 0 ≤ ch) (c1 : ch < 16) (hm : ¬ z.2.1 ch = -1) : MkI C (ar C c z ch) ∧ mu (ar C c z ch) + 1 ≤ mu z := by
  obtain ⟨b1, b2, b3⟩ := I ch c0 c1 hm
  have I2 : MkI C (z.1, (fun j => if j = ch then -1 else z.2.1 j), z.2.2) := fun j j0 j1 hj => by
    simp only at hj ⊢
    by_cases e : j = ch
    · rw [if_pos e] at hj; exact absurd rfl hj
    · rw [if_neg e] at hj; exact I j j0 j1 hj
  obtain ⟨n1, n2⟩ := nt_inv hi I2 (p := ch % 4) (by omega) b3
  refine ⟨n1, ?_⟩
  have l : mu (z.1, (fun j => if j = ch then -1 else z.2.1 j), z.2.2) + 1 ≤ mu z := by
    refine cntI_less (j := ch) (fun j j0 j1 y => ?_) c0 c1 (Or.inr hm) (fun y => ?_)
    · unfold muP at y ⊢
      simp only at y
      by_cases e : j = ch
      · rw [e]; exact Or.inr hm
      · rw [if_neg e] at y; exact y
    · unfold muP at y
      simp only [if_pos] at y
      rcases y with y | y
      · exact b1 y
      · exact y trivial
  have e : mu (ar C c z ch) ≤ mu (z.1, (fun j => if j = ch then -1 else z.2.1 j), z.2.2) := n2
  omega
theorem fm_c {C : Cmp} {c : Int → Int} {any : Prop} {z : Sns} (h : ¬ fm C c any z = -1) : 0 ≤ fm C c any z ∧ fm C c any z < 16 ∧ mkP C c any z (fm C c any z) := by
  rcases fst_cases (P := mkP C c any z) (n := 16) (by omega) with ⟨e, -⟩ | ⟨a1, a2, a3, -⟩
  · exact absurd e h
  · exact ⟨a1, a2, a3⟩
theorem dl_inv {C : Cmp} {c : Int → Int} (hi : In C c) : ∀ (n : Nat) (z : Sns), MkI C z → MkI C (dl C c n z) ∧ mu (dl C c n z) ≤ mu z := by
  intro n
  induction n with
  | zero => intro z I; exact ⟨I, Int.le_refl _⟩
  | succ n ih =>
    intro z I
    show MkI C (if fm C c False z = -1 then z else dl C c n (ar C c z (fm C c False z))) ∧ mu (if fm C c False z = -1 then z else dl C c n (ar C c z (fm C c False z))) ≤ mu z
    split
    · exact ⟨I, Int.le_refl _⟩
    · rename_i h
      obtain ⟨a0, a1, a2⟩ := fm_c h
      obtain ⟨i1, i2⟩ := ar_inv hi I a0 a1 a2.1
      obtain ⟨j1, j2⟩ := ih _ i1
      exact ⟨j1, by omega⟩
theorem dl_more {C : Cmp} {c : Int → Int} (hi : In C c) : ∀ (n : Nat) (z : Sns), MkI C z → mu z ≤ n → dl C c (n + 1) z = dl C c n z := by
  intro n
  induction n with
  | zero =>
    intro z I hm
    have e : fm C c False z = -1 := Classical.byContradiction (fun h => by
      obtain ⟨a0, a1, a2⟩ := fm_c h
      have := (ar_inv hi I a0 a1 a2.1).2
      have := (mu_r (ar C c z (fm C c False z))).1
      omega)
    show (if fm C c False z = -1 then z else _) = z
    rw [if_pos e]
  | succ n ih =>
    intro z I hm
    show (if fm C c False z = -1 then z else dl C c (n + 1) (ar C c z (fm C c False z))) = (if fm C c False z = -1 then z else dl C c n (ar C c z (fm C c False z)))
    split
    · rfl
    · rename_i h
      obtain ⟨a0, a1, a2⟩ := fm_c h
      obtain ⟨i1, i2⟩ := ar_inv hi I a0 a1 a2.1
      exact ih _ i1 (by omega)
theorem dl_step {C : Cmp} {c : Int → Int} (hi : In C c) {z : Sns} (I : MkI C z) (h : ¬ fm C c False z = -1) : dl C c 16 z = dl C c 16 (ar C c z (fm C c False z)) := by
  obtain ⟨a0, a1, a2⟩ := fm_c h
  obtain ⟨i1, i2⟩ := ar_inv hi I a0 a1 a2.1
  have := mu_r z
  rw [dl_more hi 15 (ar C c z (fm C c False z)) i1 (by omega)]
  show (if fm C c False z = -1 then z else _) = _
  rw [if_neg h]
theorem dl_end {C : Cmp} {c : Int → Int} {z : Sns} (h : fm C c False z = -1) {n : Nat} : dl C c n z = z := by
  cases n with
  | zero => rfl
  | succ n =>
    show (if fm C c False z = -1 then z else _) = _
    rw [if_pos h]
theorem fo_more {C : Cmp} {c : Int → Int} (hi : In C c) : ∀ (n : Nat) (z : Sns × Int), MkI C z.1 → mu z.1 ≤ n → fo C c (n + 1) z = fo C c n z := by
  intro n
  induction n with
  | zero =>
    intro z I hm
    have e : fm C c True z.1 = -1 := Classical.byContradiction (fun h => by
      obtain ⟨a0, a1, a2⟩ := fm_c h
      have := (ar_inv hi I a0 a1 a2.1).2
      have := (mu_r (ar C c z.1 (fm C c True z.1))).1
      omega)
    show (if fm C c True z.1 = -1 then z else _) = z
    rw [if_pos e]
  | succ n ih =>
    intro z I hm
    show (if fm C c True z.1 = -1 then z else fo C c (n + 1) (dl C c 16 (ar C c z.1 (fm C c True z.1)), z.2 + 1)) = (if fm C c True z.1 = -1 then z else fo C c n (dl C c 16 (ar C c z.1 (fm C c True z.1)), z.2 + 1))
    split
    · rfl
    · rename_i h
      obtain ⟨a0, a1, a2⟩ := fm_c h
      obtain ⟨i1, i2⟩ := ar_inv hi I a0 a1 a2.1
      obtain ⟨j1, j2⟩ := dl_inv hi 16 _ i1
      exact ih _ j1 (by show mu (dl C c 16 (ar C c z.1 (fm C c True z.1))) ≤ n; omega)
theorem fo_step {C : Cmp} {c : Int → Int} (hi : In C c) {z : Sns × Int} (I : MkI C z.1) (h : ¬ fm C c True z.1 = -1) : fo C c 16 z = fo C c 16 (dl C c 16 (ar C c z.1 (fm C c True z.1)), z.2 + 1) := by
  obtain ⟨a0, a1, a2⟩ := fm_c h
  obtain ⟨i1, i2⟩ := ar_inv hi I a0 a1 a2.1
  obtain ⟨j1, j2⟩ := dl_inv hi 16 _ i1
  have := mu_r z.1
  rw [fo_more hi 15 (dl C c 16 (ar C c z.1 (fm C c True z.1)), z.2 + 1) j1 (by show mu (dl C c 16 (ar C c z.1 (fm C c True z.1))) ≤ 15; omega)]
  show (if fm C c True z.1 = -1 then z else _) = _
  rw [if_neg h]
theorem fo_end {C : Cmp} {c : Int → Int} {z : Sns × Int} (h : fm C c True z.1 = -1) {n : Nat} : fo C c n z = z := by
  cases n with
  | zero => rfl
  | succ n =>
    show (if fm C c True z.1 = -1 then z else _) = _
    rw [if_pos h]
/-- the snapshot: begun, the play gone on with, what is left forced -/
def sn0 : Sns := (fun _ => -1, fun _ => -1, 0)
noncomputable def sn1 (C : Cmp) (st : Int → Int) (p t : Int) : Sns := dl C (ctW st t) 16 (nt C (ctW st t) sn0 p)
noncomputable def sn2 (C : Cmp) (st : Int → Int) (p t k : Int) : Sns := it (fun j z => dl C (ctW st (t + j + 1)) 16 z) (sn1 C st p t) k
theorem sn2_s {C : Cmp} {st : Int → Int} {p t k : Int} (h : 0 ≤ k) : sn2 C st p t (k + 1) = dl C (ctW st (t + k + 1)) 16 (sn2 C st p t k) := by unfold sn2; rw [it_s h]
noncomputable def sn3 (C : Cmp) (st : Int → Int) (p t : Int) : Sns × Int := fo C (ctW st (cT C)) 16 (sn2 C st p t (cT C - t), 0)
/-- a cut as it is told, out of any numbers -/
def tld (o : Int → Int) (k : Int) : Int := it (fun p s => mw (mw (s * 10) + o p)) 0 k
theorem tld_s {o : Int → Int} {k : Int} (h : 0 ≤ k) : tld o (k + 1) = mw (mw (tld o k * 10) + o k) := by unfold tld; rw [it_s h]
theorem sn0_inv {C : Cmp} : MkI C sn0 := fun ch _ _ h => absurd rfl h
theorem sn1_inv {C : Cmp} (W : Wf C) {st : Int → Int} (Y : Way C st) {p t : Int} (p0 : 0 ≤ p) (p1 : p < cN C) (t0 : 0 ≤ t) (t1 : t ≤ cT C) : MkI C (sn1 C st p t) := by
  have hi := (Y.ok W t t0 t1).1
  exact (dl_inv hi 16 _ (nt_inv hi sn0_inv p0 p1).1).1
theorem sn2_inv {C : Cmp} (W : Wf C) {st : Int → Int} (Y : Way C st) {p t : Int} (p0 : 0 ≤ p) (p1 : p < cN C) (t0 : 0 ≤ t) : ∀ k, 0 ≤ k → t + k ≤ cT C → MkI C (sn2 C st p t k) := by
  refine int_ind ?_ ?_
  · intro h
    exact sn1_inv W Y p0 p1 t0 (by omega)
  · intro k k0 ih hk
    rw [sn2_s k0]
    exact (dl_inv ((Y.ok W (t + k + 1) (by omega) (by omega)).1) 16 _ (ih (by omega))).1
