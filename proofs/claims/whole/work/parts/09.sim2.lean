section MVS
variable {p : Program} {l : Launch} {e : Env} {R : Room} {s : State} {m : MethodId} {args : Array Value} {below : List Frame} {meth : Method} {c : Code} {Q : State → Prop}
variable {b : mvBs} {D : va_G} {cA0 cA1 : ClassId} {t1 t2 : Int → Int} {Ls n0 own rk : Nat} {ini : Bool} {cc : ByteArray}
theorem mvCe_arr {σ : mvS} {a : Nat} (h : (mvSH a).1 = 1) : mvCe b cA0 cA1 σ a = .inl (if (mvSH a).2.1 = 0 then cA0 else cA1, (mvSH a).2.2, .inl (fun i => Int32.ofInt (σ.2.2 a (i : Int)))) := by
  unfold mvCe
  rw [if_neg (by omega)]
theorem mv_toNat {i : Int} (h : 0 ≤ i) : ((i.toNat : Nat) : Int) = i := Int.toNat_of_nonneg h
theorem mvArr_cases {σ : mvS} {a : Nat} (h : (mvArr σ a).1 = 1) : (a = 1 ∧ (mvArr σ a).2 = (0, 4)) ∨ (a = 2 ∧ (mvArr σ a).2 = (0, σ.2.2 2 (-1))) ∨ (3 ≤ a ∧ a < σ.1 ∧ (mvSH a).1 = 1 ∧ (mvArr σ a).2 = ((mvSH a).2.1, ((mvSH a).2.2 : Int))) := by
  unfold mvArr at h ⊢
  by_cases h1 : a = 1
  · simp [h1]
  by_cases h2 : a = 2
  · simp [h2]
  simp only [h1, h2, if_false] at h ⊢
  obtain ⟨q1, q2, q3⟩ := mvIs_arr h
  rw [q3]
  exact Or.inr (Or.inr ⟨q1, q2, h, rfl⟩)
theorem mvLf_12 {a : Nat} {i : Int} (h : a = 1 ∨ a = 2) : ¬ mvLf a i := by
  rintro ⟨f, -, h2, -⟩
  rcases h with rfl | rfl <;> exact absurd h2 (by decide)
theorem mvs_iald {L : mvL} {S : List mvV} {σ : mvS} {pc a : Nat} {i : Int} (Cx : mvCx p R s m args meth c b D cA0 cA1 t1 t2 Ls own rk ini cc) (hd : decode cc pc = .ok (.iaload, 1)) (h1 : (mvArr σ a).1 = 1) (h2 : (mvArr σ a).2.1 = 0) (h3 : 0 ≤ i) (h4 : i < (mvArr σ a).2.2)
    (kk : mvW p l e R s m args below meth c Q b D cA0 cA1 t1 t2 n0 (pc + 1) L (mvI (σ.2.2 a i) :: S) σ) : mvW p l e R s m args below meth c Q b D cA0 cA1 t1 t2 n0 pc L (mvI i :: mvR a :: S) σ := by
  intro H locs ls h
  have hi : mv32 i := h.2.1 (mvI i) List.mem_cons_self
  have hS : ∀ v ∈ S, mvOk v := fun v hv => h.2.1 v (List.mem_cons_of_mem _ (List.mem_cons_of_mem _ hv))
  obtain ⟨hx, hb, hown, hin, hts, -, -, hE⟩ := Cx
  obtain ⟨E1, E2, E3, E4, E5, E6, E7, E8, E9, E10⟩ := hE
  have hv : mvOk (mvI (σ.2.2 a i)) := (h.1.2.1 a i).2 (by
    rcases mvArr_cases h1 with ⟨q, -⟩ | ⟨q, -⟩ | ⟨-, -, q, -⟩
    · exact mvLf_12 (Or.inl q)
    · exact mvLf_12 (Or.inr q)
    · exact mvLf_arr q)
  have K := mvs_put kk h hS hv
  show W p l e R s m args below meth c H locs (σ.1 - n0) (mvSz σ.1 - mvSz n0) Q (F0 m pc ls (.int (Int32.ofInt i) :: .ref (mvB b a) :: S.map (mvRv b)))
  have hc : (((Int32.ofInt i).toNatClampNeg : Nat) : Int) = i := by rw [m_clamp hi, mv_toNat h3]
  rcases mvArr_cases h1 with ⟨rfl, q⟩ | ⟨rfl, q⟩ | ⟨q1, q2, q3, q⟩
  · rw [q] at h4
    obtain ⟨cell, y1, y2, y3, y4, y5, y6, y7⟩ := E3
    have hlt : (Int32.ofInt i).toNatClampNeg < 4 := by rw [m_clamp hi]; simp only at h4; omega
    have K' : W p l e R s m args below meth c H locs (σ.1 - n0) (mvSz σ.1 - mvSz n0) Q (F0 m (pc + 1) ls (.int (Int32.ofInt (t1 (((Int32.ofInt i).toNatClampNeg : Nat) : Int))) :: S.map (mvRv b))) := by
      rw [hc, ← h.1.2.2.1]
      exact K
    have hge : ¬ (Int32.ofInt i < 0 ∨ cell.slots.size ≤ (Int32.ofInt i).toNatClampNeg) := by
      rintro (q | q)
      · have := (mz_lt hi).mp q; omega
      · omega
    exact W.iald hx hb (show H[b.2.1]? = some cell by rw [h.2.2.2.2.2.1.2.1 b.2.1 (Array.getElem?_eq_some_iff.mp y1).1 y7]; exact y1) y2 y3 hge (y6 _ hlt) rfl rfl hd K'
  · rw [q] at h4
    have K' : W p l e R s m args below meth c H locs (σ.1 - n0) (mvSz σ.1 - mvSz n0) Q (F0 m (pc + 1) ls (.int ((fun j : Nat => Int32.ofInt (t2 (j : Int))) (Int32.ofInt i).toNatClampNeg) :: S.map (mvRv b))) := by
      show W p l e R s m args below meth c H locs (σ.1 - n0) (mvSz σ.1 - mvSz n0) Q (F0 m (pc + 1) ls (.int (Int32.ofInt (t2 (((Int32.ofInt i).toNatClampNeg : Nat) : Int))) :: S.map (mvRv b)))
      rw [hc, ← h.1.2.2.2]
      exact K
    exact va_sld hx hb E4 (Nat.lt_of_lt_of_le E6 E7) (Nat.not_le.mpr E6) h.2.2.2.2.2.1 (m_in hi h3 (by rw [E8, ← h.1.2.2.2]; exact h4)) hd K'
  · rw [q] at h2 h4
    have hg := mvWd_get (b := b) (cA0 := cA0) (cA1 := cA1) q1 q2
    rw [mvCe_arr q3, if_pos h2] at hg
    refine va_iald hx hb E1 h.2.2.2.2.1 (a - 3) 0 hg rfl (m_in hi h3 h4) hd ?_
    show W p l e R s m args below meth c H locs (σ.1 - n0) (mvSz σ.1 - mvSz n0) Q (F0 m (pc + 1) ls (.int (Int32.ofInt (σ.2.2 a (((Int32.ofInt i).toNatClampNeg : Nat) : Int))) :: S.map (mvRv b)))
    rw [hc]
    exact K
theorem mvs_bald {L : mvL} {S : List mvV} {σ : mvS} {pc a : Nat} {i : Int} (Cx : mvCx p R s m args meth c b D cA0 cA1 t1 t2 Ls own rk ini cc) (hd : decode cc pc = .ok (.baload, 1)) (h1 : (mvArr σ a).1 = 1) (h2 : (mvArr σ a).2.1 = 1) (h3 : 0 ≤ i) (h4 : i < (mvArr σ a).2.2)
    (kk : mvW p l e R s m args below meth c Q b D cA0 cA1 t1 t2 n0 (pc + 1) L (mvI (σ.2.2 a i) :: S) σ) : mvW p l e R s m args below meth c Q b D cA0 cA1 t1 t2 n0 pc L (mvI i :: mvR a :: S) σ := by
  intro H locs ls h
  have hi : mv32 i := h.2.1 (mvI i) List.mem_cons_self
  have hS : ∀ v ∈ S, mvOk v := fun v hv => h.2.1 v (List.mem_cons_of_mem _ (List.mem_cons_of_mem _ hv))
  obtain ⟨hx, hb, hown, hin, hts, -, -, hE⟩ := Cx
  have hc : (((Int32.ofInt i).toNatClampNeg : Nat) : Int) = i := by rw [m_clamp hi, mv_toNat h3]
  rcases mvArr_cases h1 with ⟨rfl, q⟩ | ⟨rfl, q⟩ | ⟨q1, q2, q3, q⟩
  · rw [q] at h2; cases h2
  · rw [q] at h2; cases h2
  · rw [q] at h2 h4
    have hv : mvOk (mvI (σ.2.2 a i)) := (h.1.2.1 a i).2 (mvLf_arr q3)
    have K := mvs_put kk h hS hv
    show W p l e R s m args below meth c H locs (σ.1 - n0) (mvSz σ.1 - mvSz n0) Q (F0 m pc ls (.int (Int32.ofInt i) :: .ref (mvB b a) :: S.map (mvRv b)))
    have hg := mvWd_get (b := b) (cA0 := cA0) (cA1 := cA1) q1 q2
    rw [mvCe_arr q3, if_neg (by simp only at h2; omega)] at hg
    refine va_zald hx hb hE.1 h.2.2.2.2.1 (a - 3) 1 hg rfl (m_in hi h3 h4) hd ?_
    show W p l e R s m args below meth c H locs (σ.1 - n0) (mvSz σ.1 - mvSz n0) Q (F0 m (pc + 1) ls (.int (Int32.ofInt (σ.2.2 a (((Int32.ofInt i).toNatClampNeg : Nat) : Int))) :: S.map (mvRv b)))
    rw [hc]
    exact K
theorem mvs_alen {L : mvL} {S : List mvV} {σ : mvS} {pc a : Nat} (Cx : mvCx p R s m args meth c b D cA0 cA1 t1 t2 Ls own rk ini cc) (hd : decode cc pc = .ok (.arraylength, 1)) (h1 : (mvArr σ a).1 = 1)
    (kk : mvW p l e R s m args below meth c Q b D cA0 cA1 t1 t2 n0 (pc + 1) L (mvI (mvArr σ a).2.2 :: S) σ) : mvW p l e R s m args below meth c Q b D cA0 cA1 t1 t2 n0 pc L (mvR a :: S) σ := by
  intro H locs ls h
  have hS : ∀ v ∈ S, mvOk v := fun v hv => h.2.1 v (List.mem_cons_of_mem _ hv)
  obtain ⟨hx, hb, hown, hin, hts, -, -, hE⟩ := Cx
  obtain ⟨E1, E2, E3, E4, E5, E6, E7, E8, E9, E10⟩ := hE
  show W p l e R s m args below meth c H locs (σ.1 - n0) (mvSz σ.1 - mvSz n0) Q (F0 m pc ls (.ref (mvB b a) :: S.map (mvRv b)))
  have hnat : ∀ n : Nat, (Int32.ofNat n) = Int32.ofInt (n : Int) := fun n => (Int32.ofInt_eq_ofNat).symm
  rcases mvArr_cases h1 with ⟨rfl, q⟩ | ⟨rfl, q⟩ | ⟨q1, q2, q3, q⟩
  · rw [q] at kk
    have K := mvs_put kk h hS (by show mv32 4; unfold mv32; omega)
    obtain ⟨cell, y1, y2, y3, y4, y5, y6, y7⟩ := E3
    exact W.alen hx hb (show H[b.2.1]? = some cell by rw [h.2.2.2.2.2.1.2.1 b.2.1 (Array.getElem?_eq_some_iff.mp y1).1 y7]; exact y1) y2 y5 rfl rfl hd K
  · rw [q] at kk
    have e1 : σ.2.2 2 (-1) = (Ls : Int) := by rw [h.1.2.2.2]; exact E8.symm
    rw [e1] at kk
    have K := mvs_put kk h hS (by show mv32 (Ls : Int); unfold mv32; omega)
    refine va_slen hx hb E4 (Nat.lt_of_lt_of_le E6 E7) (Nat.not_le.mpr E6) h.2.2.2.2.2.1 hd ?_
    rw [hnat]
    exact K
  · rw [q] at kk
    have hlen := (mvSH_ok a).2
    have K := mvs_put kk h hS (by show mv32 ((mvSH a).2.2 : Int); unfold mv32; omega)
    have hg := mvWd_get (b := b) (cA0 := cA0) (cA1 := cA1) q1 q2
    rw [mvCe_arr q3] at hg
    by_cases hty : (mvSH a).2.1 = 0
    · rw [if_pos hty] at hg
      exact va_alen hx hb E1 h.2.2.2.2.1 (a - 3) 0 hg rfl (hnat _) hd K
    · rw [if_neg hty] at hg
      exact va_alen hx hb E1 h.2.2.2.2.1 (a - 3) 1 hg rfl (hnat _) hd K
theorem mvs_ast {L : mvL} {S : List mvV} {σ : mvS} {pc a : Nat} {i x : Int} (Cx : mvCx p R s m args meth c b D cA0 cA1 t1 t2 Ls own rk ini cc) (hd : (decode cc pc = .ok (.iastore, 1) ∧ (mvIs σ.1 a).2.1 = 0) ∨ (decode cc pc = .ok (.bastore, 1) ∧ (mvIs σ.1 a).2.1 = 1 ∧ (x = 0 ∨ x = 1))) (h1 : (mvIs σ.1 a).1 = 1) (h3 : 0 ≤ i) (h4 : i < ((mvIs σ.1 a).2.2 : Int))
    (kk : mvW p l e R s m args below meth c Q b D cA0 cA1 t1 t2 n0 (pc + 1) L S (σ.1, σ.2.1, mvUpd σ.2.2 a i x)) : mvW p l e R s m args below meth c Q b D cA0 cA1 t1 t2 n0 pc L (mvI x :: mvI i :: mvR a :: S) σ := by
  intro H locs ls h
  have hx1 : mv32 x := h.2.1 (mvI x) List.mem_cons_self
  have hi : mv32 i := h.2.1 (mvI i) (List.mem_cons_of_mem _ List.mem_cons_self)
  have hS : ∀ v ∈ S, mvOk v := fun v hv => h.2.1 v (List.mem_cons_of_mem _ (List.mem_cons_of_mem _ (List.mem_cons_of_mem _ hv)))
  obtain ⟨hx, hb, hown, hin, hts, -, -, hE⟩ := Cx
  obtain ⟨g1, g2, g3, g4, g5, g6, g7⟩ := h
  obtain ⟨q1, q2, q3⟩ := mvIs_arr h1
  rw [← q3] at hd h1 h4
  have hg := mvWd_get (b := b) (cA0 := cA0) (cA1 := cA1) q1 q2
  have hc : (((Int32.ofInt i).toNatClampNeg : Nat) : Int) = i := by rw [m_clamp hi, mv_toNat h3]
  have hup : mvCe b cA0 cA1 (σ.1, σ.2.1, mvUpd σ.2.2 a i x) a = .inl (if (mvSH a).2.1 = 0 then cA0 else cA1, (mvSH a).2.2, .inl (upd (fun i => Int32.ofInt (σ.2.2 a (i : Int))) (Int32.ofInt i).toNatClampNeg (Int32.ofInt x))) := by
    rw [mvCe_arr h1]
    congr 4
    funext k
    simp only [mvUpd, upd]
    by_cases hk : k = (Int32.ofInt i).toNatClampNeg
    · rw [if_pos hk, if_pos ⟨trivial, by rw [hk, hc]⟩]
    · rw [if_neg hk, if_neg (fun z => hk (by omega))]
  have hw2 := mvWd_set (b := b) (cA0 := cA0) (cA1 := cA1) (σ := σ) (σ' := (σ.1, σ.2.1, mvUpd σ.2.2 a i x)) q1 rfl (fun k hk => mvCe_congr rfl (mvUpd_ne hk)) hup
  have fin : ∀ (H1 : Heap) (locs1 : List Loc), va_P D mvTab ((mvWd b cA0 cA1 σ).set (a - 3) (mvB b a, .inl (if (mvSH a).2.1 = 0 then cA0 else cA1, (mvSH a).2.2, .inl (upd (fun i => Int32.ofInt (σ.2.2 a (i : Int))) (Int32.ofInt i).toNatClampNeg (Int32.ofInt x))))) H1 → va_S (fun q => b.1 ≤ q) s.heap H1 locs1 → H1.size = H.size → W p l e R s m args below meth c H1 locs1 (σ.1 - n0) (mvSz σ.1 - mvSz n0) Q (F0 m (pc + 1) ls (S.map (mvRv b))) := by
    intro H1 locs1 hP hS1 hsz
    exact kk H1 locs1 ls ⟨⟨g1.1, mvOkh_upd g1.2.1 hx1.to64 (fun _ => hx1), by rw [← g1.2.2.1]; exact mvUpd_ne (by omega), by rw [← g1.2.2.2]; exact mvUpd_ne (by omega)⟩, hS, g3, by rw [hsz]; exact g4, by rw [← hw2]; exact hP, hS1, g7⟩
  rw [mvCe_arr h1] at hg
  show W p l e R s m args below meth c H locs (σ.1 - n0) (mvSz σ.1 - mvSz n0) Q (F0 m pc ls (.int (Int32.ofInt x) :: .int (Int32.ofInt i) :: .ref (mvB b a) :: S.map (mvRv b)))
  have hvin := m_in hi h3 h4
  have hcell : ∀ (H1 : Heap) (cA : ClassId) (x' : Int32), H1[mvB b a]? = some ((vp_cell cA ((mvSH a).2.2, .inl (fun i => Int32.ofInt (σ.2.2 a (i : Int))))).setSlot (Int32.ofInt i).toNatClampNeg (.int x')) → va_at D mvTab (mvB b a, .inl (cA, (mvSH a).2.2, .inl (upd (fun i => Int32.ofInt (σ.2.2 a (i : Int))) (Int32.ofInt i).toNatClampNeg x'))) H1 := by
    intro H1 cA x' he
    show H1[mvB b a]? = some (vp_cell _ _)
    rw [he, vp_cell_i, vp_cell_i, arrV_store]
    congr 2
    funext q
    by_cases hq : q = (Int32.ofInt i).toNatClampNeg
    · subst hq; simp [updV, upd]
    · simp [updV, upd, hq]
  rcases hd with ⟨hd, hty⟩ | ⟨hd, hty, hx01⟩
  · rw [if_pos hty] at hg fin
    refine W.iast hx hb (g5 (a - 3) _ hg) ((hE.1.2 0 _ rfl).1 _ (fun j => .int (Int32.ofInt (σ.2.2 a (j : Int))))) (fun q => by cases q) (by show ¬ (Int32.ofInt i < 0 ∨ (arrV _ _ _).slots.size ≤ _); rw [arrV_size]; exact hvin) rfl rfl hd fun H1 e1 z oq => ?_
    exact fin H1 _ (g5.set mvWd_D hg (hcell H1 _ _ e1) oq) (g6.put z oq (mvWd_D.2 (a - 3) _ hg)) z
  · rw [if_neg (by omega)] at hg fin
    refine W.zast hx hb (g5 (a - 3) _ hg) ((hE.1.2 1 _ rfl).1 _ (fun j => .int (Int32.ofInt (σ.2.2 a (j : Int))))) (fun q => by cases q) (by show ¬ (Int32.ofInt i < 0 ∨ (arrV _ _ _).slots.size ≤ _); rw [arrV_size]; exact hvin) rfl rfl hd fun H1 e1 z oq => ?_
    have hnn : Int32.ofInt x &&& 1 = Int32.ofInt x := by rcases hx01 with rfl | rfl <;> decide
    exact fin H1 _ (g5.set mvWd_D hg (hcell H1 _ _ (by rw [← hnn]; exact e1)) oq) (g6.put z oq (mvWd_D.2 (a - 3) _ hg)) z
end MVS
