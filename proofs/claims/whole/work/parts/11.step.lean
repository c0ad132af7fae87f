section MVS
variable {p : Program} {l : Launch} {e : Env} {R : Room} {s : State} {m : MethodId} {args : Array Value} {below : List Frame} {meth : Method} {c : Code} {Q : State → Prop}
variable {b : mvBs} {D : va_G} {cA0 cA1 : ClassId} {t1 t2 : Int → Int} {Ls n0 own rk : Nat} {ini : Bool} {cc : ByteArray}
theorem mv_hd {x : mvV} {l : List mvV} (h : ∀ v ∈ x :: l, mvOk v) : mvOk x := h _ List.mem_cons_self
theorem mv_tl {α : Type} {P : α → Prop} {x : α} {l : List α} (h : ∀ v ∈ x :: l, P v) : ∀ v ∈ l, P v := fun v hv => h v (List.mem_cons_of_mem _ hv)
theorem mvUpd_s {h : Nat → Int → Int} {a : Nat} {i x : Int} : mvUpd h a i x a i = x := by simp [mvUpd]
theorem mvUpd_o {h : Nat → Int → Int} {a : Nat} {i j x : Int} (hj : ¬ j = i) : mvUpd h a i x a j = h a j := by simp [mvUpd, hj]
theorem mvUpg_s {g : Nat → Nat → Nat} {a f x : Nat} : mvUpg g a f x a f = x := by simp [mvUpg]
theorem mvUpg_o {g : Nat → Nat → Nat} {a f k x : Nat} (hj : ¬ k = f) : mvUpg g a f x a k = g a k := by simp [mvUpg, hj]
set_option maxHeartbeats 4000000 in
theorem mvs_step {L L' : mvL} {S S' : List mvV} {σ σ' : mvS} {pc pc' len : Nat} {ins : Instr} (Cx : mvCx p R s m args meth c b D cA0 cA1 t1 t2 Ls own rk ini cc) (hd : decode cc pc = .ok (ins, len)) (hs : mvStep own ini rk pc ins len L S σ = some (pc', L', S', σ'))
    (hln : L.length = c.maxLocals) (hn0 : n0 ≤ σ.1) (hR : mvRoom R n0 σ'.1) (kk : mvW p l e R s m args below meth c Q b D cA0 cA1 t1 t2 n0 pc' L' S' σ') : mvW p l e R s m args below meth c Q b D cA0 cA1 t1 t2 n0 pc L S σ := by
  have hx := Cx.1
  have hb := Cx.2.1
  have hown := Cx.2.2.1
  have hts := Cx.2.2.2.2.1
  unfold mvStep at hs
  split at hs
  · -- aload_n
    rename_i k
    obtain ⟨x, h1, h2⟩ := mvLdR_spec hs
    cases h2
    intro H locs ls h
    exact lv_aload_n hx hb hd rfl (h.2.2.2.2.2.2.2.2 _ _ h1) (mvs_put kk h h.2.1 (h.2.2.1 _ _ h1))
  · rename_i k
    obtain ⟨x, h1, h2⟩ := mvLdR_spec hs
    cases h2
    intro H locs ls h
    exact lv_aload hx hb hd (h.2.2.2.2.2.2.2.2 _ _ h1) (mvs_put kk h h.2.1 (h.2.2.1 _ _ h1))
  · rename_i k
    obtain ⟨x, h1, h2⟩ := mvLdI_spec hs
    cases h2
    intro H locs ls h
    exact lv_iload_n hx hb hd rfl (h.2.2.2.2.2.2.2.2 _ _ h1) (mvs_put kk h h.2.1 (h.2.2.1 _ _ h1))
  · rename_i k
    obtain ⟨x, h1, h2⟩ := mvLdI_spec hs
    cases h2
    intro H locs ls h
    exact lv_iload hx hb hd (h.2.2.2.2.2.2.2.2 _ _ h1) (mvs_put kk h h.2.1 (h.2.2.1 _ _ h1))
  · rename_i k
    obtain ⟨x, h1, h2⟩ := mvLdJ_spec hs
    cases h2
    intro H locs ls h
    exact lv_lload_n hx hb hd rfl (h.2.2.2.2.2.2.2.2 _ _ h1) (mvs_put kk h h.2.1 (h.2.2.1 _ _ h1))
  · -- istore_n
    rename_i k
    split at hs
    · rename_i x S1
      obtain ⟨L1, h1, h2⟩ := mvToL_spec hs
      cases h2
      exact mvs_stI Cx h1 (Or.inl ⟨k, hd, rfl, rfl⟩) kk
    · cases hs
  · rename_i k
    split at hs
    · rename_i x S1
      obtain ⟨L1, h1, h2⟩ := mvToL_spec hs
      cases h2
      exact mvs_stI Cx h1 (Or.inr ⟨hd, rfl⟩) kk
    · cases hs
  · -- astore_n
    rename_i k
    split at hs
    · rename_i x S1
      obtain ⟨L1, h1, h2⟩ := mvToL_spec hs
      cases h2
      intro H locs ls h
      have hn := (mvSt_spec (b := b) h1).1
      exact lv_astore_n hx hb hd rfl h.2.2.2.2.2.2.has hn rfl (fun ls' hl => kk H locs ls' ⟨h.1, mv_tl h.2.1, mvOk_set h1 h.2.2.1 trivial, h.2.2.2.1, h.2.2.2.2.1, h.2.2.2.2.2.1, (mvSt_spec h1).2 ls' hl⟩)
    · cases hs
  · -- lstore_n
    rename_i k
    split at hs
    · rename_i x S1
      obtain ⟨L1, h1, h2⟩ := mvToL_spec hs
      cases h2
      intro H locs ls h
      have hn := (mvSt2_spec (b := b) h1).1
      exact lv_lstore_n hx hb hd rfl h.2.2.2.2.2.2.has hn rfl (fun ls' hl => kk H locs ls' ⟨h.1, mv_tl h.2.1, mvOk_set2 h1 h.2.2.1 (mv_hd h.2.1), h.2.2.2.1, h.2.2.2.2.1, h.2.2.2.2.2.1, (mvSt2_spec h1).2 ls' hl⟩)
    · cases hs
  · -- iconst
    rename_i n
    split at hs
    · rename_i hh
      cases hs
      intro H locs ls h
      exact lv_iconst hx hb hd rfl (mvs_put kk h h.2.1 (by show mv32 n; unfold mv32; omega))
    · cases hs
  · rename_i n
    split at hs
    · rename_i hh
      cases hs
      intro H locs ls h
      exact lv_bipush hx hb hd (m_bi hh) (mvs_put kk h h.2.1 (by show mv32 n; unfold mv32; omega))
    · cases hs
  · rename_i n
    split at hs
    · rename_i hh
      cases hs
      intro H locs ls h
      exact lv_sipush hx hb hd (m_si hh) (mvs_put kk h h.2.1 (by show mv32 n; unfold mv32; omega))
    · cases hs
  · -- lconst
    rename_i n
    cases hs
    intro H locs ls h
    exact lv_lconst hx hb hd rfl (mvs_put kk h h.2.1 (by show mv64 ((n : Nat) : Int); have := n.isLt; unfold mv64; omega))
  · -- ldc_w
    rename_i ix
    split at hs
    · rename_i x hl
      cases hs
      intro H locs ls h
      have hm := mv_lookup hl
      exact lv_ldcw hx hb hown (hts _ (mt_il _ (List.mem_map_of_mem hm))) hd (mvs_put kk h h.2.1 (mv_il_ok _ hm))
    · cases hs
  · rename_i ix
    split at hs
    · rename_i x hl
      cases hs
      intro H locs ls h
      have hm := mv_lookup hl
      exact lv_ldc2 hx hb hown (hts _ (mt_jl _ (List.mem_map_of_mem hm))) hd (mvs_put kk h h.2.1 (mv_jl_ok _ hm))
    · cases hs
  · -- iinc
    rename_i i n
    split at hs
    · rename_i x hg
      obtain ⟨L1, h1, h2⟩ := mvToL_spec hs
      cases h2
      intro H locs ls h
      have hn := (mvSt_spec (b := b) h1).1
      obtain ⟨k, hk⟩ := List.getElem?_of_mem (mvAsc_mem (b := b) (L := L) (q := (i, .int (Int32.ofInt x))) |>.mpr ⟨_, hg, rfl⟩)
      exact lv_iinc hx hb hd h.2.2.2.2.2.2.has hk (m_add x n) hn rfl (fun ls' hl => kk H locs ls' ⟨h.1, h.2.1, mvOk_set h1 h.2.2.1 (mw_ok _), h.2.2.2.1, h.2.2.2.2.1, h.2.2.2.2.2.1, (mvSt_spec h1).2 ls' hl⟩)
    · cases hs
  · -- iadd
    split at hs
    · rename_i y x S1
      cases hs
      intro H locs ls h
      refine lv_iadd hx hb hd ?_
      rw [m_add]
      exact mvs_put kk h (mv_tl (mv_tl h.2.1)) (mw_ok _)
    · cases hs
  · split at hs
    · rename_i y x S1
      cases hs
      intro H locs ls h
      refine lv_isub hx hb hd ?_
      rw [m_sub]
      exact mvs_put kk h (mv_tl (mv_tl h.2.1)) (mw_ok _)
    · cases hs
  · split at hs
    · rename_i y x S1
      cases hs
      intro H locs ls h
      refine lv_imul hx hb hd ?_
      rw [m_mul]
      exact mvs_put kk h (mv_tl (mv_tl h.2.1)) (mw_ok _)
    · cases hs
  · -- idiv
    split at hs
    · rename_i y x S1
      split at hs
      · cases hs
      · rename_i hy
        cases hs
        intro H locs ls h
        have hy1 : mv32 y := mv_hd h.2.1
        have hx1 : mv32 x := mv_hd (mv_tl h.2.1)
        refine lv_idiv hx hb hd (fun q => hy ((mz_eq hy1).mp q)) ?_
        rw [m_div hx1 hy1]
        exact mvs_put kk h (mv_tl (mv_tl h.2.1)) (mw_ok _)
    · cases hs
  · split at hs
    · rename_i y x S1
      split at hs
      · cases hs
      · rename_i hy
        cases hs
        intro H locs ls h
        have hy1 : mv32 y := mv_hd h.2.1
        have hx1 : mv32 x := mv_hd (mv_tl h.2.1)
        refine lv_irem hx hb hd (fun q => hy ((mz_eq hy1).mp q)) ?_
        rw [m_rem hx1 hy1]
        exact mvs_put kk h (mv_tl (mv_tl h.2.1)) (mv_tmod32 hx1)
    · cases hs
  · split at hs
    · rename_i y x S1
      cases hs
      intro H locs ls h
      refine lv_iand hx hb hd ?_
      rw [m_and]
      exact mvs_put kk h (mv_tl (mv_tl h.2.1)) (mv_i32 _)
    · cases hs
  · split at hs
    · rename_i y x S1
      cases hs
      intro H locs ls h
      refine lv_ior hx hb hd ?_
      rw [m_or]
      exact mvs_put kk h (mv_tl (mv_tl h.2.1)) (mv_i32 _)
    · cases hs
  · split at hs
    · rename_i y x S1
      cases hs
      intro H locs ls h
      refine lv_ishl hx hb hd ?_
      rw [m_shl]
      exact mvs_put kk h (mv_tl (mv_tl h.2.1)) (mv_i32 _)
    · cases hs
  · split at hs
    · rename_i y x S1
      cases hs
      intro H locs ls h
      refine lv_ishr hx hb hd ?_
      rw [m_shr]
      exact mvs_put kk h (mv_tl (mv_tl h.2.1)) (mv_i32 _)
    · cases hs
  · split at hs
    · rename_i y x S1
      cases hs
      intro H locs ls h
      exact lv_iushr hx hb hd (m_ushr x y) (mvs_put kk h (mv_tl (mv_tl h.2.1)) (mv_i32 _))
    · cases hs
  · -- ladd
    split at hs
    · rename_i y x S1
      cases hs
      intro H locs ls h
      refine lv_ladd hx hb hd ?_
      rw [ml_add]
      exact mvs_put kk h (mv_tl (mv_tl h.2.1)) (mwl_ok _)
    · cases hs
  · split at hs
    · rename_i y x S1
      cases hs
      intro H locs ls h
      refine lv_lmul hx hb hd ?_
      rw [ml_mul]
      exact mvs_put kk h (mv_tl (mv_tl h.2.1)) (mwl_ok _)
    · cases hs
  · split at hs
    · rename_i y x S1
      split at hs
      · cases hs
      · rename_i hy
        cases hs
        intro H locs ls h
        have hy1 : mv64 y := mv_hd h.2.1
        have hx1 : mv64 x := mv_hd (mv_tl h.2.1)
        refine lv_ldiv hx hb hd (fun q => hy ((ml_eq0 hy1).mp q)) ?_
        rw [ml_div hx1 hy1]
        exact mvs_put kk h (mv_tl (mv_tl h.2.1)) (mwl_ok _)
    · cases hs
  · split at hs
    · rename_i y x S1
      split at hs
      · cases hs
      · rename_i hy
        cases hs
        intro H locs ls h
        have hy1 : mv64 y := mv_hd h.2.1
        have hx1 : mv64 x := mv_hd (mv_tl h.2.1)
        refine lv_lrem hx hb hd (fun q => hy ((ml_eq0 hy1).mp q)) ?_
        rw [ml_rem hx1 hy1]
        exact mvs_put kk h (mv_tl (mv_tl h.2.1)) (mv_tmod64 hx1)
    · cases hs
  · -- lcmp
    split at hs
    · rename_i y x S1
      cases hs
      intro H locs ls h
      refine W.lcmp hx hb hd ?_
      rw [m_lcmp]
      exact mvs_put kk h (mv_tl (mv_tl h.2.1)) (mv_i32 _)
    · cases hs
  · -- i2l
    split at hs
    · rename_i x S1
      cases hs
      intro H locs ls h
      have hx1 : mv32 x := mv_hd h.2.1
      exact lv_i2l hx hb hd (m_i2l hx1) (mvs_put kk h (mv_tl h.2.1) hx1.to64)
    · cases hs
  · split at hs
    · rename_i x S1
      cases hs
      intro H locs ls h
      exact lv_l2i hx hb hd (m_l2i x) (mvs_put kk h (mv_tl h.2.1) (mw_ok _))
    · cases hs
  · -- dup
    split at hs
    · rename_i v S1
      split at hs
      · rename_i hv
        cases hs
        intro H locs ls h
        exact lv_dup hx hb hd (by rw [mvRv_cat]; exact hv) (mvs_put kk h h.2.1 (mv_hd h.2.1))
      · cases hs
    · cases hs
  · -- dup2
    split at hs
    · rename_i v u S1
      split at hs
      · rename_i hv
        cases hs
        intro H locs ls h
        exact lv_dup2_11 hx hb hd (by rw [mvRv_cat]; exact hv.1) (by rw [mvRv_cat]; exact hv.2) (mvs_put kk h (List.forall_mem_cons.mpr ⟨mv_hd (mv_tl h.2.1), h.2.1⟩) (mv_hd h.2.1))
      · cases hs
    · cases hs
  · -- pop
    split at hs
    · rename_i v S1
      split at hs
      · rename_i hv
        cases hs
        intro H locs ls h
        exact lv_pop hx hb hd (by rw [mvRv_cat]; exact hv) (kk H locs ls (h.st (mv_tl h.2.1)))
      · cases hs
    · cases hs
  · -- goto
    obtain ⟨u, h1, h2⟩ := mvGo_spec hs
    cases h2
    intro H locs ls h
    exact lv_goto hx hb hd (mvTgt_spec h1) (kk H locs ls h)
  · -- if_icmp
    split at hs
    · rename_i y x S1
      split at hs
      · rename_i t ht
        cases hs
        exact mvs_br Cx hd ht kk
      · cases hs
    · cases hs
  · split at hs
    · rename_i x S1
      split at hs
      · rename_i t ht
        cases hs
        exact mvs_if Cx hd ht kk
      · cases hs
    · cases hs
  · -- tableswitch
    rename_i dflt lo hi offs
    split at hs
    · rename_i x S1
      split at hs
      · rename_i hh
        obtain ⟨u, h1, h2⟩ := mvGo_spec hs
        cases h2
        intro H locs ls h
        have hx1 : mv32 x := mv_hd h.2.1
        exact lv_tableOut hx hb hd (by rw [m32 hx1]; exact hh) (mvTgt_spec h1) (kk H locs ls (h.st (mv_tl h.2.1)))
      · rename_i hh
        split at hs
        · rename_i off hoff
          obtain ⟨u, h1, h2⟩ := mvGo_spec hs
          cases h2
          intro H locs ls h
          have hx1 : mv32 x := mv_hd h.2.1
          exact lv_tableIn hx hb hd (by rw [m32 hx1]; exact fun q => hh (Or.inl q)) (by rw [m32 hx1]; exact fun q => hh (Or.inr q)) (by rw [m32 hx1]; exact hoff) (mvTgt_spec h1) (kk H locs ls (h.st (mv_tl h.2.1)))
        · cases hs
    · cases hs
  · -- getfield
    rename_i ix
    split at hs
    · rename_i a S1
      split at hs
      · rename_i cf f hl
        split at hs
        · rename_i hi
          split at hs
          · rename_i hft
            split at hs
            · cases hs
            · rename_i hg0
              cases hs
              intro H locs ls h
              refine mvs_get Cx hd hl hi h ?_
              have e : mvFv b σ a cf f = mvRv b (mvR (σ.2.1 a f)) := by unfold mvFv; rw [if_pos hft, if_neg hg0]; rfl
              rw [e]
              exact mvs_put kk h (mv_tl h.2.1) trivial
          · rename_i hft
            split at hs
            · rename_i hft1
              cases hs
              intro H locs ls h
              refine mvs_get Cx hd hl hi h ?_
              have e : mvFv b σ a cf f = mvRv b (mvJ (σ.2.2 a (f : Int))) := by unfold mvFv; rw [if_neg hft, if_pos hft1]; rfl
              rw [e]
              exact mvs_put kk h (mv_tl h.2.1) (h.1.2.1 a f).1
            · rename_i hft1
              cases hs
              intro H locs ls h
              refine mvs_get Cx hd hl hi h ?_
              have e : mvFv b σ a cf f = mvRv b (mvI (σ.2.2 a (f : Int))) := by unfold mvFv; rw [if_neg hft, if_neg hft1]; rfl
              rw [e]
              refine mvs_put kk h (mv_tl h.2.1) ((h.1.2.1 a f).2 ?_)
              rintro ⟨f', h1, h2, h3⟩
              obtain ⟨-, -, i3⟩ := mvIs_spec hi (by decide)
              rw [i3] at h3
              have : f = f' := by omega
              subst this
              exact hft1 h3
        · cases hs
      · cases hs
    · cases hs
  · -- putfield
    rename_i ix
    split at hs
    · rename_i v a S1
      split at hs
      · rename_i cf f hl
        split at hs
        · rename_i hh
          obtain ⟨hi, hfin⟩ := hh
          obtain ⟨-, -, i3⟩ := mvIs_spec hi (by decide)
          split at hs
          · rename_i x
            split at hs
            · rename_i hft
              cases hs
              intro H locs ls h
              have hx1 : mv32 x := mv_hd h.2.1
              refine mvs_setf (σ' := (σ.1, σ.2.1, mvUpd σ.2.2 a (f : Int) x)) (v := mvI x) Cx hd hl hi hfin rfl (fun _ _ => rfl) (fun k hk => mvUpd_ne hk) ?_ ?_ ?_ (mvOkh_upd h.1.2.1 hx1.to64 (fun _ => hx1)) kk H locs ls h
              · intro k hk
                unfold mvFv
                dsimp only
                rw [mvUpd_o (show ¬ (k : Int) = (f : Int) by omega)]
              · unfold mvFv
                dsimp only
                rw [mvUpd_s, if_neg (by omega), if_neg (by omega)]
                rfl
              · intro h3
                dsimp only
                rw [mvUpd_s]
                rcases hft with q | q
                · omega
                · exact q.2
            · cases hs
          · rename_i x
            split at hs
            · rename_i hft
              cases hs
              intro H locs ls h
              have hx1 : mv64 x := mv_hd h.2.1
              refine mvs_setf (σ' := (σ.1, σ.2.1, mvUpd σ.2.2 a (f : Int) x)) (v := mvJ x) Cx hd hl hi hfin rfl (fun _ _ => rfl) (fun k hk => mvUpd_ne hk) ?_ ?_ ?_ (mvOkh_upd h.1.2.1 hx1 (fun z => absurd ⟨f, rfl, by rw [i3], by rw [i3]; exact hft⟩ z)) kk H locs ls h
              · intro k hk
                unfold mvFv
                dsimp only
                rw [mvUpd_o (show ¬ (k : Int) = (f : Int) by omega)]
              · unfold mvFv
                dsimp only
                rw [mvUpd_s, if_neg (by omega), if_pos hft]
                rfl
              · intro h3
                omega
            · cases hs
          · rename_i x
            split at hs
            · rename_i hft
              cases hs
              intro H locs ls h
              refine mvs_setf (σ' := (σ.1, mvUpg σ.2.1 a f x, σ.2.2)) (v := mvR x) Cx hd hl hi hfin rfl (fun k hk => mvUpg_ne hk) (fun _ _ => rfl) ?_ ?_ ?_ h.1.2.1 kk H locs ls h
              · intro k hk
                unfold mvFv
                dsimp only
                simp only [mvUpg_o hk]
              · unfold mvFv
                dsimp only
                simp only [mvUpg_s, if_pos hft.1, if_neg hft.2]
                rfl
              · intro h3
                omega
            · cases hs
        · cases hs
      · cases hs
    · cases hs
  · -- getstatic
    rename_i ix
    split at hs
    · rename_i hh
      obtain ⟨ho, hix⟩ := hh
      cases hs
      subst ho
      subst hix
      intro H locs ls h
      obtain ⟨E1, E2, E3, E4, E5, E6, E7, E8, E9, E10⟩ := Cx.2.2.2.2.2.2.2
      exact va_getsN hx hb E2 h.2.2.2.2.2.1 hown (va_Nw.use rfl E10.2) (fun _ z => z) hd (mvs_put kk h h.2.1 trivial)
    · cases hs
  · -- iaload
    split at hs
    · rename_i i a S1
      split at hs
      · rename_i hh
        cases hs
        exact mvs_iald Cx hd hh.1 hh.2.1 hh.2.2.1 hh.2.2.2 kk
      · cases hs
    · cases hs
  · split at hs
    · rename_i i a S1
      split at hs
      · rename_i hh
        cases hs
        exact mvs_bald Cx hd hh.1 hh.2.1 hh.2.2.1 hh.2.2.2 kk
      · cases hs
    · cases hs
  · split at hs
    · rename_i x i a S1
      split at hs
      · rename_i hh
        cases hs
        exact mvs_ast Cx (Or.inl ⟨hd, hh.2.1⟩) hh.1 hh.2.2.1 hh.2.2.2 kk
      · cases hs
    · cases hs
  · split at hs
    · rename_i x i a S1
      split at hs
      · rename_i hh
        cases hs
        exact mvs_ast Cx (Or.inr ⟨hd, hh.2.1, hh.2.2.2⟩) hh.1 hh.2.2.1.1 hh.2.2.1.2 kk
      · cases hs
    · cases hs
  · -- arraylength
    split at hs
    · rename_i a S1
      split at hs
      · rename_i hh
        cases hs
        exact mvs_alen Cx hd hh kk
      · cases hs
    · cases hs
  · -- newarray
    rename_i ty
    split at hs
    · rename_i n S1
      split at hs
      · rename_i hh
        cases hs
        exact mvs_newarr Cx hd hh.1 hh.2.1 hh.2.2 hn0 hR kk
      · cases hs
    · cases hs
  · -- new
    rename_i ix
    split at hs
    · rename_i cf hl
      split at hs
      · rename_i hh
        cases hs
        exact mvs_newobj Cx hd hl hh hn0 hR kk
      · cases hs
    · cases hs
  · -- Object.<init>
    rename_i ix
    split at hs
    · rename_i a S1
      split at hs
      · rename_i z hl
        split at hs
        · rename_i hh
          cases hs
          intro H locs ls h
          have hm := mv_lookup hl
          have hw := mt_mo _ (List.mem_map_of_mem (List.mem_filter.mpr ⟨hm, by simp⟩))
          have hfr := Cx.2.2.2.2.2.1
          have hlo := Cx.2.2.2.2.2.2.1
          have hlsz : ls.size = c.maxLocals := h.2.2.2.2.2.2.1.trans hln
          have hcats : 2 * (F0 m pc ls ((mvR a :: S').map (mvRv b))).monitorRoom + ((S'.map (mvRv b)).map fun v => v.category).sum ≤ 8 := by
            refine lv_room ?_
            have e : ((S'.map (mvRv b)).map fun v => v.category) = S'.map mvCat := by
              rw [List.map_map]
              exact List.map_congr_left fun v _ => mvRv_cat b v
            rw [e]
            exact hh.2
          exact W.objInit hx hb hown (hts _ hw) (hts _ mt_objI) (hts _ mt_objC) rfl hlsz rfl hd (by omega) (Nat.le_trans (Nat.add_le_add_right hcats 12) (by have := hh.1; omega)) (kk H locs ls (h.st (mv_tl h.2.1)))
        · cases hs
      · cases hs
    · cases hs
  · -- Math.max, Math.min
    rename_i ix
    split at hs
    · rename_i y x S1
      have hroom : n0 ≤ σ.1 → σ.1 - n0 ≤ R.cells → mvSz σ.1 - mvSz n0 ≤ R.slots → 1 ≤ rk → mvCats S1 ≤ 8 → ∀ (rest : List Value), rest = S1.map (mvRv b) → 1 ≤ R.frames ∧ (rest.map fun v => v.category).sum + 13 ≤ R.locals := by
        intro _ _ _ h1 h2 rest hrest
        have hfr := Cx.2.2.2.2.2.1
        have hlo := Cx.2.2.2.2.2.2.1
        have e : (rest.map fun v => v.category) = S1.map mvCat := by
          rw [hrest, List.map_map]
          exact List.map_congr_left fun v _ => mvRv_cat b v
        rw [e]
        unfold mvCats at h2
        exact ⟨by omega, by omega⟩
      split at hs
      · rename_i z hl
        split at hs
        · rename_i hh
          cases hs
          intro H locs ls h
          have hm := mv_lookup hl
          have hw := mt_mx _ (List.mem_map_of_mem (List.mem_filter.mpr ⟨hm, by simp⟩))
          have hy1 : mv32 y := mv_hd h.2.1
          have hx1 : mv32 x := mv_hd (mv_tl h.2.1)
          obtain ⟨r1, r2⟩ := hroom hn0 hR.1 hR.2 hh.1 hh.2 _ rfl
          refine va_mmax hx hb (hln.symm.trans h.2.2.2.2.2.2.1.symm) hown (hts _ hw) (hts _ mt_mxS) (hts _ mt_mI) (hts _ mt_mxC) r1 r2 hR.1 hR.2 hd ?_
          have e : (if Int32.ofInt x < Int32.ofInt y then Int32.ofInt y else Int32.ofInt x) = Int32.ofInt (if x < y then y else x) := by
            by_cases q : x < y
            · rw [if_pos q, if_pos ((m_lt hx1 hy1).mpr q)]
            · rw [if_neg q, if_neg (fun z => q ((m_lt hx1 hy1).mp z))]
          rw [e]
          exact mvs_put kk h (mv_tl (mv_tl h.2.1)) (by show mv32 _; split <;> assumption)
        · cases hs
      · rename_i z hl
        split at hs
        · rename_i hh
          cases hs
          intro H locs ls h
          have hm := mv_lookup hl
          have hw := mt_mi _ (List.mem_map_of_mem (List.mem_filter.mpr ⟨hm, by simp⟩))
          have hy1 : mv32 y := mv_hd h.2.1
          have hx1 : mv32 x := mv_hd (mv_tl h.2.1)
          obtain ⟨r1, r2⟩ := hroom hn0 hR.1 hR.2 hh.1 hh.2 _ rfl
          refine va_mmin hx hb (hln.symm.trans h.2.2.2.2.2.2.1.symm) hown (hts _ hw) (hts _ mt_miS) (hts _ mt_mI) (hts _ mt_miC) r1 r2 hR.1 hR.2 hd ?_
          have e : (if Int32.ofInt y < Int32.ofInt x then Int32.ofInt y else Int32.ofInt x) = Int32.ofInt (if y < x then y else x) := by
            by_cases q : y < x
            · rw [if_pos q, if_pos ((m_lt hy1 hx1).mpr q)]
            · rw [if_neg q, if_neg (fun z => q ((m_lt hy1 hx1).mp z))]
          rw [e]
          exact mvs_put kk h (mv_tl (mv_tl h.2.1)) (by show mv32 _; split <;> assumption)
        · cases hs
      · cases hs
    · cases hs
  · cases hs
theorem mvSt_len {L L' : mvL} {i : Nat} {v : mvV} (h : mvSt L i v = some L') : L'.length = L.length := by
  unfold mvSt at h
  split at h
  · cases h; exact List.length_set
  · cases h
theorem mvSt2_len {L L' : mvL} {i : Nat} {v : mvV} (h : mvSt2 L i v = some L') : L'.length = L.length := by
  unfold mvSt2 at h
  split at h
  · cases h; rw [List.length_set, List.length_set]
  · cases h
set_option maxHeartbeats 4000000 in
theorem mvStep_len {L L' : mvL} {S S' : List mvV} {σ σ' : mvS} {pc pc' len : Nat} {ins : Instr} (hs : mvStep own ini rk pc ins len L S σ = some (pc', L', S', σ')) : L'.length = L.length ∧ σ.1 ≤ σ'.1 := by
  unfold mvStep at hs
  split at hs
  all_goals first
    | (cases hs; done)
    | (obtain ⟨x, -, h2⟩ := mvLdR_spec hs; cases h2; exact ⟨rfl, Nat.le_refl _⟩)
    | (obtain ⟨x, -, h2⟩ := mvLdI_spec hs; cases h2; exact ⟨rfl, Nat.le_refl _⟩)
    | (obtain ⟨x, -, h2⟩ := mvLdJ_spec hs; cases h2; exact ⟨rfl, Nat.le_refl _⟩)
    | (obtain ⟨x, -, h2⟩ := mvGo_spec hs; cases h2; exact ⟨rfl, Nat.le_refl _⟩)
    | (cases hs; exact ⟨rfl, Nat.le_refl _⟩)
    | (split at hs
       all_goals first
         | (cases hs; done)
         | (obtain ⟨x, h1, h2⟩ := mvToL_spec hs; cases h2; exact ⟨mvSt_len h1, Nat.le_refl _⟩)
         | (obtain ⟨x, h1, h2⟩ := mvToL_spec hs; cases h2; exact ⟨mvSt2_len h1, Nat.le_refl _⟩)
         | (cases hs; exact ⟨rfl, Nat.le_refl _⟩)
         | (cases hs; exact ⟨rfl, Nat.le_succ _⟩)
         | (split at hs
            all_goals first
              | (cases hs; done)
              | (cases hs; exact ⟨rfl, Nat.le_refl _⟩)
              | (cases hs; exact ⟨rfl, Nat.le_succ _⟩)
              | (obtain ⟨x, -, h2⟩ := mvGo_spec hs; cases h2; exact ⟨rfl, Nat.le_refl _⟩)
              | (split at hs
                 all_goals first
                   | (cases hs; done)
                   | (cases hs; exact ⟨rfl, Nat.le_refl _⟩)
                   | (cases hs; exact ⟨rfl, Nat.le_succ _⟩)
                   | (obtain ⟨x, -, h2⟩ := mvGo_spec hs; cases h2; exact ⟨rfl, Nat.le_refl _⟩)
                   | (split at hs
                      all_goals first
                        | (cases hs; done)
                        | (cases hs; exact ⟨rfl, Nat.le_refl _⟩)
                        | (split at hs
                           all_goals first
                             | (cases hs; done)
                             | (cases hs; exact ⟨rfl, Nat.le_refl _⟩))))))
end MVS
