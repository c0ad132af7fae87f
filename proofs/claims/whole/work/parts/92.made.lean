/-! the start: all objects are made -/
def Zr (n : Nat) (g : Nat → Nat → Nat) (h : Nat → Int → Int) : Prop := (∀ a, n ≤ a → ∀ f, g a f = 0) ∧ ∀ a, n ≤ a → ∀ i, h a i = 0
theorem mvNewZ {n : Nat} {g : Nat → Nat → Nat} {h : Nat → Int → Int} (hZ : Zr n g h) : mvNew (n, g, h) = (n + 1, g, h) := by
  have e1 : (fun a f => if a = n then 0 else g a f) = g := by
    funext a f
    by_cases e : a = n
    · rw [if_pos e, hZ.1 a (by omega)]
    · rw [if_neg e]
  have e2 : (fun a i => if a = n then 0 else h a i) = h := by
    funext a i
    by_cases e : a = n
    · rw [if_pos e, hZ.2 a (by omega)]
    · rw [if_neg e]
  show (n + 1, (fun a f => if a = n then 0 else g a f), (fun a i => if a = n then 0 else h a i)) = _
  rw [e1, e2]
theorem Zr.up {n : Nat} {g : Nat → Nat → Nat} {h : Nat → Int → Int} (hZ : Zr n g h) : Zr (n + 1) g h := ⟨fun a ha => hZ.1 a (by omega), fun a ha => hZ.2 a (by omega)⟩
theorem Zr.putR {n a f b : Nat} {g : Nat → Nat → Nat} {h : Nat → Int → Int} (hZ : Zr n g h) (ha : a < n) : Zr n (mvUpg g a f b) h := ⟨fun x hx y => by
  unfold mvUpg
  rw [if_neg (fun z => by omega)]
  exact hZ.1 x hx y, hZ.2⟩
theorem Zr.putI {n a : Nat} {i v : Int} {g : Nat → Nat → Nat} {h : Nat → Int → Int} (hZ : Zr n g h) (ha : a < n) : Zr n g (mvUpd h a i v) := ⟨hZ.1, fun x hx y => by
  rw [upd_ob (by omega)]
  exact hZ.2 x hx y⟩
theorem misN {n a : Nat} {x : Nat × Nat × Nat} (h3 : 3 ≤ a) (hn : a < n) (h97 : a < 97) (h : mvIs 97 a = x) : mvIs n a = x := by
  rw [← h]
  unfold mvIs
  rw [if_pos ⟨h3, hn⟩, if_pos ⟨h3, h97⟩]
section RZ
variable {j own kd rk mL na : Nat} {rt : Option FieldType} {pc n : Nat} {L : mvL} {S : List mvV} {g : Nat → Nat → Nat} {h : Nat → Int → Int} {Q : Option mvV → mvS → Prop}
theorem rc_newZ {ix cf : Nat} (hZ : Zr n g h) (M : mvMq j own kd rk mL na rt) (hd : mvDec j pc = some (.new ix, 3)) (hl : mvKl.lookup (own, ix) = some cf) (hi : mvSH n = (0, cf, 0)) (kk : Zr (n + 1) g h → Rch j (pc + 3) L (mvR n :: S) (n + 1, g, h) Q) : Rch j pc L S (n, g, h) Q := rc_new M hd hl hi (by rw [mvNewZ hZ]; exact kk hZ.up)
theorem rc_newaZ {t len : Nat} {x : Int} {ty : ClassFile.ArrayType} (hZ : Zr n g h) (M : mvMq j own kd rk mL na rt) (hd : mvDec j pc = some (.newarray ty, 2)) (hi : mvSH n = (1, t, len)) (hx : x = (len : Int)) (ht : ty = .int ∧ t = 0 ∨ ty = .boolean ∧ t = 1) (kk : Zr (n + 1) g h → Rch j (pc + 2) L (mvR n :: S) (n + 1, g, h) Q) : Rch j pc L (mvI x :: S) (n, g, h) Q := rc_newa M hd hi hx ht (by rw [mvNewZ hZ]; exact kk hZ.up)
theorem rc_putRZ {ix a cf f b : Nat} (hZ : Zr n g h) (ha : a < n) (M : mvMq j own kd rk mL na rt) (hd : mvDec j pc = some (.putfield ix, 3)) (hl : mvFl.lookup (own, ix) = some (cf, f)) (hi : mvIs n a = (0, cf, 0)) (hfin : mvFf cf f = true → (kd == 2) = true ∧ own = cf) (hf : mvFt cf f = 2 ∧ ¬ b = 0) (kk : Zr n (mvUpg g a f b) h → Rch j (pc + 3) L S (n, mvUpg g a f b, h) Q) : Rch j pc L (mvR b :: mvR a :: S) (n, g, h) Q := rc_putR M hd hl hi hfin hf (kk (hZ.putR ha))
end RZ
def gF : Nat → Nat → Nat := mvUpg (mvUpg (mvUpg (mvUpg (mvUpg (mvUpg (mvUpg (mvUpg (mvUpg (mvUpg (mvUpg (mvUpg (mvUpg (mvUpg (mvUpg (mvUpg (mvUpg (mvUpg (mvUpg (mvUpg (mvUpg (mvUpg (mvUpg (mvUpg (mvUpg (mvUpg (mvUpg (mvUpg (mvUpg (mvUpg (mvUpg (mvUpg (mvUpg (mvUpg (mvUpg (mvUpg (mvUpg (mvUpg (mvUpg (mvUpg (mvUpg (mvUpg (mvUpg (mvUpg (mvUpg (mvUpg (mvUpg (mvUpg (mvUpg (mvUpg (mvUpg (mvUpg (mvUpg (mvUpg (mvUpg (mvUpg (mvUpg (mvUpg (mvUpg (mvUpg (mvUpg (mvUpg (mvUpg (mvUpg (mvUpg (mvUpg (mvUpg (mvUpg (mvUpg (mvUpg (mvUpg (mvUpg (mvUpg (mvUpg (mvUpg (mvUpg (mvUpg (mvUpg (mvUpg (mvUpg (mvUpg (mvUpg (mvUpg (mvUpg (mvUpg (mvUpg (mvUpg (mvUpg (mvUpg (mvUpg (mvUpg (mvUpg (fun _ _ => 0) 4 0 5) 3 0 4) 6 2 7) 6 3 8) 6 4 9) 6 5 10) 6 6 11) 6 7 12) 6 8 13) 6 9 14) 3 1 6) 15 2 16) 15 3 17) 15 4 18) 15 5 19) 15 6 20) 15 7 21) 15 8 22) 15 9 23) 3 2 15) 24 4 25) 24 5 26) 24 6 27) 24 7 28) 24 8 29) 24 9 30) 3 3 24) 31 2 32) 3 4 31) 33 2 34) 33 5 35) 3 5 33) 36 0 37) 36 1 38) 36 2 39) 36 3 40) 3 6 36) 42 2 43) 42 3 44) 42 4 45) 42 5 46) 42 6 47) 42 7 48) 42 8 49) 42 9 50) 41 0 42) 51 4 52) 51 5 53) 51 6 54) 51 7 55) 51 8 56) 51 9 57) 41 1 51) 58 2 59) 58 5 60) 41 2 58) 3 7 41) 61 1 62) 3 8 61) 63 5 64) 63 6 65) 63 7 66) 63 8 67) 3 9 63) 68 1 69) 68 2 70) 68 3 71) 68 4 72) 68 5 73) 68 6 74) 68 11 75) 68 18 76) 68 22 77) 68 23 78) 68 24 79) 68 25 80) 68 26 81) 68 27 82) 68 28 83) 68 29 84) 68 30 85) 68 31 86) 68 32 87) 68 33 88) 68 34 89) 68 35 90) 68 36 91) 68 37 92) 68 38 93) 68 39 94) 68 41 95) 68 42 96
/-- the mini machine at the law's start: the constants' row, the script -/
def mvS0 (L : Nat) (xs : Nat → Int32) : mvS := (3, fun _ _ => 0, fun a i => if a = 1 then (if i = 0 then 1 else if i = 1 then 10 else if i = 2 then 100 else if i = 3 then 1000 else 0) else if a = 2 then (if i = -1 then (L : Int) else if 0 ≤ i then (xs i.toNat).toInt else 0) else 0)
def hF (L : Nat) (xs : Nat → Int32) : Nat → Int → Int := mvUpd (mvS0 L xs).2.2 61 0 (-1)
theorem gF_ok : Gok false gF := by
  have a : ∀ z ∈ mvRefs, gF z.1.1 z.1.2 = z.2 := by decide +kernel
  exact ⟨a, by decide +kernel, by decide +kernel⟩
set_option maxHeartbeats 4000000 in
theorem lw_made {L : Nat} {xs : Nat → Int32} {Q : Option mvV → mvS → Prop} (H : Rch 255 18 [some (mvR 2), some (mvR 3), some (mvR 68), some (mvI 0)] [] (97, gF, hF L xs) Q) : Rch 255 0 [some (mvR 2), none, none, none] [] (mvS0 L xs) Q := by
  have hZ : Zr 3 (fun _ _ => 0) (mvS0 L xs).2.2 := ⟨fun a ha f => rfl, fun a ha i => by
    show (if a = 1 then _ else if a = 2 then _ else (0 : Int)) = 0
    rw [if_neg (by omega), if_neg (by omega)]⟩
  show Rch 255 0 [some (mvR 2), none, none, none] [] (3, (fun _ _ => 0), (mvS0 L xs).2.2) Q
  unfold hF at H
  generalize (mvS0 L xs).2.2 = h0 at H hZ ⊢
  refine rc_newZ (cf := 0) hZ mq255 (mvDec_of cd255 rfl) (by decide +kernel) (by decide +kernel) (fun hZ => ?_)
  refine rc_dup mq255 (mvDec_of cd255 rfl) rfl ?_
  refine rc_callI [mvR 3] [mvR 3] [some (mvR 3)] mq255 (mvDec_of cd255 rfl) lk_11_9 mq178 (by decide) rfl rfl (Nat.le_of_ble_eq_true rfl) (Nat.le_of_ble_eq_true rfl) (by decide) rfl (misN (by decide) (by decide) (by decide) mis3) rfl ?_
  refine rc_aload_n mq178 (mvDec_of cd178 rfl) rfl ?_
  refine rc_obj mq178 (mvDec_of cd178 rfl) lk_0_3 ⟨by decide, Nat.le_of_ble_eq_true rfl⟩ ?_
  refine rc_aload_n mq178 (mvDec_of cd178 rfl) rfl ?_
  refine rc_newZ (cf := 1) hZ mq178 (mvDec_of cd178 rfl) (by decide +kernel) (by decide +kernel) (fun hZ => ?_)
  refine rc_dup mq178 (mvDec_of cd178 rfl) rfl ?_
  refine rc_callIN [mvR 4] [mvR 4, mvR 3] [some (mvR 4)] mq178 (mvDec_of cd178 rfl) lk_0_11 mq74 (by decide) rfl rfl (Nat.le_of_ble_eq_true rfl) (Nat.le_of_ble_eq_true rfl) (by decide) rfl (misN (by decide) (by decide) (by decide) mis4) rfl ?_
  refine rc_aload_n mq74 (mvDec_of cd74 rfl) rfl ?_
  refine rc_obj mq74 (mvDec_of cd74 rfl) lk_1_3 ⟨by decide, Nat.le_of_ble_eq_true rfl⟩ ?_
  refine rc_aload_n mq74 (mvDec_of cd74 rfl) rfl ?_
  refine rc_bipush mq74 (mvDec_of cd74 rfl) (by decide) ?_
  refine rc_newaZ (t := 0) (len := 36) hZ mq74 (mvDec_of cd74 rfl) (by decide +kernel) rfl (Or.inl ⟨rfl, rfl⟩) (fun hZ => ?_)
  refine rc_putRZ hZ (by decide) mq74 (mvDec_of cd74 rfl) fl_1_9 (misN (by decide) (by decide) (by decide) mis4) (fun _ => ⟨rfl, rfl⟩) ⟨rfl, by decide⟩ (fun hZ => ?_)
  refine rc_vret mq74 (mvDec_of cd74 rfl) ?_
  show Rch 178 12 [some (mvR 3)] [mvR 4, mvR 3] _ _
  refine rc_putRZ hZ (by decide) mq178 (mvDec_of cd178 rfl) fl_0_12 (misN (by decide) (by decide) (by decide) mis3) (fun _ => ⟨rfl, rfl⟩) ⟨rfl, by decide⟩ (fun hZ => ?_)
  refine rc_aload_n mq178 (mvDec_of cd178 rfl) rfl ?_
  refine rc_newZ (cf := 2) hZ mq178 (mvDec_of cd178 rfl) (by decide +kernel) (by decide +kernel) (fun hZ => ?_)
  refine rc_dup mq178 (mvDec_of cd178 rfl) rfl ?_
  refine rc_callIN [mvR 6] [mvR 6, mvR 3] [some (mvR 6)] mq178 (mvDec_of cd178 rfl) lk_0_18 mq76 (by decide) rfl rfl (Nat.le_of_ble_eq_true rfl) (Nat.le_of_ble_eq_true rfl) (by decide) rfl (misN (by decide) (by decide) (by decide) mis6) rfl ?_
  refine rc_aload_n mq76 (mvDec_of cd76 rfl) rfl ?_
  refine rc_obj mq76 (mvDec_of cd76 rfl) lk_2_3 ⟨by decide, Nat.le_of_ble_eq_true rfl⟩ ?_
  refine rc_aload_n mq76 (mvDec_of cd76 rfl) rfl ?_
  refine rc_iconst mq76 (mvDec_of cd76 rfl) (by decide) ?_
  refine rc_newaZ (t := 0) (len := 4) hZ mq76 (mvDec_of cd76 rfl) (by decide +kernel) rfl (Or.inl ⟨rfl, rfl⟩) (fun hZ => ?_)
  refine rc_putRZ hZ (by decide) mq76 (mvDec_of cd76 rfl) fl_2_9 (misN (by decide) (by decide) (by decide) mis6) (fun _ => ⟨rfl, rfl⟩) ⟨rfl, by decide⟩ (fun hZ => ?_)
  refine rc_aload_n mq76 (mvDec_of cd76 rfl) rfl ?_
  refine rc_bipush mq76 (mvDec_of cd76 rfl) (by decide) ?_
  refine rc_newaZ (t := 0) (len := 36) hZ mq76 (mvDec_of cd76 rfl) (by decide +kernel) rfl (Or.inl ⟨rfl, rfl⟩) (fun hZ => ?_)
  refine rc_putRZ hZ (by decide) mq76 (mvDec_of cd76 rfl) fl_2_15 (misN (by decide) (by decide) (by decide) mis6) (fun _ => ⟨rfl, rfl⟩) ⟨rfl, by decide⟩ (fun hZ => ?_)
  refine rc_aload_n mq76 (mvDec_of cd76 rfl) rfl ?_
  refine rc_bipush mq76 (mvDec_of cd76 rfl) (by decide) ?_
  refine rc_newaZ (t := 0) (len := 36) hZ mq76 (mvDec_of cd76 rfl) (by decide +kernel) rfl (Or.inl ⟨rfl, rfl⟩) (fun hZ => ?_)
  refine rc_putRZ hZ (by decide) mq76 (mvDec_of cd76 rfl) fl_2_18 (misN (by decide) (by decide) (by decide) mis6) (fun _ => ⟨rfl, rfl⟩) ⟨rfl, by decide⟩ (fun hZ => ?_)
  refine rc_aload_n mq76 (mvDec_of cd76 rfl) rfl ?_
  refine rc_bipush mq76 (mvDec_of cd76 rfl) (by decide) ?_
  refine rc_newaZ (t := 0) (len := 36) hZ mq76 (mvDec_of cd76 rfl) (by decide +kernel) rfl (Or.inl ⟨rfl, rfl⟩) (fun hZ => ?_)
  refine rc_putRZ hZ (by decide) mq76 (mvDec_of cd76 rfl) fl_2_21 (misN (by decide) (by decide) (by decide) mis6) (fun _ => ⟨rfl, rfl⟩) ⟨rfl, by decide⟩ (fun hZ => ?_)
  refine rc_aload_n mq76 (mvDec_of cd76 rfl) rfl ?_
  refine rc_sipush mq76 (mvDec_of cd76 rfl) (by decide) ?_
  refine rc_newaZ (t := 0) (len := 144) hZ mq76 (mvDec_of cd76 rfl) (by decide +kernel) rfl (Or.inl ⟨rfl, rfl⟩) (fun hZ => ?_)
  refine rc_putRZ hZ (by decide) mq76 (mvDec_of cd76 rfl) fl_2_24 (misN (by decide) (by decide) (by decide) mis6) (fun _ => ⟨rfl, rfl⟩) ⟨rfl, by decide⟩ (fun hZ => ?_)
  refine rc_aload_n mq76 (mvDec_of cd76 rfl) rfl ?_
  refine rc_bipush mq76 (mvDec_of cd76 rfl) (by decide) ?_
  refine rc_newaZ (t := 0) (len := 40) hZ mq76 (mvDec_of cd76 rfl) (by decide +kernel) rfl (Or.inl ⟨rfl, rfl⟩) (fun hZ => ?_)
  refine rc_putRZ hZ (by decide) mq76 (mvDec_of cd76 rfl) fl_2_27 (misN (by decide) (by decide) (by decide) mis6) (fun _ => ⟨rfl, rfl⟩) ⟨rfl, by decide⟩ (fun hZ => ?_)
  refine rc_aload_n mq76 (mvDec_of cd76 rfl) rfl ?_
  refine rc_bipush mq76 (mvDec_of cd76 rfl) (by decide) ?_
  refine rc_newaZ (t := 0) (len := 40) hZ mq76 (mvDec_of cd76 rfl) (by decide +kernel) rfl (Or.inl ⟨rfl, rfl⟩) (fun hZ => ?_)
  refine rc_putRZ hZ (by decide) mq76 (mvDec_of cd76 rfl) fl_2_30 (misN (by decide) (by decide) (by decide) mis6) (fun _ => ⟨rfl, rfl⟩) ⟨rfl, by decide⟩ (fun hZ => ?_)
  refine rc_aload_n mq76 (mvDec_of cd76 rfl) rfl ?_
  refine rc_iconst mq76 (mvDec_of cd76 rfl) (by decide) ?_
  refine rc_newaZ (t := 0) (len := 4) hZ mq76 (mvDec_of cd76 rfl) (by decide +kernel) rfl (Or.inl ⟨rfl, rfl⟩) (fun hZ => ?_)
  refine rc_putRZ hZ (by decide) mq76 (mvDec_of cd76 rfl) fl_2_33 (misN (by decide) (by decide) (by decide) mis6) (fun _ => ⟨rfl, rfl⟩) ⟨rfl, by decide⟩ (fun hZ => ?_)
  refine rc_vret mq76 (mvDec_of cd76 rfl) ?_
  show Rch 178 23 [some (mvR 3)] [mvR 6, mvR 3] _ _
  refine rc_putRZ hZ (by decide) mq178 (mvDec_of cd178 rfl) fl_0_19 (misN (by decide) (by decide) (by decide) mis3) (fun _ => ⟨rfl, rfl⟩) ⟨rfl, by decide⟩ (fun hZ => ?_)
  refine rc_aload_n mq178 (mvDec_of cd178 rfl) rfl ?_
  refine rc_newZ (cf := 2) hZ mq178 (mvDec_of cd178 rfl) (by decide +kernel) (by decide +kernel) (fun hZ => ?_)
  refine rc_dup mq178 (mvDec_of cd178 rfl) rfl ?_
  refine rc_callIN [mvR 15] [mvR 15, mvR 3] [some (mvR 15)] mq178 (mvDec_of cd178 rfl) lk_0_18 mq76 (by decide) rfl rfl (Nat.le_of_ble_eq_true rfl) (Nat.le_of_ble_eq_true rfl) (by decide) rfl (misN (by decide) (by decide) (by decide) mis15) rfl ?_
  refine rc_aload_n mq76 (mvDec_of cd76 rfl) rfl ?_
  refine rc_obj mq76 (mvDec_of cd76 rfl) lk_2_3 ⟨by decide, Nat.le_of_ble_eq_true rfl⟩ ?_
  refine rc_aload_n mq76 (mvDec_of cd76 rfl) rfl ?_
  refine rc_iconst mq76 (mvDec_of cd76 rfl) (by decide) ?_
  refine rc_newaZ (t := 0) (len := 4) hZ mq76 (mvDec_of cd76 rfl) (by decide +kernel) rfl (Or.inl ⟨rfl, rfl⟩) (fun hZ => ?_)
  refine rc_putRZ hZ (by decide) mq76 (mvDec_of cd76 rfl) fl_2_9 (misN (by decide) (by decide) (by decide) mis15) (fun _ => ⟨rfl, rfl⟩) ⟨rfl, by decide⟩ (fun hZ => ?_)
  refine rc_aload_n mq76 (mvDec_of cd76 rfl) rfl ?_
  refine rc_bipush mq76 (mvDec_of cd76 rfl) (by decide) ?_
  refine rc_newaZ (t := 0) (len := 36) hZ mq76 (mvDec_of cd76 rfl) (by decide +kernel) rfl (Or.inl ⟨rfl, rfl⟩) (fun hZ => ?_)
  refine rc_putRZ hZ (by decide) mq76 (mvDec_of cd76 rfl) fl_2_15 (misN (by decide) (by decide) (by decide) mis15) (fun _ => ⟨rfl, rfl⟩) ⟨rfl, by decide⟩ (fun hZ => ?_)
  refine rc_aload_n mq76 (mvDec_of cd76 rfl) rfl ?_
  refine rc_bipush mq76 (mvDec_of cd76 rfl) (by decide) ?_
  refine rc_newaZ (t := 0) (len := 36) hZ mq76 (mvDec_of cd76 rfl) (by decide +kernel) rfl (Or.inl ⟨rfl, rfl⟩) (fun hZ => ?_)
  refine rc_putRZ hZ (by decide) mq76 (mvDec_of cd76 rfl) fl_2_18 (misN (by decide) (by decide) (by decide) mis15) (fun _ => ⟨rfl, rfl⟩) ⟨rfl, by decide⟩ (fun hZ => ?_)
  refine rc_aload_n mq76 (mvDec_of cd76 rfl) rfl ?_
  refine rc_bipush mq76 (mvDec_of cd76 rfl) (by decide) ?_
  refine rc_newaZ (t := 0) (len := 36) hZ mq76 (mvDec_of cd76 rfl) (by decide +kernel) rfl (Or.inl ⟨rfl, rfl⟩) (fun hZ => ?_)
  refine rc_putRZ hZ (by decide) mq76 (mvDec_of cd76 rfl) fl_2_21 (misN (by decide) (by decide) (by decide) mis15) (fun _ => ⟨rfl, rfl⟩) ⟨rfl, by decide⟩ (fun hZ => ?_)
  refine rc_aload_n mq76 (mvDec_of cd76 rfl) rfl ?_
  refine rc_sipush mq76 (mvDec_of cd76 rfl) (by decide) ?_
  refine rc_newaZ (t := 0) (len := 144) hZ mq76 (mvDec_of cd76 rfl) (by decide +kernel) rfl (Or.inl ⟨rfl, rfl⟩) (fun hZ => ?_)
  refine rc_putRZ hZ (by decide) mq76 (mvDec_of cd76 rfl) fl_2_24 (misN (by decide) (by decide) (by decide) mis15) (fun _ => ⟨rfl, rfl⟩) ⟨rfl, by decide⟩ (fun hZ => ?_)
  refine rc_aload_n mq76 (mvDec_of cd76 rfl) rfl ?_
  refine rc_bipush mq76 (mvDec_of cd76 rfl) (by decide) ?_
  refine rc_newaZ (t := 0) (len := 40) hZ mq76 (mvDec_of cd76 rfl) (by decide +kernel) rfl (Or.inl ⟨rfl, rfl⟩) (fun hZ => ?_)
  refine rc_putRZ hZ (by decide) mq76 (mvDec_of cd76 rfl) fl_2_27 (misN (by decide) (by decide) (by decide) mis15) (fun _ => ⟨rfl, rfl⟩) ⟨rfl, by decide⟩ (fun hZ => ?_)
  refine rc_aload_n mq76 (mvDec_of cd76 rfl) rfl ?_
  refine rc_bipush mq76 (mvDec_of cd76 rfl) (by decide) ?_
  refine rc_newaZ (t := 0) (len := 40) hZ mq76 (mvDec_of cd76 rfl) (by decide +kernel) rfl (Or.inl ⟨rfl, rfl⟩) (fun hZ => ?_)
  refine rc_putRZ hZ (by decide) mq76 (mvDec_of cd76 rfl) fl_2_30 (misN (by decide) (by decide) (by decide) mis15) (fun _ => ⟨rfl, rfl⟩) ⟨rfl, by decide⟩ (fun hZ => ?_)
  refine rc_aload_n mq76 (mvDec_of cd76 rfl) rfl ?_
  refine rc_iconst mq76 (mvDec_of cd76 rfl) (by decide) ?_
  refine rc_newaZ (t := 0) (len := 4) hZ mq76 (mvDec_of cd76 rfl) (by decide +kernel) rfl (Or.inl ⟨rfl, rfl⟩) (fun hZ => ?_)
  refine rc_putRZ hZ (by decide) mq76 (mvDec_of cd76 rfl) fl_2_33 (misN (by decide) (by decide) (by decide) mis15) (fun _ => ⟨rfl, rfl⟩) ⟨rfl, by decide⟩ (fun hZ => ?_)
  refine rc_vret mq76 (mvDec_of cd76 rfl) ?_
  show Rch 178 34 [some (mvR 3)] [mvR 15, mvR 3] _ _
  refine rc_putRZ hZ (by decide) mq178 (mvDec_of cd178 rfl) fl_0_23 (misN (by decide) (by decide) (by decide) mis3) (fun _ => ⟨rfl, rfl⟩) ⟨rfl, by decide⟩ (fun hZ => ?_)
  refine rc_aload_n mq178 (mvDec_of cd178 rfl) rfl ?_
  refine rc_newZ (cf := 3) hZ mq178 (mvDec_of cd178 rfl) (by decide +kernel) (by decide +kernel) (fun hZ => ?_)
  refine rc_dup mq178 (mvDec_of cd178 rfl) rfl ?_
  refine rc_callIN [mvR 24] [mvR 24, mvR 3] [some (mvR 24)] mq178 (mvDec_of cd178 rfl) lk_0_28 mq88 (by decide) rfl rfl (Nat.le_of_ble_eq_true rfl) (Nat.le_of_ble_eq_true rfl) (by decide) rfl (misN (by decide) (by decide) (by decide) mis24) rfl ?_
  refine rc_aload_n mq88 (mvDec_of cd88 rfl) rfl ?_
  refine rc_obj mq88 (mvDec_of cd88 rfl) lk_3_3 ⟨by decide, Nat.le_of_ble_eq_true rfl⟩ ?_
  refine rc_aload_n mq88 (mvDec_of cd88 rfl) rfl ?_
  refine rc_bipush mq88 (mvDec_of cd88 rfl) (by decide) ?_
  refine rc_newaZ (t := 0) (len := 18) hZ mq88 (mvDec_of cd88 rfl) (by decide +kernel) rfl (Or.inl ⟨rfl, rfl⟩) (fun hZ => ?_)
  refine rc_putRZ hZ (by decide) mq88 (mvDec_of cd88 rfl) fl_3_9 (misN (by decide) (by decide) (by decide) mis24) (fun _ => ⟨rfl, rfl⟩) ⟨rfl, by decide⟩ (fun hZ => ?_)
  refine rc_aload_n mq88 (mvDec_of cd88 rfl) rfl ?_
  refine rc_iconst mq88 (mvDec_of cd88 rfl) (by decide) ?_
  refine rc_newaZ (t := 0) (len := 4) hZ mq88 (mvDec_of cd88 rfl) (by decide +kernel) rfl (Or.inl ⟨rfl, rfl⟩) (fun hZ => ?_)
  refine rc_putRZ hZ (by decide) mq88 (mvDec_of cd88 rfl) fl_3_15 (misN (by decide) (by decide) (by decide) mis24) (fun _ => ⟨rfl, rfl⟩) ⟨rfl, by decide⟩ (fun hZ => ?_)
  refine rc_aload_n mq88 (mvDec_of cd88 rfl) rfl ?_
  refine rc_sipush mq88 (mvDec_of cd88 rfl) (by decide) ?_
  refine rc_newaZ (t := 0) (len := 625) hZ mq88 (mvDec_of cd88 rfl) (by decide +kernel) rfl (Or.inl ⟨rfl, rfl⟩) (fun hZ => ?_)
  refine rc_putRZ hZ (by decide) mq88 (mvDec_of cd88 rfl) fl_3_18 (misN (by decide) (by decide) (by decide) mis24) (fun _ => ⟨rfl, rfl⟩) ⟨rfl, by decide⟩ (fun hZ => ?_)
  refine rc_aload_n mq88 (mvDec_of cd88 rfl) rfl ?_
  refine rc_sipush mq88 (mvDec_of cd88 rfl) (by decide) ?_
  refine rc_newaZ (t := 0) (len := 625) hZ mq88 (mvDec_of cd88 rfl) (by decide +kernel) rfl (Or.inl ⟨rfl, rfl⟩) (fun hZ => ?_)
  refine rc_putRZ hZ (by decide) mq88 (mvDec_of cd88 rfl) fl_3_21 (misN (by decide) (by decide) (by decide) mis24) (fun _ => ⟨rfl, rfl⟩) ⟨rfl, by decide⟩ (fun hZ => ?_)
  refine rc_aload_n mq88 (mvDec_of cd88 rfl) rfl ?_
  refine rc_sipush mq88 (mvDec_of cd88 rfl) (by decide) ?_
  refine rc_newaZ (t := 0) (len := 625) hZ mq88 (mvDec_of cd88 rfl) (by decide +kernel) rfl (Or.inl ⟨rfl, rfl⟩) (fun hZ => ?_)
  refine rc_putRZ hZ (by decide) mq88 (mvDec_of cd88 rfl) fl_3_24 (misN (by decide) (by decide) (by decide) mis24) (fun _ => ⟨rfl, rfl⟩) ⟨rfl, by decide⟩ (fun hZ => ?_)
  refine rc_aload_n mq88 (mvDec_of cd88 rfl) rfl ?_
  refine rc_sipush mq88 (mvDec_of cd88 rfl) (by decide) ?_
  refine rc_newaZ (t := 0) (len := 625) hZ mq88 (mvDec_of cd88 rfl) (by decide +kernel) rfl (Or.inl ⟨rfl, rfl⟩) (fun hZ => ?_)
  refine rc_putRZ hZ (by decide) mq88 (mvDec_of cd88 rfl) fl_3_27 (misN (by decide) (by decide) (by decide) mis24) (fun _ => ⟨rfl, rfl⟩) ⟨rfl, by decide⟩ (fun hZ => ?_)
  refine rc_vret mq88 (mvDec_of cd88 rfl) ?_
  show Rch 178 45 [some (mvR 3)] [mvR 24, mvR 3] _ _
  refine rc_putRZ hZ (by decide) mq178 (mvDec_of cd178 rfl) fl_0_29 (misN (by decide) (by decide) (by decide) mis3) (fun _ => ⟨rfl, rfl⟩) ⟨rfl, by decide⟩ (fun hZ => ?_)
  refine rc_aload_n mq178 (mvDec_of cd178 rfl) rfl ?_
  refine rc_newZ (cf := 4) hZ mq178 (mvDec_of cd178 rfl) (by decide +kernel) (by decide +kernel) (fun hZ => ?_)
  refine rc_dup mq178 (mvDec_of cd178 rfl) rfl ?_
  refine rc_callIN [mvR 31] [mvR 31, mvR 3] [some (mvR 31)] mq178 (mvDec_of cd178 rfl) lk_0_35 mq93 (by decide) rfl rfl (Nat.le_of_ble_eq_true rfl) (Nat.le_of_ble_eq_true rfl) (by decide) rfl (misN (by decide) (by decide) (by decide) mis31) rfl ?_
  refine rc_aload_n mq93 (mvDec_of cd93 rfl) rfl ?_
  refine rc_obj mq93 (mvDec_of cd93 rfl) lk_4_3 ⟨by decide, Nat.le_of_ble_eq_true rfl⟩ ?_
  refine rc_aload_n mq93 (mvDec_of cd93 rfl) rfl ?_
  refine rc_iconst mq93 (mvDec_of cd93 rfl) (by decide) ?_
  refine rc_newaZ (t := 0) (len := 4) hZ mq93 (mvDec_of cd93 rfl) (by decide +kernel) rfl (Or.inl ⟨rfl, rfl⟩) (fun hZ => ?_)
  refine rc_putRZ hZ (by decide) mq93 (mvDec_of cd93 rfl) fl_4_9 (misN (by decide) (by decide) (by decide) mis31) (fun _ => ⟨rfl, rfl⟩) ⟨rfl, by decide⟩ (fun hZ => ?_)
  refine rc_vret mq93 (mvDec_of cd93 rfl) ?_
  show Rch 178 56 [some (mvR 3)] [mvR 31, mvR 3] _ _
  refine rc_putRZ hZ (by decide) mq178 (mvDec_of cd178 rfl) fl_0_36 (misN (by decide) (by decide) (by decide) mis3) (fun _ => ⟨rfl, rfl⟩) ⟨rfl, by decide⟩ (fun hZ => ?_)
  refine rc_aload_n mq178 (mvDec_of cd178 rfl) rfl ?_
  refine rc_newZ (cf := 5) hZ mq178 (mvDec_of cd178 rfl) (by decide +kernel) (by decide +kernel) (fun hZ => ?_)
  refine rc_dup mq178 (mvDec_of cd178 rfl) rfl ?_
  refine rc_callIN [mvR 33] [mvR 33, mvR 3] [some (mvR 33)] mq178 (mvDec_of cd178 rfl) lk_0_42 mq98 (by decide) rfl rfl (Nat.le_of_ble_eq_true rfl) (Nat.le_of_ble_eq_true rfl) (by decide) rfl (misN (by decide) (by decide) (by decide) mis33) rfl ?_
  refine rc_aload_n mq98 (mvDec_of cd98 rfl) rfl ?_
  refine rc_obj mq98 (mvDec_of cd98 rfl) lk_5_3 ⟨by decide, Nat.le_of_ble_eq_true rfl⟩ ?_
  refine rc_aload_n mq98 (mvDec_of cd98 rfl) rfl ?_
  refine rc_bipush mq98 (mvDec_of cd98 rfl) (by decide) ?_
  refine rc_newaZ (t := 0) (len := 16) hZ mq98 (mvDec_of cd98 rfl) (by decide +kernel) rfl (Or.inl ⟨rfl, rfl⟩) (fun hZ => ?_)
  refine rc_putRZ hZ (by decide) mq98 (mvDec_of cd98 rfl) fl_5_9 (misN (by decide) (by decide) (by decide) mis33) (fun _ => ⟨rfl, rfl⟩) ⟨rfl, by decide⟩ (fun hZ => ?_)
  refine rc_aload_n mq98 (mvDec_of cd98 rfl) rfl ?_
  refine rc_sipush mq98 (mvDec_of cd98 rfl) (by decide) ?_
  refine rc_newaZ (t := 1) (len := 625) hZ mq98 (mvDec_of cd98 rfl) (by decide +kernel) rfl (Or.inr ⟨rfl, rfl⟩) (fun hZ => ?_)
  refine rc_putRZ hZ (by decide) mq98 (mvDec_of cd98 rfl) fl_5_15 (misN (by decide) (by decide) (by decide) mis33) (fun _ => ⟨rfl, rfl⟩) ⟨rfl, by decide⟩ (fun hZ => ?_)
  refine rc_vret mq98 (mvDec_of cd98 rfl) ?_
  show Rch 178 67 [some (mvR 3)] [mvR 33, mvR 3] _ _
  refine rc_putRZ hZ (by decide) mq178 (mvDec_of cd178 rfl) fl_0_43 (misN (by decide) (by decide) (by decide) mis3) (fun _ => ⟨rfl, rfl⟩) ⟨rfl, by decide⟩ (fun hZ => ?_)
  refine rc_aload_n mq178 (mvDec_of cd178 rfl) rfl ?_
  refine rc_newZ (cf := 6) hZ mq178 (mvDec_of cd178 rfl) (by decide +kernel) (by decide +kernel) (fun hZ => ?_)
  refine rc_dup mq178 (mvDec_of cd178 rfl) rfl ?_
  refine rc_callIN [mvR 36] [mvR 36, mvR 3] [some (mvR 36)] mq178 (mvDec_of cd178 rfl) lk_0_49 mq99 (by decide) rfl rfl (Nat.le_of_ble_eq_true rfl) (Nat.le_of_ble_eq_true rfl) (by decide) rfl (misN (by decide) (by decide) (by decide) mis36) rfl ?_
  refine rc_aload_n mq99 (mvDec_of cd99 rfl) rfl ?_
  refine rc_obj mq99 (mvDec_of cd99 rfl) lk_6_3 ⟨by decide, Nat.le_of_ble_eq_true rfl⟩ ?_
  refine rc_aload_n mq99 (mvDec_of cd99 rfl) rfl ?_
  refine rc_iconst mq99 (mvDec_of cd99 rfl) (by decide) ?_
  refine rc_newaZ (t := 0) (len := 4) hZ mq99 (mvDec_of cd99 rfl) (by decide +kernel) rfl (Or.inl ⟨rfl, rfl⟩) (fun hZ => ?_)
  refine rc_putRZ hZ (by decide) mq99 (mvDec_of cd99 rfl) fl_6_9 (misN (by decide) (by decide) (by decide) mis36) (fun _ => ⟨rfl, rfl⟩) ⟨rfl, by decide⟩ (fun hZ => ?_)
  refine rc_aload_n mq99 (mvDec_of cd99 rfl) rfl ?_
  refine rc_bipush mq99 (mvDec_of cd99 rfl) (by decide) ?_
  refine rc_newaZ (t := 0) (len := 20) hZ mq99 (mvDec_of cd99 rfl) (by decide +kernel) rfl (Or.inl ⟨rfl, rfl⟩) (fun hZ => ?_)
  refine rc_putRZ hZ (by decide) mq99 (mvDec_of cd99 rfl) fl_6_15 (misN (by decide) (by decide) (by decide) mis36) (fun _ => ⟨rfl, rfl⟩) ⟨rfl, by decide⟩ (fun hZ => ?_)
  refine rc_aload_n mq99 (mvDec_of cd99 rfl) rfl ?_
  refine rc_bipush mq99 (mvDec_of cd99 rfl) (by decide) ?_
  refine rc_newaZ (t := 0) (len := 20) hZ mq99 (mvDec_of cd99 rfl) (by decide +kernel) rfl (Or.inl ⟨rfl, rfl⟩) (fun hZ => ?_)
  refine rc_putRZ hZ (by decide) mq99 (mvDec_of cd99 rfl) fl_6_18 (misN (by decide) (by decide) (by decide) mis36) (fun _ => ⟨rfl, rfl⟩) ⟨rfl, by decide⟩ (fun hZ => ?_)
  refine rc_aload_n mq99 (mvDec_of cd99 rfl) rfl ?_
  refine rc_iconst mq99 (mvDec_of cd99 rfl) (by decide) ?_
  refine rc_newaZ (t := 0) (len := 4) hZ mq99 (mvDec_of cd99 rfl) (by decide +kernel) rfl (Or.inl ⟨rfl, rfl⟩) (fun hZ => ?_)
  refine rc_putRZ hZ (by decide) mq99 (mvDec_of cd99 rfl) fl_6_21 (misN (by decide) (by decide) (by decide) mis36) (fun _ => ⟨rfl, rfl⟩) ⟨rfl, by decide⟩ (fun hZ => ?_)
  refine rc_vret mq99 (mvDec_of cd99 rfl) ?_
  show Rch 178 78 [some (mvR 3)] [mvR 36, mvR 3] _ _
  refine rc_putRZ hZ (by decide) mq178 (mvDec_of cd178 rfl) fl_0_50 (misN (by decide) (by decide) (by decide) mis3) (fun _ => ⟨rfl, rfl⟩) ⟨rfl, by decide⟩ (fun hZ => ?_)
  refine rc_aload_n mq178 (mvDec_of cd178 rfl) rfl ?_
  refine rc_newZ (cf := 7) hZ mq178 (mvDec_of cd178 rfl) (by decide +kernel) (by decide +kernel) (fun hZ => ?_)
  refine rc_dup mq178 (mvDec_of cd178 rfl) rfl ?_
  refine rc_callIN [mvR 41] [mvR 41, mvR 3] [some (mvR 41)] mq178 (mvDec_of cd178 rfl) lk_0_56 mq157 (by decide) rfl rfl (Nat.le_of_ble_eq_true rfl) (Nat.le_of_ble_eq_true rfl) (by decide) rfl (misN (by decide) (by decide) (by decide) mis41) rfl ?_
  refine rc_aload_n mq157 (mvDec_of cd157 rfl) rfl ?_
  refine rc_obj mq157 (mvDec_of cd157 rfl) lk_7_3 ⟨by decide, Nat.le_of_ble_eq_true rfl⟩ ?_
  refine rc_aload_n mq157 (mvDec_of cd157 rfl) rfl ?_
  refine rc_newZ (cf := 2) hZ mq157 (mvDec_of cd157 rfl) (by decide +kernel) (by decide +kernel) (fun hZ => ?_)
  refine rc_dup mq157 (mvDec_of cd157 rfl) rfl ?_
  refine rc_callIN [mvR 42] [mvR 42, mvR 41] [some (mvR 42)] mq157 (mvDec_of cd157 rfl) lk_7_11 mq76 (by decide) rfl rfl (Nat.le_of_ble_eq_true rfl) (Nat.le_of_ble_eq_true rfl) (by decide) rfl (misN (by decide) (by decide) (by decide) mis42) rfl ?_
  refine rc_aload_n mq76 (mvDec_of cd76 rfl) rfl ?_
  refine rc_obj mq76 (mvDec_of cd76 rfl) lk_2_3 ⟨by decide, Nat.le_of_ble_eq_true rfl⟩ ?_
  refine rc_aload_n mq76 (mvDec_of cd76 rfl) rfl ?_
  refine rc_iconst mq76 (mvDec_of cd76 rfl) (by decide) ?_
  refine rc_newaZ (t := 0) (len := 4) hZ mq76 (mvDec_of cd76 rfl) (by decide +kernel) rfl (Or.inl ⟨rfl, rfl⟩) (fun hZ => ?_)
  refine rc_putRZ hZ (by decide) mq76 (mvDec_of cd76 rfl) fl_2_9 (misN (by decide) (by decide) (by decide) mis42) (fun _ => ⟨rfl, rfl⟩) ⟨rfl, by decide⟩ (fun hZ => ?_)
  refine rc_aload_n mq76 (mvDec_of cd76 rfl) rfl ?_
  refine rc_bipush mq76 (mvDec_of cd76 rfl) (by decide) ?_
  refine rc_newaZ (t := 0) (len := 36) hZ mq76 (mvDec_of cd76 rfl) (by decide +kernel) rfl (Or.inl ⟨rfl, rfl⟩) (fun hZ => ?_)
  refine rc_putRZ hZ (by decide) mq76 (mvDec_of cd76 rfl) fl_2_15 (misN (by decide) (by decide) (by decide) mis42) (fun _ => ⟨rfl, rfl⟩) ⟨rfl, by decide⟩ (fun hZ => ?_)
  refine rc_aload_n mq76 (mvDec_of cd76 rfl) rfl ?_
  refine rc_bipush mq76 (mvDec_of cd76 rfl) (by decide) ?_
  refine rc_newaZ (t := 0) (len := 36) hZ mq76 (mvDec_of cd76 rfl) (by decide +kernel) rfl (Or.inl ⟨rfl, rfl⟩) (fun hZ => ?_)
  refine rc_putRZ hZ (by decide) mq76 (mvDec_of cd76 rfl) fl_2_18 (misN (by decide) (by decide) (by decide) mis42) (fun _ => ⟨rfl, rfl⟩) ⟨rfl, by decide⟩ (fun hZ => ?_)
  refine rc_aload_n mq76 (mvDec_of cd76 rfl) rfl ?_
  refine rc_bipush mq76 (mvDec_of cd76 rfl) (by decide) ?_
  refine rc_newaZ (t := 0) (len := 36) hZ mq76 (mvDec_of cd76 rfl) (by decide +kernel) rfl (Or.inl ⟨rfl, rfl⟩) (fun hZ => ?_)
  refine rc_putRZ hZ (by decide) mq76 (mvDec_of cd76 rfl) fl_2_21 (misN (by decide) (by decide) (by decide) mis42) (fun _ => ⟨rfl, rfl⟩) ⟨rfl, by decide⟩ (fun hZ => ?_)
  refine rc_aload_n mq76 (mvDec_of cd76 rfl) rfl ?_
  refine rc_sipush mq76 (mvDec_of cd76 rfl) (by decide) ?_
  refine rc_newaZ (t := 0) (len := 144) hZ mq76 (mvDec_of cd76 rfl) (by decide +kernel) rfl (Or.inl ⟨rfl, rfl⟩) (fun hZ => ?_)
  refine rc_putRZ hZ (by decide) mq76 (mvDec_of cd76 rfl) fl_2_24 (misN (by decide) (by decide) (by decide) mis42) (fun _ => ⟨rfl, rfl⟩) ⟨rfl, by decide⟩ (fun hZ => ?_)
  refine rc_aload_n mq76 (mvDec_of cd76 rfl) rfl ?_
  refine rc_bipush mq76 (mvDec_of cd76 rfl) (by decide) ?_
  refine rc_newaZ (t := 0) (len := 40) hZ mq76 (mvDec_of cd76 rfl) (by decide +kernel) rfl (Or.inl ⟨rfl, rfl⟩) (fun hZ => ?_)
  refine rc_putRZ hZ (by decide) mq76 (mvDec_of cd76 rfl) fl_2_27 (misN (by decide) (by decide) (by decide) mis42) (fun _ => ⟨rfl, rfl⟩) ⟨rfl, by decide⟩ (fun hZ => ?_)
  refine rc_aload_n mq76 (mvDec_of cd76 rfl) rfl ?_
  refine rc_bipush mq76 (mvDec_of cd76 rfl) (by decide) ?_
  refine rc_newaZ (t := 0) (len := 40) hZ mq76 (mvDec_of cd76 rfl) (by decide +kernel) rfl (Or.inl ⟨rfl, rfl⟩) (fun hZ => ?_)
  refine rc_putRZ hZ (by decide) mq76 (mvDec_of cd76 rfl) fl_2_30 (misN (by decide) (by decide) (by decide) mis42) (fun _ => ⟨rfl, rfl⟩) ⟨rfl, by decide⟩ (fun hZ => ?_)
  refine rc_aload_n mq76 (mvDec_of cd76 rfl) rfl ?_
  refine rc_iconst mq76 (mvDec_of cd76 rfl) (by decide) ?_
  refine rc_newaZ (t := 0) (len := 4) hZ mq76 (mvDec_of cd76 rfl) (by decide +kernel) rfl (Or.inl ⟨rfl, rfl⟩) (fun hZ => ?_)
  refine rc_putRZ hZ (by decide) mq76 (mvDec_of cd76 rfl) fl_2_33 (misN (by decide) (by decide) (by decide) mis42) (fun _ => ⟨rfl, rfl⟩) ⟨rfl, by decide⟩ (fun hZ => ?_)
  refine rc_vret mq76 (mvDec_of cd76 rfl) ?_
  show Rch 157 12 [some (mvR 41)] [mvR 42, mvR 41] _ _
  refine rc_putRZ hZ (by decide) mq157 (mvDec_of cd157 rfl) fl_7_12 (misN (by decide) (by decide) (by decide) mis41) (fun _ => ⟨rfl, rfl⟩) ⟨rfl, by decide⟩ (fun hZ => ?_)
  refine rc_aload_n mq157 (mvDec_of cd157 rfl) rfl ?_
  refine rc_newZ (cf := 3) hZ mq157 (mvDec_of cd157 rfl) (by decide +kernel) (by decide +kernel) (fun hZ => ?_)
  refine rc_dup mq157 (mvDec_of cd157 rfl) rfl ?_
  refine rc_callIN [mvR 51] [mvR 51, mvR 41] [some (mvR 51)] mq157 (mvDec_of cd157 rfl) lk_7_20 mq88 (by decide) rfl rfl (Nat.le_of_ble_eq_true rfl) (Nat.le_of_ble_eq_true rfl) (by decide) rfl (misN (by decide) (by decide) (by decide) mis51) rfl ?_
  refine rc_aload_n mq88 (mvDec_of cd88 rfl) rfl ?_
  refine rc_obj mq88 (mvDec_of cd88 rfl) lk_3_3 ⟨by decide, Nat.le_of_ble_eq_true rfl⟩ ?_
  refine rc_aload_n mq88 (mvDec_of cd88 rfl) rfl ?_
  refine rc_bipush mq88 (mvDec_of cd88 rfl) (by decide) ?_
  refine rc_newaZ (t := 0) (len := 18) hZ mq88 (mvDec_of cd88 rfl) (by decide +kernel) rfl (Or.inl ⟨rfl, rfl⟩) (fun hZ => ?_)
  refine rc_putRZ hZ (by decide) mq88 (mvDec_of cd88 rfl) fl_3_9 (misN (by decide) (by decide) (by decide) mis51) (fun _ => ⟨rfl, rfl⟩) ⟨rfl, by decide⟩ (fun hZ => ?_)
  refine rc_aload_n mq88 (mvDec_of cd88 rfl) rfl ?_
  refine rc_iconst mq88 (mvDec_of cd88 rfl) (by decide) ?_
  refine rc_newaZ (t := 0) (len := 4) hZ mq88 (mvDec_of cd88 rfl) (by decide +kernel) rfl (Or.inl ⟨rfl, rfl⟩) (fun hZ => ?_)
  refine rc_putRZ hZ (by decide) mq88 (mvDec_of cd88 rfl) fl_3_15 (misN (by decide) (by decide) (by decide) mis51) (fun _ => ⟨rfl, rfl⟩) ⟨rfl, by decide⟩ (fun hZ => ?_)
  refine rc_aload_n mq88 (mvDec_of cd88 rfl) rfl ?_
  refine rc_sipush mq88 (mvDec_of cd88 rfl) (by decide) ?_
  refine rc_newaZ (t := 0) (len := 625) hZ mq88 (mvDec_of cd88 rfl) (by decide +kernel) rfl (Or.inl ⟨rfl, rfl⟩) (fun hZ => ?_)
  refine rc_putRZ hZ (by decide) mq88 (mvDec_of cd88 rfl) fl_3_18 (misN (by decide) (by decide) (by decide) mis51) (fun _ => ⟨rfl, rfl⟩) ⟨rfl, by decide⟩ (fun hZ => ?_)
  refine rc_aload_n mq88 (mvDec_of cd88 rfl) rfl ?_
  refine rc_sipush mq88 (mvDec_of cd88 rfl) (by decide) ?_
  refine rc_newaZ (t := 0) (len := 625) hZ mq88 (mvDec_of cd88 rfl) (by decide +kernel) rfl (Or.inl ⟨rfl, rfl⟩) (fun hZ => ?_)
  refine rc_putRZ hZ (by decide) mq88 (mvDec_of cd88 rfl) fl_3_21 (misN (by decide) (by decide) (by decide) mis51) (fun _ => ⟨rfl, rfl⟩) ⟨rfl, by decide⟩ (fun hZ => ?_)
  refine rc_aload_n mq88 (mvDec_of cd88 rfl) rfl ?_
  refine rc_sipush mq88 (mvDec_of cd88 rfl) (by decide) ?_
  refine rc_newaZ (t := 0) (len := 625) hZ mq88 (mvDec_of cd88 rfl) (by decide +kernel) rfl (Or.inl ⟨rfl, rfl⟩) (fun hZ => ?_)
  refine rc_putRZ hZ (by decide) mq88 (mvDec_of cd88 rfl) fl_3_24 (misN (by decide) (by decide) (by decide) mis51) (fun _ => ⟨rfl, rfl⟩) ⟨rfl, by decide⟩ (fun hZ => ?_)
  refine rc_aload_n mq88 (mvDec_of cd88 rfl) rfl ?_
  refine rc_sipush mq88 (mvDec_of cd88 rfl) (by decide) ?_
  refine rc_newaZ (t := 0) (len := 625) hZ mq88 (mvDec_of cd88 rfl) (by decide +kernel) rfl (Or.inl ⟨rfl, rfl⟩) (fun hZ => ?_)
  refine rc_putRZ hZ (by decide) mq88 (mvDec_of cd88 rfl) fl_3_27 (misN (by decide) (by decide) (by decide) mis51) (fun _ => ⟨rfl, rfl⟩) ⟨rfl, by decide⟩ (fun hZ => ?_)
  refine rc_vret mq88 (mvDec_of cd88 rfl) ?_
  show Rch 157 23 [some (mvR 41)] [mvR 51, mvR 41] _ _
  refine rc_putRZ hZ (by decide) mq157 (mvDec_of cd157 rfl) fl_7_21 (misN (by decide) (by decide) (by decide) mis41) (fun _ => ⟨rfl, rfl⟩) ⟨rfl, by decide⟩ (fun hZ => ?_)
  refine rc_aload_n mq157 (mvDec_of cd157 rfl) rfl ?_
  refine rc_newZ (cf := 5) hZ mq157 (mvDec_of cd157 rfl) (by decide +kernel) (by decide +kernel) (fun hZ => ?_)
  refine rc_dup mq157 (mvDec_of cd157 rfl) rfl ?_
  refine rc_callIN [mvR 58] [mvR 58, mvR 41] [some (mvR 58)] mq157 (mvDec_of cd157 rfl) lk_7_27 mq98 (by decide) rfl rfl (Nat.le_of_ble_eq_true rfl) (Nat.le_of_ble_eq_true rfl) (by decide) rfl (misN (by decide) (by decide) (by decide) mis58) rfl ?_
  refine rc_aload_n mq98 (mvDec_of cd98 rfl) rfl ?_
  refine rc_obj mq98 (mvDec_of cd98 rfl) lk_5_3 ⟨by decide, Nat.le_of_ble_eq_true rfl⟩ ?_
  refine rc_aload_n mq98 (mvDec_of cd98 rfl) rfl ?_
  refine rc_bipush mq98 (mvDec_of cd98 rfl) (by decide) ?_
  refine rc_newaZ (t := 0) (len := 16) hZ mq98 (mvDec_of cd98 rfl) (by decide +kernel) rfl (Or.inl ⟨rfl, rfl⟩) (fun hZ => ?_)
  refine rc_putRZ hZ (by decide) mq98 (mvDec_of cd98 rfl) fl_5_9 (misN (by decide) (by decide) (by decide) mis58) (fun _ => ⟨rfl, rfl⟩) ⟨rfl, by decide⟩ (fun hZ => ?_)
  refine rc_aload_n mq98 (mvDec_of cd98 rfl) rfl ?_
  refine rc_sipush mq98 (mvDec_of cd98 rfl) (by decide) ?_
  refine rc_newaZ (t := 1) (len := 625) hZ mq98 (mvDec_of cd98 rfl) (by decide +kernel) rfl (Or.inr ⟨rfl, rfl⟩) (fun hZ => ?_)
  refine rc_putRZ hZ (by decide) mq98 (mvDec_of cd98 rfl) fl_5_15 (misN (by decide) (by decide) (by decide) mis58) (fun _ => ⟨rfl, rfl⟩) ⟨rfl, by decide⟩ (fun hZ => ?_)
  refine rc_vret mq98 (mvDec_of cd98 rfl) ?_
  show Rch 157 34 [some (mvR 41)] [mvR 58, mvR 41] _ _
  refine rc_putRZ hZ (by decide) mq157 (mvDec_of cd157 rfl) fl_7_28 (misN (by decide) (by decide) (by decide) mis41) (fun _ => ⟨rfl, rfl⟩) ⟨rfl, by decide⟩ (fun hZ => ?_)
  refine rc_vret mq157 (mvDec_of cd157 rfl) ?_
  show Rch 178 89 [some (mvR 3)] [mvR 41, mvR 3] _ _
  refine rc_putRZ hZ (by decide) mq178 (mvDec_of cd178 rfl) fl_0_57 (misN (by decide) (by decide) (by decide) mis3) (fun _ => ⟨rfl, rfl⟩) ⟨rfl, by decide⟩ (fun hZ => ?_)
  refine rc_aload_n mq178 (mvDec_of cd178 rfl) rfl ?_
  refine rc_newZ (cf := 8) hZ mq178 (mvDec_of cd178 rfl) (by decide +kernel) (by decide +kernel) (fun hZ => ?_)
  refine rc_dup mq178 (mvDec_of cd178 rfl) rfl ?_
  refine rc_callIN [mvR 61] [mvR 61, mvR 3] [some (mvR 61)] mq178 (mvDec_of cd178 rfl) lk_0_63 mq104 (by decide) rfl rfl (Nat.le_of_ble_eq_true rfl) (Nat.le_of_ble_eq_true rfl) (by decide) rfl (misN (by decide) (by decide) (by decide) mis61) rfl ?_
  refine rc_aload_n mq104 (mvDec_of cd104 rfl) rfl ?_
  refine rc_obj mq104 (mvDec_of cd104 rfl) lk_8_3 ⟨by decide, Nat.le_of_ble_eq_true rfl⟩ ?_
  refine rc_aload_n mq104 (mvDec_of cd104 rfl) rfl ?_
  refine rc_iconst mq104 (mvDec_of cd104 rfl) (by decide) ?_
  replace hZ := hZ.putI (a := 61) (i := 0) (v := (-1)) (by decide)
  refine rc_putI 0 mq104 (mvDec_of cd104 rfl) fl_8_9 (misN (by decide) (by decide) (by decide) mis61) rfl (fun z => absurd z (by decide)) (Or.inl rfl) ?_
  refine rc_aload_n mq104 (mvDec_of cd104 rfl) rfl ?_
  refine rc_bipush mq104 (mvDec_of cd104 rfl) (by decide) ?_
  refine rc_newaZ (t := 0) (len := 16) hZ mq104 (mvDec_of cd104 rfl) (by decide +kernel) rfl (Or.inl ⟨rfl, rfl⟩) (fun hZ => ?_)
  refine rc_putRZ hZ (by decide) mq104 (mvDec_of cd104 rfl) fl_8_15 (misN (by decide) (by decide) (by decide) mis61) (fun _ => ⟨rfl, rfl⟩) ⟨rfl, by decide⟩ (fun hZ => ?_)
  refine rc_vret mq104 (mvDec_of cd104 rfl) ?_
  show Rch 178 100 [some (mvR 3)] [mvR 61, mvR 3] _ _
  refine rc_putRZ hZ (by decide) mq178 (mvDec_of cd178 rfl) fl_0_64 (misN (by decide) (by decide) (by decide) mis3) (fun _ => ⟨rfl, rfl⟩) ⟨rfl, by decide⟩ (fun hZ => ?_)
  refine rc_aload_n mq178 (mvDec_of cd178 rfl) rfl ?_
  refine rc_newZ (cf := 9) hZ mq178 (mvDec_of cd178 rfl) (by decide +kernel) (by decide +kernel) (fun hZ => ?_)
  refine rc_dup mq178 (mvDec_of cd178 rfl) rfl ?_
  refine rc_callIN [mvR 63] [mvR 63, mvR 3] [some (mvR 63)] mq178 (mvDec_of cd178 rfl) lk_0_70 mq106 (by decide) rfl rfl (Nat.le_of_ble_eq_true rfl) (Nat.le_of_ble_eq_true rfl) (by decide) rfl (misN (by decide) (by decide) (by decide) mis63) rfl ?_
  refine rc_aload_n mq106 (mvDec_of cd106 rfl) rfl ?_
  refine rc_obj mq106 (mvDec_of cd106 rfl) lk_9_3 ⟨by decide, Nat.le_of_ble_eq_true rfl⟩ ?_
  refine rc_aload_n mq106 (mvDec_of cd106 rfl) rfl ?_
  refine rc_bipush mq106 (mvDec_of cd106 rfl) (by decide) ?_
  refine rc_newaZ (t := 0) (len := 16) hZ mq106 (mvDec_of cd106 rfl) (by decide +kernel) rfl (Or.inl ⟨rfl, rfl⟩) (fun hZ => ?_)
  refine rc_putRZ hZ (by decide) mq106 (mvDec_of cd106 rfl) fl_9_9 (misN (by decide) (by decide) (by decide) mis63) (fun _ => ⟨rfl, rfl⟩) ⟨rfl, by decide⟩ (fun hZ => ?_)
  refine rc_aload_n mq106 (mvDec_of cd106 rfl) rfl ?_
  refine rc_bipush mq106 (mvDec_of cd106 rfl) (by decide) ?_
  refine rc_newaZ (t := 0) (len := 16) hZ mq106 (mvDec_of cd106 rfl) (by decide +kernel) rfl (Or.inl ⟨rfl, rfl⟩) (fun hZ => ?_)
  refine rc_putRZ hZ (by decide) mq106 (mvDec_of cd106 rfl) fl_9_15 (misN (by decide) (by decide) (by decide) mis63) (fun _ => ⟨rfl, rfl⟩) ⟨rfl, by decide⟩ (fun hZ => ?_)
  refine rc_aload_n mq106 (mvDec_of cd106 rfl) rfl ?_
  refine rc_bipush mq106 (mvDec_of cd106 rfl) (by decide) ?_
  refine rc_newaZ (t := 0) (len := 16) hZ mq106 (mvDec_of cd106 rfl) (by decide +kernel) rfl (Or.inl ⟨rfl, rfl⟩) (fun hZ => ?_)
  refine rc_putRZ hZ (by decide) mq106 (mvDec_of cd106 rfl) fl_9_18 (misN (by decide) (by decide) (by decide) mis63) (fun _ => ⟨rfl, rfl⟩) ⟨rfl, by decide⟩ (fun hZ => ?_)
  refine rc_aload_n mq106 (mvDec_of cd106 rfl) rfl ?_
  refine rc_iconst mq106 (mvDec_of cd106 rfl) (by decide) ?_
  refine rc_newaZ (t := 0) (len := 4) hZ mq106 (mvDec_of cd106 rfl) (by decide +kernel) rfl (Or.inl ⟨rfl, rfl⟩) (fun hZ => ?_)
  refine rc_putRZ hZ (by decide) mq106 (mvDec_of cd106 rfl) fl_9_21 (misN (by decide) (by decide) (by decide) mis63) (fun _ => ⟨rfl, rfl⟩) ⟨rfl, by decide⟩ (fun hZ => ?_)
  refine rc_vret mq106 (mvDec_of cd106 rfl) ?_
  show Rch 178 111 [some (mvR 3)] [mvR 63, mvR 3] _ _
  refine rc_putRZ hZ (by decide) mq178 (mvDec_of cd178 rfl) fl_0_71 (misN (by decide) (by decide) (by decide) mis3) (fun _ => ⟨rfl, rfl⟩) ⟨rfl, by decide⟩ (fun hZ => ?_)
  refine rc_vret mq178 (mvDec_of cd178 rfl) ?_
  show Rch 255 7 [some (mvR 2), none, none, none] [mvR 3] _ _
  refine rc_astore_n [some (mvR 2), some (mvR 3), none, none] mq255 (mvDec_of cd255 rfl) rfl ?_
  refine rc_newZ (cf := 10) hZ mq255 (mvDec_of cd255 rfl) (by decide +kernel) (by decide +kernel) (fun hZ => ?_)
  refine rc_dup mq255 (mvDec_of cd255 rfl) rfl ?_
  refine rc_callI [mvR 68] [mvR 68] [some (mvR 68)] mq255 (mvDec_of cd255 rfl) lk_11_12 mq110 (by decide) rfl rfl (Nat.le_of_ble_eq_true rfl) (Nat.le_of_ble_eq_true rfl) (by decide) rfl (misN (by decide) (by decide) (by decide) mis68) rfl ?_
  refine rc_aload_n mq110 (mvDec_of cd110 rfl) rfl ?_
  refine rc_obj mq110 (mvDec_of cd110 rfl) lk_10_1 ⟨by decide, Nat.le_of_ble_eq_true rfl⟩ ?_
  refine rc_aload_n mq110 (mvDec_of cd110 rfl) rfl ?_
  refine rc_iconst mq110 (mvDec_of cd110 rfl) (by decide) ?_
  refine rc_newaZ (t := 0) (len := 4) hZ mq110 (mvDec_of cd110 rfl) (by decide +kernel) rfl (Or.inl ⟨rfl, rfl⟩) (fun hZ => ?_)
  refine rc_putRZ hZ (by decide) mq110 (mvDec_of cd110 rfl) fl_10_7 (misN (by decide) (by decide) (by decide) mis68) (fun _ => ⟨rfl, rfl⟩) ⟨rfl, by decide⟩ (fun hZ => ?_)
  refine rc_aload_n mq110 (mvDec_of cd110 rfl) rfl ?_
  refine rc_bipush mq110 (mvDec_of cd110 rfl) (by decide) ?_
  refine rc_newaZ (t := 0) (len := 36) hZ mq110 (mvDec_of cd110 rfl) (by decide +kernel) rfl (Or.inl ⟨rfl, rfl⟩) (fun hZ => ?_)
  refine rc_putRZ hZ (by decide) mq110 (mvDec_of cd110 rfl) fl_10_13 (misN (by decide) (by decide) (by decide) mis68) (fun _ => ⟨rfl, rfl⟩) ⟨rfl, by decide⟩ (fun hZ => ?_)
  refine rc_aload_n mq110 (mvDec_of cd110 rfl) rfl ?_
  refine rc_bipush mq110 (mvDec_of cd110 rfl) (by decide) ?_
  refine rc_newaZ (t := 0) (len := 36) hZ mq110 (mvDec_of cd110 rfl) (by decide +kernel) rfl (Or.inl ⟨rfl, rfl⟩) (fun hZ => ?_)
  refine rc_putRZ hZ (by decide) mq110 (mvDec_of cd110 rfl) fl_10_16 (misN (by decide) (by decide) (by decide) mis68) (fun _ => ⟨rfl, rfl⟩) ⟨rfl, by decide⟩ (fun hZ => ?_)
  refine rc_aload_n mq110 (mvDec_of cd110 rfl) rfl ?_
  refine rc_bipush mq110 (mvDec_of cd110 rfl) (by decide) ?_
  refine rc_newaZ (t := 0) (len := 36) hZ mq110 (mvDec_of cd110 rfl) (by decide +kernel) rfl (Or.inl ⟨rfl, rfl⟩) (fun hZ => ?_)
  refine rc_putRZ hZ (by decide) mq110 (mvDec_of cd110 rfl) fl_10_19 (misN (by decide) (by decide) (by decide) mis68) (fun _ => ⟨rfl, rfl⟩) ⟨rfl, by decide⟩ (fun hZ => ?_)
  refine rc_aload_n mq110 (mvDec_of cd110 rfl) rfl ?_
  refine rc_sipush mq110 (mvDec_of cd110 rfl) (by decide) ?_
  refine rc_newaZ (t := 0) (len := 144) hZ mq110 (mvDec_of cd110 rfl) (by decide +kernel) rfl (Or.inl ⟨rfl, rfl⟩) (fun hZ => ?_)
  refine rc_putRZ hZ (by decide) mq110 (mvDec_of cd110 rfl) fl_10_22 (misN (by decide) (by decide) (by decide) mis68) (fun _ => ⟨rfl, rfl⟩) ⟨rfl, by decide⟩ (fun hZ => ?_)
  refine rc_aload_n mq110 (mvDec_of cd110 rfl) rfl ?_
  refine rc_iconst mq110 (mvDec_of cd110 rfl) (by decide) ?_
  refine rc_newaZ (t := 0) (len := 4) hZ mq110 (mvDec_of cd110 rfl) (by decide +kernel) rfl (Or.inl ⟨rfl, rfl⟩) (fun hZ => ?_)
  refine rc_putRZ hZ (by decide) mq110 (mvDec_of cd110 rfl) fl_10_25 (misN (by decide) (by decide) (by decide) mis68) (fun _ => ⟨rfl, rfl⟩) ⟨rfl, by decide⟩ (fun hZ => ?_)
  refine rc_aload_n mq110 (mvDec_of cd110 rfl) rfl ?_
  refine rc_bipush mq110 (mvDec_of cd110 rfl) (by decide) ?_
  refine rc_newaZ (t := 0) (len := 16) hZ mq110 (mvDec_of cd110 rfl) (by decide +kernel) rfl (Or.inl ⟨rfl, rfl⟩) (fun hZ => ?_)
  refine rc_putRZ hZ (by decide) mq110 (mvDec_of cd110 rfl) fl_10_28 (misN (by decide) (by decide) (by decide) mis68) (fun _ => ⟨rfl, rfl⟩) ⟨rfl, by decide⟩ (fun hZ => ?_)
  refine rc_aload_n mq110 (mvDec_of cd110 rfl) rfl ?_
  refine rc_bipush mq110 (mvDec_of cd110 rfl) (by decide) ?_
  refine rc_newaZ (t := 0) (len := 36) hZ mq110 (mvDec_of cd110 rfl) (by decide +kernel) rfl (Or.inl ⟨rfl, rfl⟩) (fun hZ => ?_)
  refine rc_putRZ hZ (by decide) mq110 (mvDec_of cd110 rfl) fl_10_31 (misN (by decide) (by decide) (by decide) mis68) (fun _ => ⟨rfl, rfl⟩) ⟨rfl, by decide⟩ (fun hZ => ?_)
  refine rc_aload_n mq110 (mvDec_of cd110 rfl) rfl ?_
  refine rc_iconst mq110 (mvDec_of cd110 rfl) (by decide) ?_
  refine rc_newaZ (t := 0) (len := 4) hZ mq110 (mvDec_of cd110 rfl) (by decide +kernel) rfl (Or.inl ⟨rfl, rfl⟩) (fun hZ => ?_)
  refine rc_putRZ hZ (by decide) mq110 (mvDec_of cd110 rfl) fl_10_34 (misN (by decide) (by decide) (by decide) mis68) (fun _ => ⟨rfl, rfl⟩) ⟨rfl, by decide⟩ (fun hZ => ?_)
  refine rc_aload_n mq110 (mvDec_of cd110 rfl) rfl ?_
  refine rc_bipush mq110 (mvDec_of cd110 rfl) (by decide) ?_
  refine rc_newaZ (t := 0) (len := 36) hZ mq110 (mvDec_of cd110 rfl) (by decide +kernel) rfl (Or.inl ⟨rfl, rfl⟩) (fun hZ => ?_)
  refine rc_putRZ hZ (by decide) mq110 (mvDec_of cd110 rfl) fl_10_37 (misN (by decide) (by decide) (by decide) mis68) (fun _ => ⟨rfl, rfl⟩) ⟨rfl, by decide⟩ (fun hZ => ?_)
  refine rc_aload_n mq110 (mvDec_of cd110 rfl) rfl ?_
  refine rc_bipush mq110 (mvDec_of cd110 rfl) (by decide) ?_
  refine rc_newaZ (t := 0) (len := 36) hZ mq110 (mvDec_of cd110 rfl) (by decide +kernel) rfl (Or.inl ⟨rfl, rfl⟩) (fun hZ => ?_)
  refine rc_putRZ hZ (by decide) mq110 (mvDec_of cd110 rfl) fl_10_40 (misN (by decide) (by decide) (by decide) mis68) (fun _ => ⟨rfl, rfl⟩) ⟨rfl, by decide⟩ (fun hZ => ?_)
  refine rc_aload_n mq110 (mvDec_of cd110 rfl) rfl ?_
  refine rc_iconst mq110 (mvDec_of cd110 rfl) (by decide) ?_
  refine rc_newaZ (t := 0) (len := 4) hZ mq110 (mvDec_of cd110 rfl) (by decide +kernel) rfl (Or.inl ⟨rfl, rfl⟩) (fun hZ => ?_)
  refine rc_putRZ hZ (by decide) mq110 (mvDec_of cd110 rfl) fl_10_43 (misN (by decide) (by decide) (by decide) mis68) (fun _ => ⟨rfl, rfl⟩) ⟨rfl, by decide⟩ (fun hZ => ?_)
  refine rc_aload_n mq110 (mvDec_of cd110 rfl) rfl ?_
  refine rc_iconst mq110 (mvDec_of cd110 rfl) (by decide) ?_
  refine rc_newaZ (t := 0) (len := 4) hZ mq110 (mvDec_of cd110 rfl) (by decide +kernel) rfl (Or.inl ⟨rfl, rfl⟩) (fun hZ => ?_)
  refine rc_putRZ hZ (by decide) mq110 (mvDec_of cd110 rfl) fl_10_46 (misN (by decide) (by decide) (by decide) mis68) (fun _ => ⟨rfl, rfl⟩) ⟨rfl, by decide⟩ (fun hZ => ?_)
  refine rc_aload_n mq110 (mvDec_of cd110 rfl) rfl ?_
  refine rc_sipush mq110 (mvDec_of cd110 rfl) (by decide) ?_
  refine rc_newaZ (t := 1) (len := 640) hZ mq110 (mvDec_of cd110 rfl) (by decide +kernel) rfl (Or.inr ⟨rfl, rfl⟩) (fun hZ => ?_)
  refine rc_putRZ hZ (by decide) mq110 (mvDec_of cd110 rfl) fl_10_49 (misN (by decide) (by decide) (by decide) mis68) (fun _ => ⟨rfl, rfl⟩) ⟨rfl, by decide⟩ (fun hZ => ?_)
  refine rc_aload_n mq110 (mvDec_of cd110 rfl) rfl ?_
  refine rc_sipush mq110 (mvDec_of cd110 rfl) (by decide) ?_
  refine rc_newaZ (t := 1) (len := 640) hZ mq110 (mvDec_of cd110 rfl) (by decide +kernel) rfl (Or.inr ⟨rfl, rfl⟩) (fun hZ => ?_)
  refine rc_putRZ hZ (by decide) mq110 (mvDec_of cd110 rfl) fl_10_53 (misN (by decide) (by decide) (by decide) mis68) (fun _ => ⟨rfl, rfl⟩) ⟨rfl, by decide⟩ (fun hZ => ?_)
  refine rc_aload_n mq110 (mvDec_of cd110 rfl) rfl ?_
  refine rc_sipush mq110 (mvDec_of cd110 rfl) (by decide) ?_
  refine rc_newaZ (t := 0) (len := 640) hZ mq110 (mvDec_of cd110 rfl) (by decide +kernel) rfl (Or.inl ⟨rfl, rfl⟩) (fun hZ => ?_)
  refine rc_putRZ hZ (by decide) mq110 (mvDec_of cd110 rfl) fl_10_56 (misN (by decide) (by decide) (by decide) mis68) (fun _ => ⟨rfl, rfl⟩) ⟨rfl, by decide⟩ (fun hZ => ?_)
  refine rc_aload_n mq110 (mvDec_of cd110 rfl) rfl ?_
  refine rc_sipush mq110 (mvDec_of cd110 rfl) (by decide) ?_
  refine rc_newaZ (t := 0) (len := 640) hZ mq110 (mvDec_of cd110 rfl) (by decide +kernel) rfl (Or.inl ⟨rfl, rfl⟩) (fun hZ => ?_)
  refine rc_putRZ hZ (by decide) mq110 (mvDec_of cd110 rfl) fl_10_59 (misN (by decide) (by decide) (by decide) mis68) (fun _ => ⟨rfl, rfl⟩) ⟨rfl, by decide⟩ (fun hZ => ?_)
  refine rc_aload_n mq110 (mvDec_of cd110 rfl) rfl ?_
  refine rc_sipush mq110 (mvDec_of cd110 rfl) (by decide) ?_
  refine rc_newaZ (t := 1) (len := 640) hZ mq110 (mvDec_of cd110 rfl) (by decide +kernel) rfl (Or.inr ⟨rfl, rfl⟩) (fun hZ => ?_)
  refine rc_putRZ hZ (by decide) mq110 (mvDec_of cd110 rfl) fl_10_62 (misN (by decide) (by decide) (by decide) mis68) (fun _ => ⟨rfl, rfl⟩) ⟨rfl, by decide⟩ (fun hZ => ?_)
  refine rc_aload_n mq110 (mvDec_of cd110 rfl) rfl ?_
  refine rc_sipush mq110 (mvDec_of cd110 rfl) (by decide) ?_
  refine rc_newaZ (t := 0) (len := 640) hZ mq110 (mvDec_of cd110 rfl) (by decide +kernel) rfl (Or.inl ⟨rfl, rfl⟩) (fun hZ => ?_)
  refine rc_putRZ hZ (by decide) mq110 (mvDec_of cd110 rfl) fl_10_65 (misN (by decide) (by decide) (by decide) mis68) (fun _ => ⟨rfl, rfl⟩) ⟨rfl, by decide⟩ (fun hZ => ?_)
  refine rc_aload_n mq110 (mvDec_of cd110 rfl) rfl ?_
  refine rc_iconst mq110 (mvDec_of cd110 rfl) (by decide) ?_
  refine rc_newaZ (t := 0) (len := 4) hZ mq110 (mvDec_of cd110 rfl) (by decide +kernel) rfl (Or.inl ⟨rfl, rfl⟩) (fun hZ => ?_)
  refine rc_putRZ hZ (by decide) mq110 (mvDec_of cd110 rfl) fl_10_68 (misN (by decide) (by decide) (by decide) mis68) (fun _ => ⟨rfl, rfl⟩) ⟨rfl, by decide⟩ (fun hZ => ?_)
  refine rc_aload_n mq110 (mvDec_of cd110 rfl) rfl ?_
  refine rc_iconst mq110 (mvDec_of cd110 rfl) (by decide) ?_
  refine rc_newaZ (t := 0) (len := 4) hZ mq110 (mvDec_of cd110 rfl) (by decide +kernel) rfl (Or.inl ⟨rfl, rfl⟩) (fun hZ => ?_)
  refine rc_putRZ hZ (by decide) mq110 (mvDec_of cd110 rfl) fl_10_71 (misN (by decide) (by decide) (by decide) mis68) (fun _ => ⟨rfl, rfl⟩) ⟨rfl, by decide⟩ (fun hZ => ?_)
  refine rc_aload_n mq110 (mvDec_of cd110 rfl) rfl ?_
  refine rc_iconst mq110 (mvDec_of cd110 rfl) (by decide) ?_
  refine rc_newaZ (t := 0) (len := 4) hZ mq110 (mvDec_of cd110 rfl) (by decide +kernel) rfl (Or.inl ⟨rfl, rfl⟩) (fun hZ => ?_)
  refine rc_putRZ hZ (by decide) mq110 (mvDec_of cd110 rfl) fl_10_74 (misN (by decide) (by decide) (by decide) mis68) (fun _ => ⟨rfl, rfl⟩) ⟨rfl, by decide⟩ (fun hZ => ?_)
  refine rc_aload_n mq110 (mvDec_of cd110 rfl) rfl ?_
  refine rc_iconst mq110 (mvDec_of cd110 rfl) (by decide) ?_
  refine rc_newaZ (t := 0) (len := 4) hZ mq110 (mvDec_of cd110 rfl) (by decide +kernel) rfl (Or.inl ⟨rfl, rfl⟩) (fun hZ => ?_)
  refine rc_putRZ hZ (by decide) mq110 (mvDec_of cd110 rfl) fl_10_77 (misN (by decide) (by decide) (by decide) mis68) (fun _ => ⟨rfl, rfl⟩) ⟨rfl, by decide⟩ (fun hZ => ?_)
  refine rc_aload_n mq110 (mvDec_of cd110 rfl) rfl ?_
  refine rc_bipush mq110 (mvDec_of cd110 rfl) (by decide) ?_
  refine rc_newaZ (t := 0) (len := 36) hZ mq110 (mvDec_of cd110 rfl) (by decide +kernel) rfl (Or.inl ⟨rfl, rfl⟩) (fun hZ => ?_)
  refine rc_putRZ hZ (by decide) mq110 (mvDec_of cd110 rfl) fl_10_80 (misN (by decide) (by decide) (by decide) mis68) (fun _ => ⟨rfl, rfl⟩) ⟨rfl, by decide⟩ (fun hZ => ?_)
  refine rc_aload_n mq110 (mvDec_of cd110 rfl) rfl ?_
  refine rc_bipush mq110 (mvDec_of cd110 rfl) (by decide) ?_
  refine rc_newaZ (t := 0) (len := 36) hZ mq110 (mvDec_of cd110 rfl) (by decide +kernel) rfl (Or.inl ⟨rfl, rfl⟩) (fun hZ => ?_)
  refine rc_putRZ hZ (by decide) mq110 (mvDec_of cd110 rfl) fl_10_83 (misN (by decide) (by decide) (by decide) mis68) (fun _ => ⟨rfl, rfl⟩) ⟨rfl, by decide⟩ (fun hZ => ?_)
  refine rc_aload_n mq110 (mvDec_of cd110 rfl) rfl ?_
  refine rc_bipush mq110 (mvDec_of cd110 rfl) (by decide) ?_
  refine rc_newaZ (t := 1) (len := 36) hZ mq110 (mvDec_of cd110 rfl) (by decide +kernel) rfl (Or.inr ⟨rfl, rfl⟩) (fun hZ => ?_)
  refine rc_putRZ hZ (by decide) mq110 (mvDec_of cd110 rfl) fl_10_86 (misN (by decide) (by decide) (by decide) mis68) (fun _ => ⟨rfl, rfl⟩) ⟨rfl, by decide⟩ (fun hZ => ?_)
  refine rc_aload_n mq110 (mvDec_of cd110 rfl) rfl ?_
  refine rc_iconst mq110 (mvDec_of cd110 rfl) (by decide) ?_
  refine rc_newaZ (t := 0) (len := 4) hZ mq110 (mvDec_of cd110 rfl) (by decide +kernel) rfl (Or.inl ⟨rfl, rfl⟩) (fun hZ => ?_)
  refine rc_putRZ hZ (by decide) mq110 (mvDec_of cd110 rfl) fl_10_89 (misN (by decide) (by decide) (by decide) mis68) (fun _ => ⟨rfl, rfl⟩) ⟨rfl, by decide⟩ (fun hZ => ?_)
  refine rc_aload_n mq110 (mvDec_of cd110 rfl) rfl ?_
  refine rc_bipush mq110 (mvDec_of cd110 rfl) (by decide) ?_
  refine rc_newaZ (t := 0) (len := 16) hZ mq110 (mvDec_of cd110 rfl) (by decide +kernel) rfl (Or.inl ⟨rfl, rfl⟩) (fun hZ => ?_)
  refine rc_putRZ hZ (by decide) mq110 (mvDec_of cd110 rfl) fl_10_92 (misN (by decide) (by decide) (by decide) mis68) (fun _ => ⟨rfl, rfl⟩) ⟨rfl, by decide⟩ (fun hZ => ?_)
  refine rc_vret mq110 (mvDec_of cd110 rfl) ?_
  show Rch 255 15 [some (mvR 2), some (mvR 3), none, none] [mvR 68] _ _
  refine rc_astore_n [some (mvR 2), some (mvR 3), some (mvR 68), none] mq255 (mvDec_of cd255 rfl) rfl ?_
  refine rc_iconst mq255 (mvDec_of cd255 rfl) (by decide) ?_
  refine rc_istore_n [some (mvR 2), some (mvR 3), some (mvR 68), some (mvI 0)] mq255 (mvDec_of cd255 rfl) rfl ?_
  exact H
