/-! the mini machine: ints and longs as whole numbers, cells by number, one step a row -/
abbrev mvV : Type := Int ⊕ (Int ⊕ Nat)
abbrev mvI (x : Int) : mvV := Sum.inl x
abbrev mvJ (x : Int) : mvV := Sum.inr (Sum.inl x)
abbrev mvR (a : Nat) : mvV := Sum.inr (Sum.inr a)
abbrev mvS : Type := Nat × (Nat → Nat → Nat) × (Nat → Int → Int)
abbrev mvL : Type := List (Option mvV)
def mw (x : Int) : Int := x.bmod 4294967296
def mwl (x : Int) : Int := x.bmod 18446744073709551616
def mvAnd (x y : Int) : Int := (Int32.ofInt x &&& Int32.ofInt y).toInt
def mvOr (x y : Int) : Int := (Int32.ofInt x ||| Int32.ofInt y).toInt
def mvShl (x y : Int) : Int := (Int32.ofInt x <<< (Int32.ofInt y &&& 31)).toInt
def mvShr (x y : Int) : Int := (Int32.ofInt x >>> (Int32.ofInt y &&& 31)).toInt
def mvUshr (x y : Int) : Int := ((Int32.ofInt x).toUInt32 >>> ((Int32.ofInt y).toUInt32 &&& Int32.toUInt32 31)).toInt32.toInt
def mvLcmp (x y : Int) : Int := (lg_cmp (Int64.ofInt x) (Int64.ofInt y)).toInt
def mvUpd (h : Nat → Int → Int) (a : Nat) (i v : Int) : Nat → Int → Int := fun a' i' => if a' = a ∧ i' = i then v else h a' i'
def mvUpg (g : Nat → Nat → Nat) (a f b : Nat) : Nat → Nat → Nat := fun a' f' => if a' = a ∧ f' = f then b else g a' f'
def mvNew (σ : mvS) : mvS := (σ.1 + 1, fun a f => if a = σ.1 then 0 else σ.2.1 a f, fun a i => if a = σ.1 then 0 else σ.2.2 a i)
def mvFt (c f : Nat) : Nat := ((mvFTl[c]?).bind (fun l => l[f]?)).getD 9
def mvFf (c f : Nat) : Bool := ((mvFin[c]?).bind (fun l => l[f]?)).getD true
def mvIs (n a : Nat) : Nat × Nat × Nat := if 3 ≤ a ∧ a < n then mvSH a else (2, 0, 0)
def mvArr (σ : mvS) (a : Nat) : Nat × Nat × Int := if a = 1 then (1, 0, 4) else if a = 2 then (1, 0, σ.2.2 2 (-1)) else ((mvIs σ.1 a).1, (mvIs σ.1 a).2.1, ((mvIs σ.1 a).2.2 : Int))
def mvCat (v : mvV) : Nat := match v with
  | .inr (.inl _) => 2
  | _ => 1
def mvCats (S : List mvV) : Nat := (S.map mvCat).sum
def mvGet (L : mvL) (i : Nat) : Option mvV := match L[i]? with
  | some (some v) => some v
  | _ => none
def mvIsJ (o : Option mvV) : Bool := match o with
  | some (.inr (.inl _)) => true
  | _ => false
/-- the place ahead holds no long -/
def mvPre (L : mvL) (i : Nat) : Bool := match i with
  | 0 => true
  | k + 1 => !mvIsJ (mvGet L k)
def mvSt (L : mvL) (i : Nat) (v : mvV) : Option mvL := if i < L.length ∧ mvPre L i = true then some (L.set i (some v)) else none
def mvSt2 (L : mvL) (i : Nat) (v : mvV) : Option mvL := if i + 1 < L.length ∧ mvPre L i = true then some ((L.set i (some v)).set (i + 1) none) else none
def mvTgt (pc : Nat) (off : Int) : Option Nat := match (pc : Int) + off with
  | .ofNat t => some t
  | .negSucc _ => none
def mvCmp (c : ClassFile.Cond) (x y : Int) : Prop := match c with
  | .eq => x = y
  | .ne => ¬ x = y
  | .lt => x < y
  | .ge => y ≤ x
  | .gt => y < x
  | .le => x ≤ y
def mvCmpB (c : ClassFile.Cond) (x y : Int) : Bool := match c with
  | .eq => decide (x = y)
  | .ne => decide (¬ x = y)
  | .lt => decide (x < y)
  | .ge => decide (y ≤ x)
  | .gt => decide (y < x)
  | .le => decide (x ≤ y)
def mvGo (t : Option Nat) (L : mvL) (S : List mvV) (σ : mvS) : Option (Nat × mvL × List mvV × mvS) := match t with
  | some t => some (t, L, S, σ)
  | none => none
def mvLdI (o : Option mvV) (pc : Nat) (L : mvL) (S : List mvV) (σ : mvS) : Option (Nat × mvL × List mvV × mvS) := match o with
  | some (.inl x) => some (pc, L, mvI x :: S, σ)
  | _ => none
def mvLdJ (o : Option mvV) (pc : Nat) (L : mvL) (S : List mvV) (σ : mvS) : Option (Nat × mvL × List mvV × mvS) := match o with
  | some (.inr (.inl x)) => some (pc, L, mvJ x :: S, σ)
  | _ => none
def mvLdR (o : Option mvV) (pc : Nat) (L : mvL) (S : List mvV) (σ : mvS) : Option (Nat × mvL × List mvV × mvS) := match o with
  | some (.inr (.inr x)) => some (pc, L, mvR x :: S, σ)
  | _ => none
def mvToL (o : Option mvL) (pc : Nat) (S : List mvV) (σ : mvS) : Option (Nat × mvL × List mvV × mvS) := match o with
  | some L => some (pc, L, S, σ)
  | none => none
/-- one instruction that is no call and no return; own: the class, ini: in a constructor, rk: the rank -/
def mvStep (own : Nat) (ini : Bool) (rk pc : Nat) (ins : Instr) (len : Nat) (L : mvL) (S : List mvV) (σ : mvS) : Option (Nat × mvL × List mvV × mvS) :=
  match ins, len with
  | .aload_n k, 1 => mvLdR (mvGet L k) (pc + 1) L S σ
  | .aload k, 2 => mvLdR (mvGet L k) (pc + 2) L S σ
  | .iload_n k, 1 => mvLdI (mvGet L k) (pc + 1) L S σ
  | .iload k, 2 => mvLdI (mvGet L k) (pc + 2) L S σ
  | .lload_n k, 1 => mvLdJ (mvGet L k) (pc + 1) L S σ
  | .istore_n k, 1 => match S with
    | .inl x :: S => mvToL (mvSt L k (mvI x)) (pc + 1) S σ
    | _ => none
  | .istore k, 2 => match S with
    | .inl x :: S => mvToL (mvSt L k (mvI x)) (pc + 2) S σ
    | _ => none
  | .astore_n k, 1 => match S with
    | .inr (.inr x) :: S => mvToL (mvSt L k (mvR x)) (pc + 1) S σ
    | _ => none
  | .lstore_n k, 1 => match S with
    | .inr (.inl x) :: S => mvToL (mvSt2 L k (mvJ x)) (pc + 1) S σ
    | _ => none
  | .iconst n, 1 => if -1 ≤ n ∧ n ≤ 5 then some (pc + 1, L, mvI n :: S, σ) else none
  | .bipush n, 2 => if -128 ≤ n ∧ n ≤ 127 then some (pc + 2, L, mvI n :: S, σ) else none
  | .sipush n, 3 => if -32768 ≤ n ∧ n ≤ 32767 then some (pc + 3, L, mvI n :: S, σ) else none
  | .lconst n, 1 => some (pc + 1, L, mvJ ((n : Nat) : Int) :: S, σ)
  | .ldc_w ix, 3 => match mvIl.lookup (own, ix) with
    | some x => some (pc + 3, L, mvI x :: S, σ)
    | none => none
  | .ldc2_w ix, 3 => match mvJl.lookup (own, ix) with
    | some x => some (pc + 3, L, mvJ x :: S, σ)
    | none => none
  | .iinc i n, 3 => match mvGet L i with
    | some (.inl x) => mvToL (mvSt L i (mvI (mw (x + n)))) (pc + 3) S σ
    | _ => none
  | .iadd, 1 => match S with
    | .inl y :: .inl x :: S => some (pc + 1, L, mvI (mw (x + y)) :: S, σ)
    | _ => none
  | .isub, 1 => match S with
    | .inl y :: .inl x :: S => some (pc + 1, L, mvI (mw (x - y)) :: S, σ)
    | _ => none
  | .imul, 1 => match S with
    | .inl y :: .inl x :: S => some (pc + 1, L, mvI (mw (x * y)) :: S, σ)
    | _ => none
  | .idiv, 1 => match S with
    | .inl y :: .inl x :: S => if y = 0 then none else some (pc + 1, L, mvI (mw (x.tdiv y)) :: S, σ)
    | _ => none
  | .irem, 1 => match S with
    | .inl y :: .inl x :: S => if y = 0 then none else some (pc + 1, L, mvI (x.tmod y) :: S, σ)
    | _ => none
  | .iand, 1 => match S with
    | .inl y :: .inl x :: S => some (pc + 1, L, mvI (mvAnd x y) :: S, σ)
    | _ => none
  | .ior, 1 => match S with
    | .inl y :: .inl x :: S => some (pc + 1, L, mvI (mvOr x y) :: S, σ)
    | _ => none
  | .ishl, 1 => match S with
    | .inl y :: .inl x :: S => some (pc + 1, L, mvI (mvShl x y) :: S, σ)
    | _ => none
  | .ishr, 1 => match S with
    | .inl y :: .inl x :: S => some (pc + 1, L, mvI (mvShr x y) :: S, σ)
    | _ => none
  | .iushr, 1 => match S with
    | .inl y :: .inl x :: S => some (pc + 1, L, mvI (mvUshr x y) :: S, σ)
    | _ => none
  | .ladd, 1 => match S with
    | .inr (.inl y) :: .inr (.inl x) :: S => some (pc + 1, L, mvJ (mwl (x + y)) :: S, σ)
    | _ => none
  | .lmul, 1 => match S with
    | .inr (.inl y) :: .inr (.inl x) :: S => some (pc + 1, L, mvJ (mwl (x * y)) :: S, σ)
    | _ => none
  | .ldiv, 1 => match S with
    | .inr (.inl y) :: .inr (.inl x) :: S => if y = 0 then none else some (pc + 1, L, mvJ (mwl (x.tdiv y)) :: S, σ)
    | _ => none
  | .lrem, 1 => match S with
    | .inr (.inl y) :: .inr (.inl x) :: S => if y = 0 then none else some (pc + 1, L, mvJ (x.tmod y) :: S, σ)
    | _ => none
  | .lcmp, 1 => match S with
    | .inr (.inl y) :: .inr (.inl x) :: S => some (pc + 1, L, mvI (mvLcmp x y) :: S, σ)
    | _ => none
  | .i2l, 1 => match S with
    | .inl x :: S => some (pc + 1, L, mvJ x :: S, σ)
    | _ => none
  | .l2i, 1 => match S with
    | .inr (.inl x) :: S => some (pc + 1, L, mvI (mw x) :: S, σ)
    | _ => none
  | .dup, 1 => match S with
    | v :: S => if mvCat v = 1 then some (pc + 1, L, v :: v :: S, σ) else none
    | _ => none
  | .dup2, 1 => match S with
    | v :: u :: S => if mvCat v = 1 ∧ mvCat u = 1 then some (pc + 1, L, v :: u :: v :: u :: S, σ) else none
    | _ => none
  | .pop, 1 => match S with
    | v :: S => if mvCat v = 1 then some (pc + 1, L, S, σ) else none
    | _ => none
  | .goto off, 3 => mvGo (mvTgt pc off) L S σ
  | .if_icmp c off, 3 => match S with
    | .inl y :: .inl x :: S => match mvTgt pc off with
      | some t => some (if mvCmpB c x y = true then t else pc + 3, L, S, σ)
      | none => none
    | _ => none
  | .ifCond c off, 3 => match S with
    | .inl x :: S => match mvTgt pc off with
      | some t => some (if mvCmpB c x 0 = true then t else pc + 3, L, S, σ)
      | none => none
    | _ => none
  | .tableswitch d lo hi offs, _ => match S with
    | .inl x :: S => if x < lo ∨ hi < x then mvGo (mvTgt pc d) L S σ else match offs[(x - lo).toNat]? with
      | some off => mvGo (mvTgt pc off) L S σ
      | none => none
    | _ => none
  | .getfield ix, 3 => match S with
    | .inr (.inr a) :: S => match mvFl.lookup (own, ix) with
      | some (cf, f) => if mvIs σ.1 a = (0, cf, 0) then
          if mvFt cf f = 2 then (if σ.2.1 a f = 0 then none else some (pc + 3, L, mvR (σ.2.1 a f) :: S, σ))
          else if mvFt cf f = 1 then some (pc + 3, L, mvJ (σ.2.2 a (f : Int)) :: S, σ)
          else some (pc + 3, L, mvI (σ.2.2 a (f : Int)) :: S, σ)
        else none
      | none => none
    | _ => none
  | .putfield ix, 3 => match S with
    | v :: .inr (.inr a) :: S => match mvFl.lookup (own, ix) with
      | some (cf, f) => if mvIs σ.1 a = (0, cf, 0) ∧ (mvFf cf f = true → ini = true ∧ own = cf) then
          match v with
          | .inl x => if mvFt cf f = 0 ∨ mvFt cf f = 3 ∧ (x = 0 ∨ x = 1) then some (pc + 3, L, S, (σ.1, σ.2.1, mvUpd σ.2.2 a (f : Int) x)) else none
          | .inr (.inl x) => if mvFt cf f = 1 then some (pc + 3, L, S, (σ.1, σ.2.1, mvUpd σ.2.2 a (f : Int) x)) else none
          | .inr (.inr b) => if mvFt cf f = 2 ∧ ¬ b = 0 then some (pc + 3, L, S, (σ.1, mvUpg σ.2.1 a f b, σ.2.2)) else none
        else none
      | none => none
    | _ => none
  | .getstatic ix, 3 => if own = 2 ∧ ix = 91 then some (pc + 3, L, mvR 1 :: S, σ) else none
  | .iaload, 1 => match S with
    | .inl i :: .inr (.inr a) :: S => if (mvArr σ a).1 = 1 ∧ (mvArr σ a).2.1 = 0 ∧ 0 ≤ i ∧ i < (mvArr σ a).2.2 then some (pc + 1, L, mvI (σ.2.2 a i) :: S, σ) else none
    | _ => none
  | .baload, 1 => match S with
    | .inl i :: .inr (.inr a) :: S => if (mvArr σ a).1 = 1 ∧ (mvArr σ a).2.1 = 1 ∧ 0 ≤ i ∧ i < (mvArr σ a).2.2 then some (pc + 1, L, mvI (σ.2.2 a i) :: S, σ) else none
    | _ => none
  | .iastore, 1 => match S with
    | .inl x :: .inl i :: .inr (.inr a) :: S => if (mvIs σ.1 a).1 = 1 ∧ (mvIs σ.1 a).2.1 = 0 ∧ 0 ≤ i ∧ i < ((mvIs σ.1 a).2.2 : Int) then some (pc + 1, L, S, (σ.1, σ.2.1, mvUpd σ.2.2 a i x)) else none
    | _ => none
  | .bastore, 1 => match S with
    | .inl x :: .inl i :: .inr (.inr a) :: S => if (mvIs σ.1 a).1 = 1 ∧ (mvIs σ.1 a).2.1 = 1 ∧ (0 ≤ i ∧ i < ((mvIs σ.1 a).2.2 : Int)) ∧ (x = 0 ∨ x = 1) then some (pc + 1, L, S, (σ.1, σ.2.1, mvUpd σ.2.2 a i x)) else none
    | _ => none
  | .arraylength, 1 => match S with
    | .inr (.inr a) :: S => if (mvArr σ a).1 = 1 then some (pc + 1, L, mvI (mvArr σ a).2.2 :: S, σ) else none
    | _ => none
  | .newarray ty, 2 => match S with
    | .inl n :: S => if (mvSH σ.1).1 = 1 ∧ n = ((mvSH σ.1).2.2 : Int) ∧ (ty = .int ∧ (mvSH σ.1).2.1 = 0 ∨ ty = .boolean ∧ (mvSH σ.1).2.1 = 1) then some (pc + 2, L, mvR σ.1 :: S, mvNew σ) else none
    | _ => none
  | .new ix, 3 => match mvKl.lookup (own, ix) with
    | some cf => if mvSH σ.1 = (0, cf, 0) then some (pc + 3, L, mvR σ.1 :: S, mvNew σ) else none
    | none => none
  | .invokespecial ix, 3 => match S with
    | .inr (.inr _) :: S => match mvMl.lookup (own, ix) with
      | some (5, _) => if 1 ≤ rk ∧ mvCats S ≤ 8 then some (pc + 3, L, S, σ) else none
      | _ => none
    | _ => none
  | .invokestatic ix, 3 => match S with
    | .inl y :: .inl x :: S => match mvMl.lookup (own, ix) with
      | some (7, _) => if 1 ≤ rk ∧ mvCats S ≤ 8 then some (pc + 3, L, mvI (if x < y then y else x) :: S, σ) else none
      | some (8, _) => if 1 ≤ rk ∧ mvCats S ≤ 8 then some (pc + 3, L, mvI (if y < x then y else x) :: S, σ) else none
      | _ => none
    | _ => none
  | _, _ => none
def mvOwn (q : mvMt) : Nat := q.2.2.2.2.1
def mvRk (q : mvMt) : Nat := q.2.2.2.2.2.1
def mvKd (q : mvMt) : Nat := q.2.2.2.2.2.2.1
def mvNa (q : mvMt) : Nat := q.2.2.2.2.2.2.2
def mvFlat (as : List mvV) : mvL := as.flatMap fun v => if mvCat v = 2 then [some v, none] else [some v]
def mvEntry (n : Nat) (as : List mvV) : mvL := mvFlat as ++ List.replicate (n - (mvFlat as).length) none
/-- a call: the method, its arguments, what stays on the stack -/
def mvCallN (rk k : Nat) (j : Nat) (S : List mvV) : Option (Nat × List mvV × List mvV) := match mvMd[j]? with
  | some q => if mvRk q < rk ∧ k + mvNa q ≤ S.length ∧ mvCats (S.drop (k + mvNa q)) ≤ 8 ∧ (mvFlat (S.take (k + mvNa q)).reverse).length ≤ q.2.2.1 ∧ (if k = 1 then ¬ mvKd q = 1 else mvKd q = 1) then some (j, (S.take (k + mvNa q)).reverse, S.drop (k + mvNa q)) else none
  | none => none
def mvRecv (σ : mvS) (j : Nat) (as : List mvV) : Prop := match as with
  | .inr (.inr a) :: _ => mvIs σ.1 a = (0, ((mvMd[j]?).map mvOwn).getD 99, 0)
  | _ => False
def mvRecvB (σ : mvS) (j : Nat) (as : List mvV) : Bool := match as with
  | .inr (.inr a) :: _ => decide (mvIs σ.1 a = (0, ((mvMd[j]?).map mvOwn).getD 99, 0))
  | _ => false
def mvCall (own rk : Nat) (ins : Instr) (len : Nat) (S : List mvV) (σ : mvS) : Option (Nat × List mvV × List mvV) :=
  match ins, len with
  | .invokevirtual ix, 3 => match mvMl.lookup (own, ix) with
    | some (0, j) => match mvCallN rk 1 j S with
      | some (j, as, S') => if mvRecvB σ j as = true then some (j, as, S') else none
      | none => none
    | _ => none
  | .invokespecial ix, 3 => match mvMl.lookup (own, ix) with
    | some (2, j) => match mvCallN rk 1 j S with
      | some (j, as, S') => if mvRecvB σ j as = true then some (j, as, S') else none
      | none => none
    | some (6, j) => match mvCallN rk 1 j S with
      | some (j, as, S') => if mvRecvB σ j as = true then some (j, as, S') else none
      | none => none
    | _ => none
  | .invokestatic ix, 3 => match mvMl.lookup (own, ix) with
    | some (1, j) => mvCallN rk 0 j S
    | some (4, j) => mvCallN rk 0 j S
    | _ => none
  | _, _ => none
def mvRet (rt : Option FieldType) (ins : Instr) (len : Nat) (S : List mvV) : Option (Option mvV) :=
  match ins, len with
  | .ireturn, 1 => match S with
    | [.inl x] => if rt = some .int ∨ rt = some .boolean ∧ (x = 0 ∨ x = 1) then some (some (mvI x)) else none
    | _ => none
  | .lreturn, 1 => match S with
    | [.inr (.inl x)] => if rt = some .long then some (some (mvJ x)) else none
    | _ => none
  | .return_, 1 => match S with
    | [] => if rt = none then some none else none
    | _ => none
  | _, _ => none
def mvDec (j pc : Nat) : Option (Instr × Nat) := match mvCdl[j]? with
  | some cd => cd.lookup pc
  | none => none
def mvRun : Nat → Nat → Nat → mvL → List mvV → mvS → Option (Option mvV × mvS)
  | 0, _, _, _, _, _ => none
  | n + 1, j, pc, L, S, σ => match mvMd[j]?, mvDec j pc with
    | some q, some (ins, len) => match mvStep (mvOwn q) (mvKd q == 2) (mvRk q) pc ins len L S σ with
      | some (pc', L', S', σ') => mvRun n j pc' L' S' σ'
      | none => match mvCall (mvOwn q) (mvRk q) ins len S σ with
        | some (j', as, S') => match mvMd[j']? with
          | some q' => match mvRun n j' 0 (mvEntry q'.2.2.1 as) [] σ with
            | some (r, σ') => mvRun n j (pc + 3) L (r.toList ++ S') σ'
            | none => none
          | none => none
        | none => match mvRet q.2.2.2.1 ins len S with
          | some r => some (r, σ)
          | none => none
    | _, _ => none
