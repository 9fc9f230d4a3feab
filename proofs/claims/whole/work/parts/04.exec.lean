/-! ===== THE PLAIN MACHINE: numbers and pictures instead of cells; what it does is a function of its table P ===== -/
abbrev xV : Type := Int ⊕ (Int ⊕ Nat)
abbrev vi (z : Int) : xV := Sum.inl z
abbrev vl (z : Int) : xV := Sum.inr (Sum.inl z)
abbrev vr (a : Nat) : xV := Sum.inr (Sum.inr a)
abbrev xF : Type := Nat → Nat → Int
abbrev xR : Type := Nat → Nat → Nat
/-- what is at each address (kind, length), the next address, cells and slots made -/
abbrev xZ : Type := (Nat → Nat × Nat) × Nat × Nat × Nat
abbrev xM : Type := xF × xF × xR × xZ
def up1 {α : Type} (f : Nat → α) (a : Nat) (z : α) : Nat → α := fun b => if b = a then z else f b
def up2 {α : Type} (f : Nat → Nat → α) (a i : Nat) (z : α) : Nat → Nat → α := fun b j => if b = a ∧ j = i then z else f b j
def zr (f : xF) (n : Nat) : xF := fun b j => if b = n then 0 else f b j
def zrR (f : xR) (n : Nat) : xR := fun b j => if b = n then 0 else f b j
/-- n rows from a on -/
def zrs (f : xF) (a n : Nat) : xF := fun b j => if a ≤ b ∧ b < a + n then 0 else f b j
def zrsR (f : xR) (a n : Nat) : xR := fun b j => if a ≤ b ∧ b < a + n then 0 else f b j
def wr (x : Int) : Int := Int.bmod x 4294967296
def wl (x : Int) : Int := Int.bmod x 18446744073709551616
def xand (x y : Int) : Int := (Int32.ofInt x &&& Int32.ofInt y).toInt
def xor_ (x y : Int) : Int := (Int32.ofInt x ||| Int32.ofInt y).toInt
def xxor (x y : Int) : Int := (Int32.ofInt x ^^^ Int32.ofInt y).toInt
def xshl (x y : Int) : Int := (Int32.ofInt x <<< (Int32.ofInt y &&& 31)).toInt
def xshr (x y : Int) : Int := (Int32.ofInt x >>> (Int32.ofInt y &&& 31)).toInt
def xushr (x y : Int) : Int := ((Int32.ofInt x).toUInt32 >>> ((Int32.ofInt y).toUInt32 &&& Int32.toUInt32 31)).toInt32.toInt
def xland (x y : Int) : Int := (Int64.ofInt x &&& Int64.ofInt y).toInt
def xlor (x y : Int) : Int := (Int64.ofInt x ||| Int64.ofInt y).toInt
def xlshl (x y : Int) : Int := (Int64.ofInt x <<< ((Int32.ofInt y).toInt64 &&& 63)).toInt
def xi2c (x : Int) : Int := ((Int32.ofInt x).toUInt32 % 65536).toInt32.toInt
def xcmp (x y : Int) : Int := if x < y then -1 else if x = y then 0 else 1
/-- copied: n from sp of s to dp of t -/
def xcpy (V : xF) (s sp t dp n : Nat) : xF := fun b j => if b = t ∧ dp ≤ j ∧ j < dp + n then V s (sp + (j - dp)) else V b j
/-- a text's first place of a letter -/
def xixF (V : xF) (a : Nat) (c : Int) : Nat → Nat → Int
  | 0, _ => -1
  | n + 1, k => if V a k = c then (k : Int) else xixF V a c n (k + 1)
/-- a row of the table: its place, the instruction, its length, what it is linked to -/
abbrev xI : Type := Nat × Instr × Nat × Nat × Nat × Nat × Int
abbrev xRes : Type := Option xV ⊕ Nat
/-- goes on; calls; ends -/
abbrev xOut : Type := (Nat × List xV × List xV × xM) ⊕ ((Nat × List xV × List xV) ⊕ (xRes × xM))
/-- rows by methods, their locals, their ranks, what they catch -/
abbrev xP : Type := (Nat → List xI) × (Nat → Nat) × (Nat → Nat) × (Nat → List (Nat × Nat))
def xfind (pc : Nat) : List xI → Option xI
  | [] => none
  | e :: r => if Nat.beq e.1 pc = true then some e else xfind pc r
def xall : List Prop → Prop
  | [] => True
  | [p] => p
  | p :: q :: r => p ∧ xall (q :: r)
def xkill (ls : List xV) (i : Nat) : List xV := match i with
  | 0 => ls
  | j + 1 => match ls[j]? with
    | some (.inr (.inl _)) => ls.set j (vr 0)
    | _ => ls
def xset1 (ls : List xV) (i : Nat) (v : xV) : List xV := (xkill ls i).set i v
def xset2 (ls : List xV) (i : Nat) (v : xV) : List xV := ((xkill ls i).set i v).set (i + 1) (vr 0)
def xlay : List xV → List xV
  | [] => []
  | .inr (.inl z) :: r => vl z :: vr 0 :: xlay r
  | v :: r => v :: xlay r
def xlocs (n : Nat) (args : List xV) : List xV := xlay args ++ List.replicate (n - (xlay args).length) (vr 0)
def xcat (v : xV) : Nat := match v with
  | .inr (.inl _) => 2
  | _ => 1
def xcatch (t : List (Nat × Nat)) (E : Nat) : Option Nat := match t with
  | [] => none
  | q :: r => if Nat.beq q.1 E = true then some q.2 else xcatch r E
abbrev xNx : Type := Option (xOut × List Prop)
def nx (pc : Nat) (ls st : List xV) (M : xM) (g : List Prop) : xNx := some (.inl (pc, ls, st, M), g)
def xld (pc : Nat) (ls st : List xV) (M : xM) (i : Nat) : xNx := match ls[i]? with
  | some v => nx pc ls (v :: st) M []
  | none => none
def xldI (pc : Nat) (ls st : List xV) (M : xM) (i : Nat) : xNx := match ls[i]? with
  | some (.inl x) => nx pc ls (vi x :: st) M []
  | _ => none
def xldL (pc : Nat) (ls st : List xV) (M : xM) (i : Nat) : xNx := match ls[i]? with
  | some (.inr (.inl x)) => nx pc ls (vl x :: st) M []
  | _ => none
def xldA (pc : Nat) (ls st : List xV) (M : xM) (i : Nat) : xNx := match ls[i]? with
  | some (.inr (.inr a)) => nx pc ls (vr a :: st) M [a ≠ 0]
  | _ => none
def xstI (pc : Nat) (ls st : List xV) (M : xM) (i : Nat) : xNx := match st with
  | .inl x :: r => nx pc (xset1 ls i (vi x)) r M [i < ls.length]
  | _ => none
def xstL (pc : Nat) (ls st : List xV) (M : xM) (i : Nat) : xNx := match st with
  | .inr (.inl x) :: r => nx pc (xset2 ls i (vl x)) r M [i + 1 < ls.length]
  | _ => none
def xstA (pc : Nat) (ls st : List xV) (M : xM) (i : Nat) : xNx := match st with
  | .inr (.inr x) :: r => nx pc (xset1 ls i (vr x)) r M [i < ls.length]
  | _ => none
def xII (pc : Nat) (ls st : List xV) (M : xM) (f : Int → Int → Int) : xNx := match st with
  | .inl y :: .inl x :: r => nx pc ls (vi (f x y) :: r) M []
  | _ => none
def xLL (pc : Nat) (ls st : List xV) (M : xM) (f : Int → Int → Int) : xNx := match st with
  | .inr (.inl y) :: .inr (.inl x) :: r => nx pc ls (vl (f x y) :: r) M []
  | _ => none
def xbrc (pc tgt : Nat) (c : ClassFile.Cond) (x y : Int) : Nat := match c with
  | .eq => if x = y then tgt else pc
  | .ne => if x = y then pc else tgt
  | .lt => if x < y then tgt else pc
  | .ge => if x < y then pc else tgt
  | .gt => if y < x then tgt else pc
  | .le => if y < x then pc else tgt
def xsw (lo : Int) (tgts : List Nat) (dflt : Nat) (x : Int) : Nat := match x with
  | x => if x < lo then dflt else (tgts[(x - lo).toNat]?).getD dflt
/-- one instruction at (pc, ls, st, M): what comes next, and what must hold for it -/
def xstep (e : xI) (ls st : List xV) (M : xM) : xNx :=
  match e with
  | (pc, ins, len, a, b, c, z) =>
    match ins with
    | .iconst n => nx (pc + len) ls (vi n :: st) M []
    | .bipush n => nx (pc + len) ls (vi n :: st) M []
    | .sipush n => nx (pc + len) ls (vi n :: st) M []
    | .ldc _ => nx (pc + len) ls ((if Nat.beq a 0 = true then vi z else vr b) :: st) M []
    | .ldc_w _ => nx (pc + len) ls ((if Nat.beq a 0 = true then vi z else vr b) :: st) M []
    | .ldc2_w _ => nx (pc + len) ls (vl z :: st) M []
    | .lconst n => nx (pc + len) ls (vl ((n : Nat) : Int) :: st) M []
    | .iload i => xldI (pc + len) ls st M i
    | .iload_n i => xldI (pc + len) ls st M i
    | .lload i => xldL (pc + len) ls st M i
    | .lload_n i => xldL (pc + len) ls st M i
    | .aload i => xldA (pc + len) ls st M i
    | .aload_n i => xldA (pc + len) ls st M i
    | .istore i => xstI (pc + len) ls st M i
    | .istore_n i => xstI (pc + len) ls st M i
    | .lstore i => xstL (pc + len) ls st M i
    | .lstore_n i => xstL (pc + len) ls st M i
    | .astore i => xstA (pc + len) ls st M i
    | .astore_n i => xstA (pc + len) ls st M i
    | .iinc i n => match ls[i]? with
      | some (.inl x) => nx (pc + len) (ls.set i (vi (wr (x + n)))) st M []
      | _ => none
    | .iadd => xII (pc + len) ls st M (fun x y => wr (x + y))
    | .isub => xII (pc + len) ls st M (fun x y => wr (x - y))
    | .imul => xII (pc + len) ls st M (fun x y => wr (x * y))
    | .iand => xII (pc + len) ls st M xand
    | .ior => xII (pc + len) ls st M xor_
    | .ixor => xII (pc + len) ls st M xxor
    | .ishl => xII (pc + len) ls st M xshl
    | .ishr => xII (pc + len) ls st M xshr
    | .iushr => xII (pc + len) ls st M xushr
    | .idiv => match st with
      | .inl y :: .inl x :: r => nx (pc + len) ls (vi (wr (x.tdiv y)) :: r) M [y ≠ 0]
      | _ => none
    | .irem => match st with
      | .inl y :: .inl x :: r => nx (pc + len) ls (vi (x.tmod y) :: r) M [y ≠ 0]
      | _ => none
    | .ineg => match st with
      | .inl x :: r => nx (pc + len) ls (vi (wr (-x)) :: r) M []
      | _ => none
    | .ladd => xLL (pc + len) ls st M (fun x y => wl (x + y))
    | .lmul => xLL (pc + len) ls st M (fun x y => wl (x * y))
    | .land => xLL (pc + len) ls st M xland
    | .lor => xLL (pc + len) ls st M xlor
    | .ldiv => match st with
      | .inr (.inl y) :: .inr (.inl x) :: r => nx (pc + len) ls (vl (wl (x.tdiv y)) :: r) M [y ≠ 0]
      | _ => none
    | .lshl => match st with
      | .inl y :: .inr (.inl x) :: r => nx (pc + len) ls (vl (xlshl x y) :: r) M []
      | _ => none
    | .lcmp => match st with
      | .inr (.inl y) :: .inr (.inl x) :: r => nx (pc + len) ls (vi (xcmp x y) :: r) M []
      | _ => none
    | .i2l => match st with
      | .inl x :: r => nx (pc + len) ls (vl x :: r) M []
      | _ => none
    | .l2i => match st with
      | .inr (.inl x) :: r => nx (pc + len) ls (vi (wr x) :: r) M []
      | _ => none
    | .i2c => match st with
      | .inl x :: r => nx (pc + len) ls (vi (xi2c x) :: r) M []
      | _ => none
    | .pop => match st with
      | .inl _ :: r => nx (pc + len) ls r M []
      | .inr (.inr _) :: r => nx (pc + len) ls r M []
      | _ => none
    | .dup => match st with
      | .inl x :: r => nx (pc + len) ls (vi x :: vi x :: r) M []
      | .inr (.inr x) :: r => nx (pc + len) ls (vr x :: vr x :: r) M []
      | _ => none
    | .dup2 => match st with
      | .inl y :: .inr (.inr x) :: r => nx (pc + len) ls (vi y :: vr x :: vi y :: vr x :: r) M []
      | _ => none
    | .goto _ => nx a ls st M []
    | .ifCond q _ => match st with
      | .inl x :: r => nx (xbrc (pc + len) a q x 0) ls r M []
      | _ => none
    | .if_icmp q _ => match st with
      | .inl y :: .inl x :: r => nx (xbrc (pc + len) a q x y) ls r M []
      | _ => none
    | .tableswitch d lo _ offs => match st with
      | .inl x :: r => nx (xsw lo (offs.toList.map (fun o => ((pc : Int) + o).toNat)) ((pc : Int) + d).toNat x) ls r M []
      | _ => none
    | .getstatic _ => nx (pc + len) ls (vr b :: st) M []
    | .getfield _ => match st with
      | .inr (.inr r) :: t => match c with
        | 0 => nx (pc + len) ls (vi (M.1 r b) :: t) M [(M.2.2.2.1 r).1 = a]
        | 1 => nx (pc + len) ls (vl (M.2.1 r b) :: t) M [(M.2.2.2.1 r).1 = a]
        | _ => nx (pc + len) ls (vr (M.2.2.1 r b) :: t) M [(M.2.2.2.1 r).1 = a, M.2.2.1 r b ≠ 0]
      | _ => none
    | .putfield _ => match c, st with
      | 0, .inl x :: .inr (.inr r) :: t => nx (pc + len) ls t (up2 M.1 r b x, M.2) [(M.2.2.2.1 r).1 = a]
      | 1, .inr (.inl x) :: .inr (.inr r) :: t => nx (pc + len) ls t (M.1, up2 M.2.1 r b x, M.2.2) [(M.2.2.2.1 r).1 = a]
      | 2, .inr (.inr x) :: .inr (.inr r) :: t => nx (pc + len) ls t (M.1, M.2.1, up2 M.2.2.1 r b x, M.2.2.2) [(M.2.2.2.1 r).1 = a, x ≠ 0]
      | 3, .inl x :: .inr (.inr r) :: t => nx (pc + len) ls t (up2 M.1 r b x, M.2) [(M.2.2.2.1 r).1 = a, x = 0 ∨ x = 1]
      | _, _ => none
    | .iaload => match st with
      | .inl i :: .inr (.inr r) :: t => nx (pc + len) ls (vi (M.1 r i.toNat) :: t) M [20 ≤ (M.2.2.2.1 r).1 ∧ (M.2.2.2.1 r).1 ≤ 21, 0 ≤ i ∧ i < ((M.2.2.2.1 r).2 : Int)]
      | _ => none
    | .iastore => match st with
      | .inl x :: .inl i :: .inr (.inr r) :: t => nx (pc + len) ls t (up2 M.1 r i.toNat x, M.2) [(M.2.2.2.1 r).1 = 20, 0 ≤ i ∧ i < ((M.2.2.2.1 r).2 : Int)]
      | _ => none
    | .laload => match st with
      | .inl i :: .inr (.inr r) :: t => nx (pc + len) ls (vl (M.2.1 r i.toNat) :: t) M [(M.2.2.2.1 r).1 = 22, 0 ≤ i ∧ i < ((M.2.2.2.1 r).2 : Int)]
      | _ => none
    | .lastore => match st with
      | .inr (.inl x) :: .inl i :: .inr (.inr r) :: t => nx (pc + len) ls t (M.1, up2 M.2.1 r i.toNat x, M.2.2) [(M.2.2.2.1 r).1 = 22, 0 ≤ i ∧ i < ((M.2.2.2.1 r).2 : Int)]
      | _ => none
    | .baload => match st with
      | .inl i :: .inr (.inr r) :: t => nx (pc + len) ls (vi (M.1 r i.toNat) :: t) M [(M.2.2.2.1 r).1 = 23, 0 ≤ i ∧ i < ((M.2.2.2.1 r).2 : Int)]
      | _ => none
    | .bastore => match st with
      | .inl x :: .inl i :: .inr (.inr r) :: t => nx (pc + len) ls t (up2 M.1 r i.toNat x, M.2) [(M.2.2.2.1 r).1 = 23, 0 ≤ i ∧ i < ((M.2.2.2.1 r).2 : Int), x = 0 ∨ x = 1]
      | _ => none
    | .aaload => match st with
      | .inl i :: .inr (.inr r) :: t => nx (pc + len) ls (vr (M.2.2.1 r i.toNat) :: t) M [24 ≤ (M.2.2.2.1 r).1 ∧ (M.2.2.2.1 r).1 ≤ 25, 0 ≤ i ∧ i < ((M.2.2.2.1 r).2 : Int), M.2.2.1 r i.toNat ≠ 0]
      | _ => none
    | .aastore => match st with
      | .inr (.inr x) :: .inl i :: .inr (.inr r) :: t => nx (pc + len) ls t (M.1, M.2.1, up2 M.2.2.1 r i.toNat x, M.2.2.2) [(M.2.2.2.1 r).1 = 24, 0 ≤ i ∧ i < ((M.2.2.2.1 r).2 : Int), (M.2.2.2.1 x).1 = a]
      | _ => none
    | .arraylength => match st with
      | .inr (.inr r) :: t => nx (pc + len) ls (vi ((M.2.2.2.1 r).2 : Int) :: t) M [20 ≤ (M.2.2.2.1 r).1 ∧ (M.2.2.2.1 r).1 ≤ 25]
      | _ => none
    | .new _ => match c with
      | 0 => nx (pc + len) ls (vr M.2.2.2.2.1 :: st) (zr M.1 M.2.2.2.2.1, zr M.2.1 M.2.2.2.2.1, zrR M.2.2.1 M.2.2.2.2.1, up1 M.2.2.2.1 M.2.2.2.2.1 (a, 0), M.2.2.2.2.1 + 1, M.2.2.2.2.2.1 + 1, M.2.2.2.2.2.2 + b) []
      | _ => match st with
        | [] => some (.inr (.inr (.inr a, (M.1, M.2.1, M.2.2.1, M.2.2.2.1, M.2.2.2.2.1, M.2.2.2.2.2.1 + 1, M.2.2.2.2.2.2 + 6))), [])
        | _ => none
    | .newarray _ => match st with
      | .inl x :: t => nx (pc + len) ls (vr M.2.2.2.2.1 :: t) (zr M.1 M.2.2.2.2.1, zr M.2.1 M.2.2.2.2.1, zrR M.2.2.1 M.2.2.2.2.1, up1 M.2.2.2.1 M.2.2.2.2.1 (a, x.toNat), M.2.2.2.2.1 + 1, M.2.2.2.2.2.1 + 1, M.2.2.2.2.2.2 + x.toNat) [0 ≤ x ∧ x ≤ 60000000]
      | _ => none
    | .anewarray _ => match st with
      | .inl x :: t => nx (pc + len) ls (vr M.2.2.2.2.1 :: t) (zr M.1 M.2.2.2.2.1, zr M.2.1 M.2.2.2.2.1, zrR M.2.2.1 M.2.2.2.2.1, up1 M.2.2.2.1 M.2.2.2.2.1 (24, x.toNat), M.2.2.2.2.1 + 1, M.2.2.2.2.2.1 + 1, M.2.2.2.2.2.2 + x.toNat) [0 ≤ x ∧ x ≤ 60000000]
      | _ => none
    | .multianewarray _ _ => match st with
      | .inl y :: .inl x :: t => nx (pc + len) ls (vr M.2.2.2.2.1 :: t)
          (zrs M.1 M.2.2.2.2.1 (1 + x.toNat), zrs M.2.1 M.2.2.2.2.1 (1 + x.toNat), (fun b j => if b = M.2.2.2.2.1 ∧ j < x.toNat then M.2.2.2.2.1 + 1 + j else zrsR M.2.2.1 M.2.2.2.2.1 (1 + x.toNat) b j),
           (fun b => if b = M.2.2.2.2.1 then (25, x.toNat) else if M.2.2.2.2.1 < b ∧ b ≤ M.2.2.2.2.1 + x.toNat then (20, y.toNat) else M.2.2.2.1 b),
           M.2.2.2.2.1 + 1 + x.toNat, M.2.2.2.2.2.1 + 1 + x.toNat, M.2.2.2.2.2.2 + x.toNat + x.toNat * y.toNat) [0 ≤ x ∧ x ≤ 60000000, 0 ≤ y ∧ y ≤ 60000000]
      | _ => none
    | .invokestatic _ => match b with
      | 0 => some (.inr (.inl (a, (st.take c).reverse, st.drop c)), [Nat.ble c st.length = true, Nat.ble ((st.drop c).map xcat).sum 8 = true])
      | 1 => match st with
        | .inl n :: .inl dp :: .inr (.inr t) :: .inl sp :: .inr (.inr s) :: r =>
          nx (pc + len) ls r (xcpy M.1 s sp.toNat t dp.toNat n.toNat, M.2) [(M.2.2.2.1 s).1 = 20, (M.2.2.2.1 t).1 = 20, 0 ≤ sp ∧ 0 ≤ dp ∧ 0 ≤ n, sp + n ≤ ((M.2.2.2.1 s).2 : Int), dp + n ≤ ((M.2.2.2.1 t).2 : Int), Nat.ble (r.map xcat).sum 8 = true]
        | _ => none
      | _ => match st with
        | .inl x :: .inr (.inr s) :: r =>
          nx (pc + len) ls (vr M.2.2.2.2.1 :: r) ((fun b j => if b = M.2.2.2.2.1 then (if j < x.toNat ∧ j < (M.2.2.2.1 s).2 then M.1 s j else 0) else M.1 b j), zr M.2.1 M.2.2.2.2.1, zrR M.2.2.1 M.2.2.2.2.1, up1 M.2.2.2.1 M.2.2.2.2.1 (20, x.toNat), M.2.2.2.2.1 + 1, M.2.2.2.2.2.1 + 1, M.2.2.2.2.2.2 + x.toNat) [(M.2.2.2.1 s).1 = 20, 0 ≤ x ∧ x ≤ 60000000, Nat.ble (r.map xcat).sum 8 = true]
        | _ => none
    | .invokespecial _ => match b with
      | 0 => some (.inr (.inl (a, (st.take c).reverse, st.drop c)), [Nat.ble c st.length = true, Nat.ble ((st.drop c).map xcat).sum 8 = true, match st[c - 1]? with | some (.inr (.inr r)) => (M.2.2.2.1 r).1 = z.toNat | _ => False])
      | _ => match st with
        | .inr (.inr _) :: r => nx (pc + len) ls r M [Nat.ble (r.map xcat).sum 8 = true]
        | _ => none
    | .invokevirtual _ => match b with
      | 0 => some (.inr (.inl (a, (st.take c).reverse, st.drop c)), [Nat.ble c st.length = true, Nat.ble ((st.drop c).map xcat).sum 8 = true, match st[c - 1]? with | some (.inr (.inr r)) => (M.2.2.2.1 r).1 = z.toNat | _ => False])
      | 1 => match st with
        | .inr (.inr s) :: r => nx (pc + len) ls (vi ((M.2.2.2.1 s).2 : Int) :: r) M [(M.2.2.2.1 s).1 = 26, Nat.ble (r.map xcat).sum 8 = true]
        | _ => none
      | 2 => match st with
        | .inl i :: .inr (.inr s) :: r => nx (pc + len) ls (vi (M.1 s i.toNat) :: r) M [(M.2.2.2.1 s).1 = 26, 0 ≤ i ∧ i < ((M.2.2.2.1 s).2 : Int), Nat.ble (r.map xcat).sum 8 = true]
        | _ => none
      | _ => match st with
        | .inl i :: .inr (.inr s) :: r => nx (pc + len) ls (vi (xixF M.1 s i (M.2.2.2.1 s).2 0) :: r) M [(M.2.2.2.1 s).1 = 26, Nat.ble (r.map xcat).sum 8 = true]
        | _ => none
    | .ireturn => match st with
      | [.inl x] => some (.inr (.inr (.inl (some (vi x)), M)), if Nat.beq a 3 = true then [x = 0 ∨ x = 1] else if Nat.beq a 2 = true then [0 ≤ x ∧ x < 65536] else [])
      | _ => none
    | .lreturn => match st with
      | [.inr (.inl x)] => some (.inr (.inr (.inl (some (vl x)), M)), [])
      | _ => none
    | .areturn => match st with
      | [.inr (.inr x)] => some (.inr (.inr (.inl (some (vr x)), M)), [x ≠ 0])
      | _ => none
    | .return_ => match st with
      | [] => some (.inr (.inr (.inl none, M)), [])
      | _ => none
    | _ => none
/-- how many recursive calls are left to a callee, if its arguments have room -/
def xdep (P : xP) (d y y' : Nat) (args : List xV) : Option Nat := if Nat.ble (xlay args).length (P.2.1 y') = true then (if Nat.blt (P.2.2.1 y') (P.2.2.1 y) = true then some d else match d with | 0 => none | d' + 1 => some d') else none
/-- k steps at most along a path; d recursive calls at most at once -/
noncomputable def exec (P : xP) : Nat → Nat → Nat → Nat → List xV → List xV → xM → Option (xRes × xM)
  | 0, _, _, _, _, _, _ => none
  | k + 1, d, y, pc, ls, st, M =>
    match xfind pc (P.1 y) with
    | none => none
    | some e => match xstep e ls st M with
      | none => none
      | some (o, g) => @ite _ (xall g) (Classical.propDecidable _) (match o with
        | .inl (pc', ls', st', M') => exec P k d y pc' ls' st' M'
        | .inr (.inr r) => some r
        | .inr (.inl (y', args, rest)) =>
          match xdep P d y y' args with
          | none => none
          | some d' => match exec P k d' y' 0 (xlocs (P.2.1 y') args) [] M with
            | none => none
            | some (.inl none, M1) => exec P k d y (pc + 3) ls rest M1
            | some (.inl (some v), M1) => exec P k d y (pc + 3) ls (v :: rest) M1
            | some (.inr E, M1) => match xcatch (P.2.2.2 y) E with
              | none => match P.2.2.2 y with | [] => some (.inr E, M1) | _ :: _ => none
              | some pc' => exec P k d y pc' ls [vr 0] M1) none
/-- n instructions in a row, and what must hold for them -/
def xrun (c : List xI) : Nat → Nat → List xV → List xV → xM → Option ((Nat × List xV × List xV × xM) × List Prop)
  | 0, pc, ls, st, M => some ((pc, ls, st, M), [])
  | n + 1, pc, ls, st, M =>
    match xfind pc c with
    | none => none
    | some e => match xstep e ls st M with
      | some (.inl (pc', ls', st', M'), g) => match xrun c n pc' ls' st' M' with
        | some (q, g') => some (q, g ++ g')
        | none => none
      | _ => none
def xstop (c : List xI) (pc : Nat) (ls st : List xV) (M : xM) : Option (((Nat × List xV × List xV) ⊕ (xRes × xM)) × List Prop) :=
    match xfind pc c with
    | none => none
    | some e => match xstep e ls st M with
      | some (.inr o, g) => some (o, g)
      | _ => none
/-- from here it comes to an end of which Q holds -/
def Runs (P : xP) (d y pc : Nat) (ls st : List xV) (M : xM) (Q : xRes → xM → Prop) : Prop := ∃ k r M', exec P k d y pc ls st M = some (r, M') ∧ Q r M'
theorem xall_cons (p : Prop) (g : List Prop) : xall (p :: g) ↔ p ∧ xall g := by
  cases g with
  | nil => simp [xall]
  | cons q r => simp [xall]
theorem xall_app (a b : List Prop) : xall (a ++ b) ↔ xall a ∧ xall b := by
  induction a with
  | nil => simp [xall]
  | cons p a ih => rw [List.cons_append, xall_cons, xall_cons, ih, and_assoc]
theorem exec_succ (P : xP) (k d y pc : Nat) (ls st : List xV) (M : xM) : exec P (k + 1) d y pc ls st M = match xfind pc (P.1 y) with
    | none => none
    | some e => match xstep e ls st M with
      | none => none
      | some (o, g) => @ite _ (xall g) (Classical.propDecidable _) (match o with
        | .inl (pc', ls', st', M') => exec P k d y pc' ls' st' M'
        | .inr (.inr r) => some r
        | .inr (.inl (y', args, rest)) =>
          match xdep P d y y' args with
          | none => none
          | some d' => match exec P k d' y' 0 (xlocs (P.2.1 y') args) [] M with
            | none => none
            | some (.inl none, M1) => exec P k d y (pc + 3) ls rest M1
            | some (.inl (some v), M1) => exec P k d y (pc + 3) ls (v :: rest) M1
            | some (.inr E, M1) => match xcatch (P.2.2.2 y) E with
              | none => match P.2.2.2 y with | [] => some (.inr E, M1) | _ :: _ => none
              | some pc' => exec P k d y pc' ls [vr 0] M1) none := rfl
theorem exec_mono {P : xP} : ∀ {k d y pc : Nat} {ls st : List xV} {M : xM} {r : xRes × xM}, exec P k d y pc ls st M = some r → ∀ {j : Nat}, k ≤ j → exec P j d y pc ls st M = some r := by
  intro k
  induction k with
  | zero => intro d y pc ls st M r h; cases h
  | succ k ih =>
    intro d y pc ls st M r h j hj
    obtain ⟨j, rfl⟩ : ∃ i, j = i + 1 := ⟨j - 1, by omega⟩
    have hj : k ≤ j := by omega
    rw [exec_succ] at h ⊢
    split at h
    · cases h
    · rename_i e he
      split at h
      · cases h
      · rename_i o g hs
        by_cases hg : xall g
        · rw [if_pos hg] at h ⊢
          match o with
          | .inl (pc', ls', st', M') => exact ih h hj
          | .inr (.inr q) => exact h
          | .inr (.inl (y', args, rest)) =>
            dsimp only at h ⊢
            split at h
            · cases h
            · rename_i d' hd
              split at h
              · cases h
              · rename_i M1 hc
                rw [ih hc hj]
                exact ih h hj
              · rename_i v M1 hc
                rw [ih hc hj]
                exact ih h hj
              · rename_i E M1 hc
                rw [ih hc hj]
                dsimp only
                split at h
                · exact h
                · exact ih h hj
        · rw [if_neg hg] at h
          cases h
theorem Runs.mono {P : xP} {d y pc : Nat} {ls st : List xV} {M : xM} {Q Q' : xRes → xM → Prop} (h : Runs P d y pc ls st M Q) (hq : ∀ r M', Q r M' → Q' r M') : Runs P d y pc ls st M Q' := by
  obtain ⟨k, r, M', h1, h2⟩ := h
  exact ⟨k, r, M', h1, hq _ _ h2⟩
theorem Runs.step {P : xP} {d y pc : Nat} {ls st : List xV} {M : xM} {Q : xRes → xM → Prop} {e : xI} (he : xfind pc (P.1 y) = some e) {pc' : Nat} {ls' st' : List xV} {M' : xM} {g : List Prop} (hs : xstep e ls st M = some (.inl (pc', ls', st', M'), g)) (hg : xall g) (h : Runs P d y pc' ls' st' M' Q) : Runs P d y pc ls st M Q := by
  obtain ⟨k, r, M2, h1, h2⟩ := h
  refine ⟨k + 1, r, M2, ?_, h2⟩
  rw [exec_succ, he]
  dsimp only
  rw [hs]
  dsimp only
  rw [if_pos hg]
  exact h1
/-- a stretch of instructions -/
theorem Runs.blk {P : xP} {d y : Nat} {Q : xRes → xM → Prop} {c : List xI} (hc : P.1 y = c) : ∀ {n pc : Nat} {ls st : List xV} {M : xM} {pc' : Nat} {ls' st' : List xV} {M' : xM} {g : List Prop}, xrun c n pc ls st M = some ((pc', ls', st', M'), g) → xall g → Runs P d y pc' ls' st' M' Q → Runs P d y pc ls st M Q := by
  intro n
  induction n with
  | zero =>
    intro pc ls st M pc' ls' st' M' g h _ k
    cases h
    exact k
  | succ n ih =>
    intro pc ls st M pc' ls' st' M' g h hg k
    rw [xrun] at h
    split at h
    · cases h
    · rename_i e he
      split at h
      · rename_i q1 q2 q3 q4 q5 hs
        split at h
        · rename_i w1 w2 hr
          cases h
          rw [xall_app] at hg
          exact Runs.step (by rw [hc]; exact he) hs hg.1 (ih hr hg.2 k)
        · cases h
      · cases h
/-- an end -/
theorem Runs.stop {P : xP} {d y : Nat} {Q : xRes → xM → Prop} {c : List xI} (hc : P.1 y = c) {pc : Nat} {ls st : List xV} {M : xM} {r : xRes} {M' : xM} {g : List Prop} (h : xstop c pc ls st M = some (.inr (r, M'), g)) (hg : xall g) (k : Q r M') : Runs P d y pc ls st M Q := by
  rw [xstop] at h
  split at h
  · cases h
  · rename_i e he
    split at h
    · rename_i o g hs
      cases h
      refine ⟨1, r, M', ?_, k⟩
      rw [exec_succ, hc, he]
      dsimp only
      rw [hs]
      dsimp only
      rw [if_pos hg]
    · cases h
/-- what follows a call -/
def xback (P : xP) (d y pc : Nat) (ls rest : List xV) (Q : xRes → xM → Prop) (r : xRes) (M1 : xM) : Prop := match r with
  | .inl none => Runs P d y pc ls rest M1 Q
  | .inl (some v) => Runs P d y pc ls (v :: rest) M1 Q
  | .inr E => match xcatch (P.2.2.2 y) E with
    | none => P.2.2.2 y = [] ∧ Q (.inr E) M1
    | some pc' => Runs P d y pc' ls [vr 0] M1 Q
theorem Runs.callD {P : xP} {d d' y : Nat} {Q : xRes → xM → Prop} {c : List xI} (hc : P.1 y = c) {pc : Nat} {ls st : List xV} {M : xM} {y' : Nat} {args rest : List xV} {g : List Prop} (h : xstop c pc ls st M = some (.inl (y', args, rest), g)) (hg : xall g) (hd : xdep P d y y' args = some d')
    (k : Runs P d' y' 0 (xlocs (P.2.1 y') args) [] M (xback P d y (pc + 3) ls rest Q)) : Runs P d y pc ls st M Q := by
  rw [xstop] at h
  split at h
  · cases h
  · rename_i e he
    split at h
    · rename_i o g hs
      cases h
      obtain ⟨k1, r, M1, h1, h2⟩ := k
      have main : ∀ k2 q, k1 ≤ k2 → (match (some (r, M1) : Option (xRes × xM)) with
            | none => none
            | some (.inl none, M1) => exec P k2 d y (pc + 3) ls rest M1
            | some (.inl (some v), M1) => exec P k2 d y (pc + 3) ls (v :: rest) M1
            | some (.inr E, M1) => match xcatch (P.2.2.2 y) E with
              | none => match P.2.2.2 y with | [] => some (.inr E, M1) | _ :: _ => none
              | some pc' => exec P k2 d y pc' ls [vr 0] M1) = some q → exec P (k2 + 1) d y pc ls st M = some q := by
        intro k2 q hk h5
        rw [exec_succ, hc, he]
        dsimp only
        rw [hs]
        dsimp only
        rw [if_pos hg, hd]
        dsimp only
        rw [exec_mono h1 hk]
        exact h5
      match r, h2 with
      | .inl none, ⟨k2, r2, M2, h3, h4⟩ => exact ⟨max k1 k2 + 1, r2, M2, main _ _ (Nat.le_max_left _ _) (exec_mono h3 (Nat.le_max_right _ _)), h4⟩
      | .inl (some v), ⟨k2, r2, M2, h3, h4⟩ => exact ⟨max k1 k2 + 1, r2, M2, main _ _ (Nat.le_max_left _ _) (exec_mono h3 (Nat.le_max_right _ _)), h4⟩
      | .inr E, h2 =>
        dsimp only [xback] at h2
        split at h2
        · rename_i hx
          exact ⟨k1 + 1, _, _, main _ _ (Nat.le_refl _) (by dsimp only; rw [hx]; dsimp only; rw [h2.1]), h2.2⟩
        · rename_i pc' hx
          obtain ⟨k2, r2, M2, h3, h4⟩ := h2
          exact ⟨max k1 k2 + 1, r2, M2, main _ _ (Nat.le_max_left _ _) (by dsimp only; rw [hx]; exact exec_mono h3 (Nat.le_max_right _ _)), h4⟩
    · cases h
/-- a call of a method of less rank -/
theorem Runs.call {P : xP} {d y : Nat} {Q : xRes → xM → Prop} {c : List xI} (hc : P.1 y = c) {pc : Nat} {ls st : List xV} {M : xM} {y' : Nat} {args rest : List xV} {g : List Prop} (h : xstop c pc ls st M = some (.inl (y', args, rest), g)) (hg : xall g) (hd : xdep P d y y' args = some d)
    (k : Runs P d y' 0 (xlocs (P.2.1 y') args) [] M (xback P d y (pc + 3) ls rest Q)) : Runs P d y pc ls st M Q := Runs.callD hc h hg hd k
/-- a recursive call -/
theorem Runs.callR {P : xP} {d y : Nat} {Q : xRes → xM → Prop} {c : List xI} (hc : P.1 y = c) {pc : Nat} {ls st : List xV} {M : xM} {y' : Nat} {args rest : List xV} {g : List Prop} (h : xstop c pc ls st M = some (.inl (y', args, rest), g)) (hg : xall g) (hd : xdep P (d + 1) y y' args = some d)
    (k : Runs P d y' 0 (xlocs (P.2.1 y') args) [] M (xback P (d + 1) y (pc + 3) ls rest Q)) : Runs P (d + 1) y pc ls st M Q := Runs.callD hc h hg hd k
