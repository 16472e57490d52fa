/-! THE MACHINE ONCE MORE, SMALL. Memory by the numbers of cells: shapes (how many cells; of each its kind and length), references, ints, longs. 'zstp': one instruction; 'zR': a frame (the least thing that is closed under the steps); 'zW d': a call, at most d frames deep; each with what shall hold behind it. Kinds: 0 .. 11 objects of that class, 20 int[], 21 boolean[], 22 long[], 23 State[], 24 SeekerKind[], 25 int[][]. Numbers from 5000 on: 5000 .. the four texts, 6000 .. their bytes, 7000 the script. -/
abbrev zSh : Type := Nat × (Nat → Nat × Nat)
abbrev zRf : Type := Nat → Nat → Option Nat
abbrev zIm : Type := Nat → Nat → Int32
abbrev zLm : Type := Nat → Nat → Int64
abbrev zLo : Type := List (Option Value)
abbrev zPo : Type := Option Value → zSh → zRf → zIm → zLm → Prop
abbrev zBd : Type := zM → List Value → zSh → zRf → zIm → zLm → zPo → Prop
abbrev zCt : Type := Nat → zLo → List Value → Nat → Nat → zSh → zRf → zIm → zLm → Prop
abbrev zSc : Type := Option (Nat × (Nat → Int32))
/-- memory with one place changed -/
def zup {α : Type} (f : Nat → Nat → α) (c k : Nat) (v : α) : Nat → Nat → α := fun a j => if a = c ∧ j = k then v else f a j
/-- a fresh cell's places -/
def zfr {α : Type} (f : Nat → Nat → α) (c : Nat) (v : α) : Nat → Nat → α := fun a j => if a = c then v else f a j
def zsh (σ : zSh) (kd n : Nat) : zSh := (σ.1 + 1, fun a => if a = σ.1 then (kd, n) else σ.2 a)
/-- the place below a stored one: a long there is gone -/
def zk (o : Option Value) : Option Value := match o with
  | some (.long _) => none
  | some (.double _) => none
  | o => o
def zs1 : zLo → Nat → Value → zLo
  | [], _, _ => []
  | _ :: r, 0, v => some v :: r
  | o :: r, 1, v => zk o :: zs1 r 0 v
  | o :: r, (i + 2), v => o :: zs1 r (i + 1) v
def zs2 : zLo → Nat → Value → zLo
  | [], _, _ => []
  | _ :: r, 0, v => some v :: (match r with
    | [] => []
    | _ :: r => none :: r)
  | o :: r, 1, v => zk o :: zs2 r 0 v
  | o :: r, (i + 2), v => o :: zs2 r (i + 1) v
/-- the locals at a method's start -/
def zla : List Value → zLo
  | [] => []
  | v :: vs => if v.category = 2 then some v :: none :: zla vs else some v :: zla vs
def zen (n : Nat) (as : List Value) : zLo := zla as ++ List.replicate (n - (zla as).length) none
def zlg (ls : zLo) (i : Nat) : Option Value := (ls[i]?).join
def zfv (ty : Nat) (ρ : zRf) (I : zIm) (L : zLm) (a k : Nat) : Value := match ty with
  | 2 => .long (L a k)
  | 3 => va_rf (ρ a k)
  | _ => .int (I a k)
/-- an array's place: in range, of a cell of the kind -/
def zin (σ : zSh) (a kd : Nat) (i : Int32) : Prop := a < σ.1 ∧ (σ.2 a).1 = kd ∧ vp_in i (σ.2 a).2
def zsum (st : List Value) : Nat := (st.map fun v => v.category).sum
def zj (pc : Nat) (off : Int) (K : Nat → Prop) : Prop := match (pc : Int) + off with
  | .ofNat t => K t
  | .negSucc _ => False
def z1 (st : List Value) (K : Int32 → List Value → Prop) : Prop := match st with
  | .int x :: r => K x r
  | _ => False
def z2 (st : List Value) (K : Int32 → Int32 → List Value → Prop) : Prop := match st with
  | .int y :: .int x :: r => K x y r
  | _ => False
def z1l (st : List Value) (K : Int64 → List Value → Prop) : Prop := match st with
  | .long x :: r => K x r
  | _ => False
def z2l (st : List Value) (K : Int64 → Int64 → List Value → Prop) : Prop := match st with
  | .long y :: .long x :: r => K x y r
  | _ => False
def zli (st : List Value) (K : Int64 → Int32 → List Value → Prop) : Prop := match st with
  | .int y :: .long x :: r => K x y r
  | _ => False
def z1r (st : List Value) (K : Nat → List Value → Prop) : Prop := match st with
  | .ref a :: r => K a r
  | _ => False
def zra (st : List Value) (K : Nat → Int32 → List Value → Prop) : Prop := match st with
  | .int i :: .ref a :: r => K a i r
  | _ => False
def zia (st : List Value) (K : Nat → Int32 → Int32 → List Value → Prop) : Prop := match st with
  | .int x :: .int i :: .ref a :: r => K a i x r
  | _ => False
def zil (st : List Value) (K : Nat → Int32 → Int64 → List Value → Prop) : Prop := match st with
  | .long x :: .int i :: .ref a :: r => K a i x r
  | _ => False
def zir (st : List Value) (K : Nat → Int32 → Nat → List Value → Prop) : Prop := match st with
  | .ref x :: .int i :: .ref a :: r => K a i x r
  | _ => False
def z1v (st : List Value) (K : Value → List Value → Prop) : Prop := match st with
  | x :: r => K x r
  | _ => False
def z2v (st : List Value) (K : Value → Value → List Value → Prop) : Prop := match st with
  | x :: y :: r => K x y r
  | _ => False
/-- a call -/
def zcl (X : zCt) (B : zBd) (mm : zM) (pc : Nat) (ls : zLo) (u v : Nat) (σ : zSh) (ρ : zRf) (I : zIm) (L : zLm) (mi : Nat) (as r : List Value) : Prop := match zMs[mi]? with
  | some cm => zsum r ≤ 8 ∧ u + cm.2.2.2.2.2.1 ≤ mm.2.2.2.2.2.1 ∧ v + cm.2.2.2.2.2.2 ≤ mm.2.2.2.2.2.2 ∧ B cm as σ ρ I L (fun w σ' ρ' I' L' => X (pc + 3) ls (w.toList ++ r) (u + cm.2.2.2.2.2.1) (v + cm.2.2.2.2.2.2) σ' ρ' I' L')
  | none => False
/-- a receiver's kind -/
def zkd (σ : zSh) (a : Nat) (K : Nat → Prop) : Prop := if a < σ.1 then (σ.2 a).1 < 12 ∧ K (σ.2 a).1 else if 5000 ≤ a ∧ a < 5004 then K 20 else False
/-- the texts' bytes -/
def zbyt : List (List Int32) := [[112, 108, 97, 99, 101], [115, 101, 101, 107, 101, 114], [114, 105, 110, 103], [108, 97, 119]]
def zlen : List Nat := [5, 6, 4, 3]
/-- one field read; class 20 is String -/
def zgf (X : zCt) (mm : zM) (pc : Nat) (ls : zLo) (st : List Value) (u v : Nat) (σ : zSh) (ρ : zRf) (I : zIm) (L : zLm) (i : Nat) : Prop := z1r st fun a r =>
  if mm.2.2.2.2.1 = 20 then 5000 ≤ a ∧ a < 5004 ∧ (if i = 9 then X (pc + 3) ls (.ref (a + 1000) :: r) u v σ ρ I L else if i = 15 then X (pc + 3) ls (.int 0 :: r) u v σ ρ I L else False)
  else match zF mm.2.2.2.2.1 i with
    | some (ty, k, _, oks) => a < σ.1 ∧ (σ.2 a).1 ∈ oks ∧ X (pc + 3) ls (zfv ty ρ I L a k :: r) u v σ ρ I L
    | none => False
def zpf (X : zCt) (mm : zM) (pc : Nat) (ls : zLo) (st : List Value) (u v : Nat) (σ : zSh) (ρ : zRf) (I : zIm) (L : zLm) (i : Nat) : Prop := z2v st fun w y r => match y with
  | .ref a => match zF mm.2.2.2.2.1 i with
    | some (ty, k, fin, oks) => a < σ.1 ∧ (σ.2 a).1 ∈ oks ∧ (fin = true → mm.1.name = "<init>" ∧ (σ.2 a).1 = mm.2.2.2.2.1) ∧ (match ty, w with
        | 0, .int x => X (pc + 3) ls r u v σ ρ (zup I a k x) L
        | 1, .int x => (x = 0 ∨ x = 1) ∧ X (pc + 3) ls r u v σ ρ (zup I a k x) L
        | 2, .long x => X (pc + 3) ls r u v σ ρ I (zup L a k x)
        | 3, .ref b => X (pc + 3) ls r u v σ (zup ρ a k (some b)) I L
        | _, _ => False)
    | none => False
  | _ => False
def zret (mm : zM) (Q : zPo) (ty : Option FieldType) (u v : Nat) (o : Option Value) (σ : zSh) (ρ : zRf) (I : zIm) (L : zLm) : Prop := mm.2.2.2.1 = ty ∧ u ≤ mm.2.2.2.2.2.1 ∧ v ≤ mm.2.2.2.2.2.2 ∧ Q o σ ρ I L
def znw (x : Int32) (t : FieldType) : Prop := narrow t (.int x) = .int x
/-- new cells -/
def znew (X : zCt) (mm : zM) (pc : Nat) (ls : zLo) (r : List Value) (u v : Nat) (σ : zSh) (ρ : zRf) (I : zIm) (L : zLm) (kd n : Nat) : Prop := u + 1 ≤ mm.2.2.2.2.2.1 ∧ v + n ≤ mm.2.2.2.2.2.2 ∧ σ.1 < 4000 ∧ n ≤ 100000 ∧ X pc ls (.ref σ.1 :: r) (u + 1) (v + n) (zsh σ kd n) (zfr ρ σ.1 none) (zfr I σ.1 0) (zfr L σ.1 0)
/-- int[n][k]: the outer row, and the inner ones behind it -/
def zmul (X : zCt) (mm : zM) (pc : Nat) (ls : zLo) (r : List Value) (u v : Nat) (σ : zSh) (ρ : zRf) (I : zIm) (L : zLm) (n k : Nat) : Prop := u + (1 + n) ≤ mm.2.2.2.2.2.1 ∧ v + (n + n * k) ≤ mm.2.2.2.2.2.2 ∧ σ.1 + n < 4000 ∧ n ≤ 100 ∧ k ≤ 100 ∧
  X pc ls (.ref σ.1 :: r) (u + 1 + n) (v + n + n * k) (σ.1 + 1 + n, fun a => if a = σ.1 then (25, n) else if σ.1 < a ∧ a ≤ σ.1 + n then (20, k) else σ.2 a) (fun a j => if a = σ.1 then (if j < n then some (σ.1 + 1 + j) else none) else if σ.1 < a ∧ a ≤ σ.1 + n then none else ρ a j) (fun a j => if σ.1 ≤ a ∧ a ≤ σ.1 + n then 0 else I a j) (fun a j => if σ.1 ≤ a ∧ a ≤ σ.1 + n then 0 else L a j)
/-- arraycopy of ints -/
def zcpy (X : zCt) (pc : Nat) (ls : zLo) (st : List Value) (u v : Nat) (σ : zSh) (ρ : zRf) (I : zIm) (L : zLm) : Prop := match st with
  | .int n :: .int dp :: .ref d :: .int sp :: .ref s :: r => s < σ.1 ∧ d < σ.1 ∧ (σ.2 s).1 = 20 ∧ (σ.2 d).1 = 20 ∧ ¬ sp < 0 ∧ ¬ dp < 0 ∧ ¬ n < 0 ∧ sp.toNatClampNeg + n.toNatClampNeg ≤ (σ.2 s).2 ∧ dp.toNatClampNeg + n.toNatClampNeg ≤ (σ.2 d).2 ∧ zsum r ≤ 8 ∧ X (pc + 3) ls r u v σ ρ (fun a j => if a = d then va_cpy (I s) (I d) sp.toNatClampNeg dp.toNatClampNeg n.toNatClampNeg j else I a j) L
  | _ => False
def zkons (X : Value → Prop) (mm : zM) (i : Nat) : Prop := match zK mm.2.2.2.2.1 i with
  | some w => X w
  | none => False
/-- one instruction of length n -/
def zstp (scr : zSc) (X : zCt) (B : zBd) (mm : zM) (Q : zPo) (pc : Nat) (ls : zLo) (st : List Value) (u v : Nat) (σ : zSh) (ρ : zRf) (I : zIm) (L : zLm) (n : Nat) (ins : Instr) : Prop := match ins with
  | .iconst k => n = 1 ∧ X (pc + 1) ls (.int (Int32.ofInt k) :: st) u v σ ρ I L
  | .bipush k => n = 2 ∧ X (pc + 2) ls (.int (Int8.ofInt k).toInt32 :: st) u v σ ρ I L
  | .sipush k => n = 3 ∧ X (pc + 3) ls (.int (Int16.ofInt k).toInt32 :: st) u v σ ρ I L
  | .lconst k => n = 1 ∧ X (pc + 1) ls (.long (Int64.ofNat k) :: st) u v σ ρ I L
  | .ldc i => n = 2 ∧ zkons (fun w => match w with
      | .long _ => False
      | w => X (pc + 2) ls (w :: st) u v σ ρ I L) mm i
  | .ldc_w i => n = 3 ∧ zkons (fun w => match w with
      | .int x => X (pc + 3) ls (.int x :: st) u v σ ρ I L
      | _ => False) mm i
  | .ldc2_w i => n = 3 ∧ zkons (fun w => match w with
      | .long x => X (pc + 3) ls (.long x :: st) u v σ ρ I L
      | _ => False) mm i
  | .iload i => n = 2 ∧ (match zlg ls i with
      | some (.int x) => X (pc + 2) ls (.int x :: st) u v σ ρ I L
      | _ => False)
  | .iload_n i => n = 1 ∧ (match zlg ls i with
      | some (.int x) => X (pc + 1) ls (.int x :: st) u v σ ρ I L
      | _ => False)
  | .lload i => n = 2 ∧ (match zlg ls i with
      | some (.long x) => X (pc + 2) ls (.long x :: st) u v σ ρ I L
      | _ => False)
  | .lload_n i => n = 1 ∧ (match zlg ls i with
      | some (.long x) => X (pc + 1) ls (.long x :: st) u v σ ρ I L
      | _ => False)
  | .aload i => n = 2 ∧ (match zlg ls i with
      | some (.ref x) => X (pc + 2) ls (.ref x :: st) u v σ ρ I L
      | _ => False)
  | .aload_n i => n = 1 ∧ (match zlg ls i with
      | some (.ref x) => X (pc + 1) ls (.ref x :: st) u v σ ρ I L
      | _ => False)
  | .istore i => n = 2 ∧ z1 st fun x r => i < ls.length ∧ X (pc + 2) (zs1 ls i (.int x)) r u v σ ρ I L
  | .istore_n i => n = 1 ∧ z1 st fun x r => (i : Nat) < ls.length ∧ X (pc + 1) (zs1 ls i (.int x)) r u v σ ρ I L
  | .lstore i => n = 2 ∧ z1l st fun x r => i + 1 < ls.length ∧ X (pc + 2) (zs2 ls i (.long x)) r u v σ ρ I L
  | .lstore_n i => n = 1 ∧ z1l st fun x r => (i : Nat) + 1 < ls.length ∧ X (pc + 1) (zs2 ls i (.long x)) r u v σ ρ I L
  | .astore i => n = 2 ∧ z1r st fun x r => i < ls.length ∧ X (pc + 2) (zs1 ls i (.ref x)) r u v σ ρ I L
  | .astore_n i => n = 1 ∧ z1r st fun x r => (i : Nat) < ls.length ∧ X (pc + 1) (zs1 ls i (.ref x)) r u v σ ρ I L
  | .iinc i k => n = 3 ∧ (match zlg ls i with
      | some (.int x) => X (pc + 3) (zs1 ls i (.int (x + Int32.ofInt k))) st u v σ ρ I L
      | _ => False)
  | .iadd => n = 1 ∧ z2 st fun x y r => X (pc + 1) ls (.int (x + y) :: r) u v σ ρ I L
  | .isub => n = 1 ∧ z2 st fun x y r => X (pc + 1) ls (.int (x - y) :: r) u v σ ρ I L
  | .imul => n = 1 ∧ z2 st fun x y r => X (pc + 1) ls (.int (x * y) :: r) u v σ ρ I L
  | .iand => n = 1 ∧ z2 st fun x y r => X (pc + 1) ls (.int (x &&& y) :: r) u v σ ρ I L
  | .ior => n = 1 ∧ z2 st fun x y r => X (pc + 1) ls (.int (x ||| y) :: r) u v σ ρ I L
  | .ishl => n = 1 ∧ z2 st fun x y r => X (pc + 1) ls (.int (x <<< (y &&& 31)) :: r) u v σ ρ I L
  | .ishr => n = 1 ∧ z2 st fun x y r => X (pc + 1) ls (.int (x >>> (y &&& 31)) :: r) u v σ ρ I L
  | .iushr => n = 1 ∧ z2 st fun x y r => X (pc + 1) ls (.int (x.toUInt32 >>> (y.toUInt32 &&& Int32.toUInt32 31)).toInt32 :: r) u v σ ρ I L
  | .idiv => n = 1 ∧ z2 st fun x y r => ¬ y = 0 ∧ X (pc + 1) ls (.int (x / y) :: r) u v σ ρ I L
  | .irem => n = 1 ∧ z2 st fun x y r => ¬ y = 0 ∧ X (pc + 1) ls (.int (x - x / y * y) :: r) u v σ ρ I L
  | .ladd => n = 1 ∧ z2l st fun x y r => X (pc + 1) ls (.long (x + y) :: r) u v σ ρ I L
  | .lsub => n = 1 ∧ z2l st fun x y r => X (pc + 1) ls (.long (x - y) :: r) u v σ ρ I L
  | .lmul => n = 1 ∧ z2l st fun x y r => X (pc + 1) ls (.long (x * y) :: r) u v σ ρ I L
  | .land => n = 1 ∧ z2l st fun x y r => X (pc + 1) ls (.long (x &&& y) :: r) u v σ ρ I L
  | .lor => n = 1 ∧ z2l st fun x y r => X (pc + 1) ls (.long (x ||| y) :: r) u v σ ρ I L
  | .ldiv => n = 1 ∧ z2l st fun x y r => ¬ y = 0 ∧ X (pc + 1) ls (.long (x / y) :: r) u v σ ρ I L
  | .lrem => n = 1 ∧ z2l st fun x y r => ¬ y = 0 ∧ X (pc + 1) ls (.long (x - x / y * y) :: r) u v σ ρ I L
  | .lcmp => n = 1 ∧ z2l st fun x y r => X (pc + 1) ls (.int (lg_cmp x y) :: r) u v σ ρ I L
  | .lshl => n = 1 ∧ zli st fun x y r => X (pc + 1) ls (.long (x <<< (y.toInt64 &&& 63)) :: r) u v σ ρ I L
  | .lshr => n = 1 ∧ zli st fun x y r => X (pc + 1) ls (.long (x >>> (y.toInt64 &&& 63)) :: r) u v σ ρ I L
  | .lushr => n = 1 ∧ zli st fun x y r => X (pc + 1) ls (.long (x.toUInt64 >>> (y.toInt64.toUInt64 &&& Int64.toUInt64 63)).toInt64 :: r) u v σ ρ I L
  | .i2l => n = 1 ∧ z1 st fun x r => X (pc + 1) ls (.long x.toInt64 :: r) u v σ ρ I L
  | .i2c => n = 1 ∧ z1 st fun x r => X (pc + 1) ls (.int (x.toUInt32 % 65536).toInt32 :: r) u v σ ρ I L
  | .l2i => n = 1 ∧ z1l st fun x r => X (pc + 1) ls (.int x.toInt32 :: r) u v σ ρ I L
  | .pop => n = 1 ∧ z1v st fun w r => w.category = 1 ∧ X (pc + 1) ls r u v σ ρ I L
  | .dup => n = 1 ∧ z1v st fun w r => w.category = 1 ∧ X (pc + 1) ls (w :: w :: r) u v σ ρ I L
  | .dup2 => n = 1 ∧ z1v st fun w r => if w.category = 2 then X (pc + 1) ls (w :: w :: r) u v σ ρ I L else z1v r fun y r => w.category = 1 ∧ y.category = 1 ∧ X (pc + 1) ls (w :: y :: w :: y :: r) u v σ ρ I L
  | .goto off => n = 3 ∧ zj pc off fun t => X t ls st u v σ ρ I L
  | .ifCond .eq off => n = 3 ∧ z1 st fun x r => zj pc off fun t => if x = 0 then X t ls r u v σ ρ I L else X (pc + 3) ls r u v σ ρ I L
  | .ifCond .ne off => n = 3 ∧ z1 st fun x r => zj pc off fun t => if x = 0 then X (pc + 3) ls r u v σ ρ I L else X t ls r u v σ ρ I L
  | .ifCond .lt off => n = 3 ∧ z1 st fun x r => zj pc off fun t => if x < 0 then X t ls r u v σ ρ I L else X (pc + 3) ls r u v σ ρ I L
  | .ifCond .ge off => n = 3 ∧ z1 st fun x r => zj pc off fun t => if 0 ≤ x then X t ls r u v σ ρ I L else X (pc + 3) ls r u v σ ρ I L
  | .ifCond .gt off => n = 3 ∧ z1 st fun x r => zj pc off fun t => if 0 < x then X t ls r u v σ ρ I L else X (pc + 3) ls r u v σ ρ I L
  | .ifCond .le off => n = 3 ∧ z1 st fun x r => zj pc off fun t => if x ≤ 0 then X t ls r u v σ ρ I L else X (pc + 3) ls r u v σ ρ I L
  | .if_icmp .eq off => n = 3 ∧ z2 st fun x y r => zj pc off fun t => if x = y then X t ls r u v σ ρ I L else X (pc + 3) ls r u v σ ρ I L
  | .if_icmp .ne off => n = 3 ∧ z2 st fun x y r => zj pc off fun t => if x = y then X (pc + 3) ls r u v σ ρ I L else X t ls r u v σ ρ I L
  | .if_icmp .lt off => n = 3 ∧ z2 st fun x y r => zj pc off fun t => if x < y then X t ls r u v σ ρ I L else X (pc + 3) ls r u v σ ρ I L
  | .if_icmp .ge off => n = 3 ∧ z2 st fun x y r => zj pc off fun t => if y ≤ x then X t ls r u v σ ρ I L else X (pc + 3) ls r u v σ ρ I L
  | .if_icmp .gt off => n = 3 ∧ z2 st fun x y r => zj pc off fun t => if y < x then X t ls r u v σ ρ I L else X (pc + 3) ls r u v σ ρ I L
  | .if_icmp .le off => n = 3 ∧ z2 st fun x y r => zj pc off fun t => if x ≤ y then X t ls r u v σ ρ I L else X (pc + 3) ls r u v σ ρ I L
  | .tableswitch dflt lo hi offs => z1 st fun x r => if x.toInt < lo ∨ hi < x.toInt then zj pc dflt fun t => X t ls r u v σ ρ I L else (match offs[(x.toInt - lo).toNat]? with
      | some off => zj pc off fun t => X t ls r u v σ ρ I L
      | none => False)
  | .getfield i => n = 3 ∧ zgf X mm pc ls st u v σ ρ I L i
  | .putfield i => n = 3 ∧ zpf X mm pc ls st u v σ ρ I L i
  | .getstatic i => n = 3 ∧ mm.2.2.2.2.1 = 20 ∧ (if i = 38 then X (pc + 3) ls (.int 1 :: st) u v σ ρ I L else if i = 1053 then X (pc + 3) ls (.retAddr 0 :: st) u v σ ρ I L else False)
  | .iaload => n = 1 ∧ zra st fun a i r => if a = 7000 then (match scr with
      | some (N, xs) => vp_in i N ∧ X (pc + 1) ls (.int (xs i.toNatClampNeg) :: r) u v σ ρ I L
      | none => False) else zin σ a 20 i ∧ X (pc + 1) ls (.int (I a i.toNatClampNeg) :: r) u v σ ρ I L
  | .baload => n = 1 ∧ zra st fun a i r => if 6000 ≤ a ∧ a < 6004 then vp_in i (zlen.getD (a - 6000) 0) ∧ X (pc + 1) ls (.int ((zbyt.getD (a - 6000) []).getD i.toNatClampNeg 0) :: r) u v σ ρ I L else zin σ a 21 i ∧ X (pc + 1) ls (.int (I a i.toNatClampNeg) :: r) u v σ ρ I L
  | .laload => n = 1 ∧ zra st fun a i r => zin σ a 22 i ∧ X (pc + 1) ls (.long (L a i.toNatClampNeg) :: r) u v σ ρ I L
  | .aaload => n = 1 ∧ zra st fun a i r => a < σ.1 ∧ ((σ.2 a).1 = 23 ∨ (σ.2 a).1 = 24 ∨ (σ.2 a).1 = 25) ∧ vp_in i (σ.2 a).2 ∧ X (pc + 1) ls (va_rf (ρ a i.toNatClampNeg) :: r) u v σ ρ I L
  | .iastore => n = 1 ∧ zia st fun a i x r => zin σ a 20 i ∧ X (pc + 1) ls r u v σ ρ (zup I a i.toNatClampNeg x) L
  | .bastore => n = 1 ∧ zia st fun a i x r => zin σ a 21 i ∧ (x = 0 ∨ x = 1) ∧ X (pc + 1) ls r u v σ ρ (zup I a i.toNatClampNeg x) L
  | .lastore => n = 1 ∧ zil st fun a i x r => zin σ a 22 i ∧ X (pc + 1) ls r u v σ ρ I (zup L a i.toNatClampNeg x)
  | .aastore => n = 1 ∧ zir st fun a i b r => a < σ.1 ∧ b < σ.1 ∧ vp_in i (σ.2 a).2 ∧ ((σ.2 a).1 = 23 ∧ (σ.2 b).1 = 7 ∨ (σ.2 a).1 = 24 ∧ 1 ≤ (σ.2 b).1 ∧ (σ.2 b).1 ≤ 6) ∧ X (pc + 1) ls r u v σ (zup ρ a i.toNatClampNeg (some b)) I L
  | .arraylength => n = 1 ∧ z1r st fun a r => if a = 7000 then (match scr with
      | some (N, _) => X (pc + 1) ls (.int (Int32.ofNat N) :: r) u v σ ρ I L
      | none => False) else if 6000 ≤ a ∧ a < 6004 then X (pc + 1) ls (.int (Int32.ofNat (zlen.getD (a - 6000) 0)) :: r) u v σ ρ I L else a < σ.1 ∧ 20 ≤ (σ.2 a).1 ∧ (σ.2 a).1 ≤ 25 ∧ X (pc + 1) ls (.int (Int32.ofNat (σ.2 a).2) :: r) u v σ ρ I L
  | .new i => n = 3 ∧ (match zN mm.2.2.2.2.1 i with
      | some ci => znew X mm (pc + 3) ls st u v σ ρ I L ci ((zfl.getD ci []).length)
      | none => False)
  | .newarray ty => n = 2 ∧ z1 st fun x r => ¬ x < 0 ∧ (match ty with
      | .int => znew X mm (pc + 2) ls r u v σ ρ I L 20 x.toNatClampNeg
      | .boolean => znew X mm (pc + 2) ls r u v σ ρ I L 21 x.toNatClampNeg
      | .long => znew X mm (pc + 2) ls r u v σ ρ I L 22 x.toNatClampNeg
      | _ => False)
  | .anewarray i => n = 3 ∧ z1 st fun x r => ¬ x < 0 ∧ (match zA mm.2.2.2.2.1 i with
      | some kd => znew X mm (pc + 3) ls r u v σ ρ I L kd x.toNatClampNeg
      | none => False)
  | .multianewarray i d => n = 4 ∧ d = 2 ∧ mm.2.2.2.2.1 = 9 ∧ i = 33 ∧ z2 st fun x y r => ¬ x < 0 ∧ ¬ y < 0 ∧ zmul X mm (pc + 4) ls r u v σ ρ I L x.toNatClampNeg y.toNatClampNeg
  | .invokevirtual i => n = 3 ∧ (match zV mm.2.2.2.2.1 i with
      | some (k, ts) => z1r (st.drop k) fun a r => zkd σ a fun kd => (match ts.find? (fun t => t.1 == kd) with
          | some t => zcl X B mm pc ls u v σ ρ I L t.2.1 (.ref a :: (st.take k).reverse) r
          | none => False)
      | none => False)
  | .invokespecial i => n = 3 ∧ (if zO mm.2.2.2.2.1 i = true then z1r st fun _ r => zsum r ≤ 8 ∧ X (pc + 3) ls r u v σ ρ I L else match zI mm.2.2.2.2.1 i with
      | some (k, mi, _) => z1r (st.drop k) fun a r => a < σ.1 ∧ (σ.2 a).1 < 12 ∧ zcl X B mm pc ls u v σ ρ I L mi (.ref a :: (st.take k).reverse) r
      | none => False)
  | .invokestatic i => n = 3 ∧ (if mm.2.2.2.2.1 = 0 ∧ i = 44 then zcpy X pc ls st u v σ ρ I L
      else if mm.2.2.2.2.1 = zBmax.1 ∧ i = zBmax.2 then z2 st fun x y r => zsum r ≤ 8 ∧ u ≤ mm.2.2.2.2.2.1 ∧ v ≤ mm.2.2.2.2.2.2 ∧ X (pc + 3) ls (.int (if x < y then y else x) :: r) u v σ ρ I L
      else if mm.2.2.2.2.1 = zBmin.1 ∧ i = zBmin.2 then z2 st fun x y r => zsum r ≤ 8 ∧ u ≤ mm.2.2.2.2.2.1 ∧ v ≤ mm.2.2.2.2.2.2 ∧ X (pc + 3) ls (.int (if y < x then y else x) :: r) u v σ ρ I L
      else match zS mm.2.2.2.2.1 i with
        | some (k, mi) => k ≤ st.length ∧ zcl X B mm pc ls u v σ ρ I L mi (st.take k).reverse (st.drop k)
        | none => False)
  | .ireturn => n = 1 ∧ (match st with
      | [.int x] => (match mm.2.2.2.1 with
        | some ty => znw x ty ∧ zret mm Q (some ty) u v (some (.int x)) σ ρ I L
        | none => False)
      | _ => False)
  | .lreturn => n = 1 ∧ (match st with
      | [.long x] => zret mm Q (some .long) u v (some (.long x)) σ ρ I L
      | _ => False)
  | .return_ => n = 1 ∧ (match st with
      | [] => zret mm Q none u v none σ ρ I L
      | _ => False)
  | _ => False
def zst (scr : zSc) (X : zCt) (B : zBd) (mm : zM) (Q : zPo) (pc : Nat) (ls : zLo) (st : List Value) (u v : Nat) (σ : zSh) (ρ : zRf) (I : zIm) (L : zLm) : Prop := match decode mm.2.1 pc with
  | .ok (ins, n) => zstp scr X B mm Q pc ls st u v σ ρ I L n ins
  | _ => False
/-- what a frame comes to -/
def zR (scr : zSc) (B : zBd) (mm : zM) (Q : zPo) : zCt := fun pc ls st u v σ ρ I L => ∀ X : zCt, (∀ pc ls st u v σ ρ I L, zst scr X B mm Q pc ls st u v σ ρ I L → X pc ls st u v σ ρ I L) → X pc ls st u v σ ρ I L
/-- what a call comes to -/
def zW : Nat → zBd
  | 0 => fun _ _ _ _ _ _ _ => False
  | d + 1 => fun mm as σ ρ I L Q => (zla as).length ≤ mm.2.2.1 ∧ zR none (zW d) mm Q 0 (zen mm.2.2.1 as) [] 0 0 σ ρ I L
