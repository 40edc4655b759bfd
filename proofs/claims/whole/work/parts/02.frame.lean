/-! ===== the little machine: values, store, one instruction, blocks ===== -/
abbrev Vl : Type := Int ⊕ (Int ⊕ (Option (Nat × Nat) ⊕ Nat))
abbrev vI (x : Int) : Vl := .inl x
abbrev vL (x : Int) : Vl := .inr (.inl x)
abbrev vR (o j : Nat) : Vl := .inr (.inr (.inl (some (o, j))))
abbrev vN : Vl := .inr (.inr (.inl none))
abbrev vC (k : Nat) : Vl := .inr (.inr (.inr k))
abbrev Mem : Type := Nat → Nat → Int → Int
abbrev Lc : Type := List (Nat × Vl)
abbrev Pst : Type := Option Vl → Mem → Prop
abbrev Cle : Type := List Vl → Mem → Pst → Prop
/-- a row of code: place, instruction, length, its number, its target -/
abbrev Ent : Type := Nat × (Instr × (Nat × (Int × Nat)))
/-- a method: locals, blocks (begin, live locals, rows), fields, constants, calls, the script -/
abbrev EE : Type := Nat × (List (Nat × (List Nat × List Ent)) × (List (Nat × (Nat × Nat)) × (List (Nat × (Nat × Vl)) × (List (Nat × ((Nat × (Nat × Nat)) × Cle)) × (Nat × (Nat → Int))))))
def iI (x : Int) : Int32 := Int32.ofInt x
def lI (x : Int) : Int64 := Int64.ofInt x
def wr (x : Int) : Int := (x + 2147483648) % 4294967296 - 2147483648
def wL (x : Int) : Int := (x + 9223372036854775808) % 18446744073709551616 - 9223372036854775808
def updM (σ : Mem) (o j : Nat) (i v : Int) : Mem := fun o' j' i' => if o' = o ∧ j' = j ∧ i' = i then v else σ o' j' i'
def idv (x y : Int) : Int := (iI x / iI y).toInt
def irm (x y : Int) : Int := (iI x - iI x / iI y * iI y).toInt
def ldv (x y : Int) : Int := (lI x / lI y).toInt
def lrm (x y : Int) : Int := (lI x - lI x / lI y * lI y).toInt
def bAnd (x y : Int) : Int := (iI x &&& iI y).toInt
def bOr (x y : Int) : Int := (iI x ||| iI y).toInt
def bXor (x y : Int) : Int := (iI x ^^^ iI y).toInt
def bShl (x y : Int) : Int := (iI x <<< (iI y &&& 31)).toInt
def bShr (x y : Int) : Int := (iI x >>> (iI y &&& 31)).toInt
def bUsh (x y : Int) : Int := ((iI x).toUInt32 >>> ((iI y).toUInt32 &&& Int32.toUInt32 31)).toInt32.toInt
def bAndL (x y : Int) : Int := (lI x &&& lI y).toInt
def bOrL (x y : Int) : Int := (lI x ||| lI y).toInt
def toB (x : Int) : Int := (iI x).toInt8.toInt32.toInt
def toC (x : Int) : Int := ((iI x).toUInt32 % 65536).toInt32.toInt
def lcp (x y : Int) : Int := (lg_cmp (lI x) (lI y)).toInt
def vcat : Vl → Nat
  | .inr (.inl _) => 2
  | _ => 1
def lget : Lc → Nat → Option Vl
  | [], _ => none
  | (i, v) :: r, n => if i = n then some v else lget r n
def lset1 (env : Lc) (n : Nat) (v : Vl) : Lc := (n, v) :: env.filter (fun q => !(q.1 == n) && !(q.1 + 1 == n && vcat q.2 == 2))
def lset2 (env : Lc) (n : Nat) (v : Vl) : Lc := (n, v) :: env.filter (fun q => !(q.1 == n) && (!(q.1 == n + 1) && !(q.1 + 1 == n && vcat q.2 == 2)))
def lkF : Nat → List (Nat × (Nat × Nat)) → Option (Nat × Nat)
  | _, [] => none
  | n, e :: r => if e.1 = n then some e.2 else lkF n r
def lkK : Nat → List (Nat × (Nat × Vl)) → Option (Nat × Vl)
  | _, [] => none
  | n, e :: r => if e.1 = n then some e.2 else lkK n r
def lkC : Nat → List (Nat × ((Nat × (Nat × Nat)) × Cle)) → Option ((Nat × (Nat × Nat)) × Cle)
  | _, [] => none
  | n, e :: r => if e.1 = n then some e.2 else lkC n r
def lkB : Nat → List (Nat × (List Nat × List Ent)) → Option (List Nat × List Ent)
  | _, [] => none
  | n, e :: r => if e.1 = n then some e.2 else lkB n r
def pI (st : List Vl) (k : Int → List Vl → Prop) : Prop := match st with
  | .inl x :: r => k x r
  | _ => False
def pL (st : List Vl) (k : Int → List Vl → Prop) : Prop := match st with
  | .inr (.inl x) :: r => k x r
  | _ => False
def pV (st : List Vl) (k : Vl → List Vl → Prop) : Prop := match st with
  | v :: r => k v r
  | _ => False
def pN : Nat → List Vl → List Vl → (List Vl → List Vl → Prop) → Prop
  | 0, acc, st, k => k acc st
  | n + 1, acc, v :: st, k => pN n (v :: acc) st k
  | _ + 1, _, [], _ => False
def gI (env : Lc) (n : Nat) (k : Int → Prop) : Prop := match lget env n with
  | some (.inl x) => k x
  | _ => False
def gL (env : Lc) (n : Nat) (k : Int → Prop) : Prop := match lget env n with
  | some (.inr (.inl x)) => k x
  | _ => False
def gA (env : Lc) (n : Nat) (k : Vl → Prop) : Prop := match lget env n with
  | some (.inr (.inr (.inl (some d)))) => k (vR d.1 d.2)
  | some (.inr (.inr (.inr c))) => ¬ c = 5 ∧ k (vC c)
  | _ => False
/-- the values of the live locals of a block -/
def coll : List Nat → Lc → List Vl → (List Vl → Prop) → Prop
  | [], _, acc, k => k acc.reverse
  | n :: r, env, acc, k => match lget env n with
    | some v => coll r env (v :: acc) k
    | none => False
def jmp (E : EE) (P : Nat → List Vl → List Vl → Mem → Prop) (t : Nat) (env : Lc) (st : List Vl) (σ : Mem) : Prop := match lkB t E.2.1 with
  | some b => coll b.1 env [] (fun vals => P t vals st σ)
  | none => False
def cmpP (c : Jvm.ClassFile.Cond) (x y : Int) : Prop := match c with
  | .eq => x = y
  | .ne => ¬ x = y
  | .lt => x < y
  | .ge => y ≤ x
  | .gt => y < x
  | .le => x ≤ y
def swt (f : Nat → Prop) (x : Int) (pc : Nat) : List Int → Int → Prop
  | [], _ => True
  | off :: r, i => (x = i → f ((pc : Int) + off).toNat) ∧ swt f x pc r (i + 1)
def swl (f : Nat → Prop) (x : Int) (pc : Nat) (dflt : Int) : List (Int × Int) → Prop
  | [] => f ((pc : Int) + dflt).toNat
  | q :: r => (x = q.1 → f ((pc : Int) + q.2).toNat) ∧ (¬ x = q.1 → swl f x pc dflt r)
/-- where a class's field lies: ftab gives of class and field the kind and the length (0 int, 1 long, 2 boolean, 3 int[], 4 long[], 5 boolean[], 6 byte[], 7 Stand[], 8 Rule[], 9 an object) -/
def fvl (ci j o : Nat) (σ : Mem) : Vl := match (ftab ci j).1 with
  | 0 => vI (σ o j 0)
  | 1 => vL (σ o j 0)
  | 2 => vI (σ o j 0)
  | 9 => vR (subC ci j o) 0
  | _ => vR o (j + 1)
def getF (E : EE) (n : Nat) (st : List Vl) (σ : Mem) (k : List Vl → Prop) : Prop := match lkF n E.2.2.1 with
  | some f => match st with
    | .inr (.inr (.inl (some (o, 0)))) :: r => cls o = f.1 ∧ k (fvl f.1 f.2 o σ :: r)
    | _ => False
  | none => match lkK n E.2.2.2.1 with
    | some (4, _) => match st with
      | .inr (.inr (.inr q)) :: r => ckind q = 20 ∧ k (vI 0 :: r)
      | _ => False
    | some (5, _) => match st with
      | .inr (.inr (.inr q)) :: r => ckind q = 20 ∧ k (vC (q + 1) :: r)
      | _ => False
    | _ => False
def putF (E : EE) (n : Nat) (st : List Vl) (σ : Mem) (k : List Vl → Mem → Prop) : Prop := match lkF n E.2.2.1 with
  | some f => match st with
    | .inl x :: .inr (.inr (.inl (some (o, 0)))) :: r => cls o = f.1 ∧ ((ftab f.1 f.2).1 = 0 ∨ ((ftab f.1 f.2).1 = 2 ∧ (x = 0 ∨ x = 1))) ∧ k r (updM σ o f.2 0 x)
    | .inr (.inl x) :: .inr (.inr (.inl (some (o, 0)))) :: r => cls o = f.1 ∧ (ftab f.1 f.2).1 = 1 ∧ k r (updM σ o f.2 0 x)
    | _ => False
  | none => False
/-- the array in field j of o has this kind and length -/
def arrK (kd n o j : Nat) : Prop := ftab (cls o) j = (kd, n)
def aLd (E : EE) (kd : Nat) (st : List Vl) (σ : Mem) (mk : Int → Vl) (k : List Vl → Prop) : Prop := match st with
  | .inl i :: .inr (.inr (.inl (some (o, j + 1)))) :: r => ∃ n, arrK kd n o j ∧ (0 ≤ wr i ∧ wr i < n) ∧ k (mk (σ o j (wr i)) :: r)
  | .inl i :: .inr (.inr (.inr q)) :: r => ((q = 7 ∧ kd = 3) ∧ (0 ≤ wr i ∧ wr i < (E.2.2.2.2.2.1 : Int) - 1) ∧ k (vI (E.2.2.2.2.2.2 (wr i).toNat) :: r)) ∨ ((ckind q = 3 ∧ kd = 3) ∧ (0 ≤ wr i ∧ wr i < clen q) ∧ k (vI (cval q (wr i)) :: r))
  | _ => False
def aLdR (st : List Vl) (k : List Vl → Prop) : Prop := match st with
  | .inl i :: .inr (.inr (.inl (some (o, j + 1)))) :: r => ∃ kd n, (kd = 7 ∨ kd = 8) ∧ arrK kd n o j ∧ (0 ≤ wr i ∧ wr i < n) ∧ k (vR (eltC j (wr i)) 0 :: r)
  | _ => False
def bLd (st : List Vl) (σ : Mem) (k : List Vl → Prop) : Prop := match st with
  | .inl i :: .inr (.inr (.inl (some (o, j + 1)))) :: r => ∃ kd n, (kd = 5 ∨ kd = 6) ∧ arrK kd n o j ∧ (0 ≤ wr i ∧ wr i < n) ∧ k (vI (σ o j (wr i)) :: r)
  | .inl i :: .inr (.inr (.inr q)) :: r => ckind q = 6 ∧ (0 ≤ wr i ∧ wr i < clen q) ∧ k (vI (cval q (wr i)) :: r)
  | _ => False
def iSt (st : List Vl) (σ : Mem) (k : List Vl → Mem → Prop) : Prop := match st with
  | .inl x :: .inl i :: .inr (.inr (.inl (some (o, j + 1)))) :: r => ∃ n, arrK 3 n o j ∧ (0 ≤ wr i ∧ wr i < n) ∧ k r (updM σ o j (wr i) x)
  | _ => False
def lSt (st : List Vl) (σ : Mem) (k : List Vl → Mem → Prop) : Prop := match st with
  | .inr (.inl x) :: .inl i :: .inr (.inr (.inl (some (o, j + 1)))) :: r => ∃ n, arrK 4 n o j ∧ (0 ≤ wr i ∧ wr i < n) ∧ k r (updM σ o j (wr i) x)
  | _ => False
def bSt (st : List Vl) (σ : Mem) (k : List Vl → Mem → Prop) : Prop := match st with
  | .inl x :: .inl i :: .inr (.inr (.inl (some (o, j + 1)))) :: r => (∃ kd n, ((kd = 5 ∧ (x = 0 ∨ x = 1)) ∨ (kd = 6 ∧ -128 ≤ x ∧ x ≤ 127)) ∧ arrK kd n o j ∧ (0 ≤ wr i ∧ wr i < n) ∧ k r (updM σ o j (wr i) x)) ∨ (∃ n, arrK 5 n o j ∧ (0 ≤ wr i ∧ wr i < n) ∧ ∀ y : Int, (y = 0 ∨ y = 1) → ((x = 0 ∨ x = 1) → y = x) → k r (updM σ o j (wr i) y))
  | _ => False
def aLen (E : EE) (st : List Vl) (k : List Vl → Prop) : Prop := match st with
  | .inr (.inr (.inl (some (o, j + 1)))) :: r => ∃ kd n, (3 ≤ kd ∧ kd ≤ 8) ∧ arrK kd n o j ∧ k (vI n :: r)
  | .inr (.inr (.inr q)) :: r => ((q = 7 ∧ 0 < E.2.2.2.2.2.1) ∧ k (vI ((E.2.2.2.2.2.1 : Int) - 1) :: r)) ∨ ((ckind q = 3 ∨ ckind q = 6) ∧ k (vI (clen q) :: r))
  | _ => False
def recvOK (ci : Nat) (as : List Vl) : Prop := match as with
  | .inr (.inr (.inl (some (o, 0)))) :: _ => cls o = ci
  | .inr (.inr (.inr q)) :: _ => ckind q = 20 ∧ ci = 100
  | _ => False
/-- a call: kind (1: of an object of class number ci; 0: static), ci, number of operands -/
def calV (E : EE) (n : Nat) (st : List Vl) (σ : Mem) (k : List Vl → Mem → Prop) : Prop := match lkC n E.2.2.2.2.1 with
  | some ce => pN ce.1.2.2 [] st (fun as r => ((r.map vcat).sum ≤ 8 ∧ (ce.1.1 = 1 ∧ recvOK ce.1.2.1 as)) ∧ ∃ Q : Pst, ce.2 as σ Q ∧ ∀ v u, Q v u → k (v.toList ++ r) u)
  | none => False
def calS (E : EE) (n : Nat) (st : List Vl) (σ : Mem) (k : List Vl → Mem → Prop) : Prop := match lkC n E.2.2.2.2.1 with
  | some ce => pN ce.1.2.2 [] st (fun as r => ((r.map vcat).sum ≤ 8 ∧ ce.1.1 = 0) ∧ ∃ Q : Pst, ce.2 as σ Q ∧ ∀ v u, Q v u → k (v.toList ++ r) u)
  | none => False
/-- the three of Math that are the machine's own, else a call -/
def calM (E : EE) (n : Nat) (st : List Vl) (σ : Mem) (k : List Vl → Mem → Prop) : Prop := match lkK n E.2.2.2.1 with
  | some (6, _) => pI st (fun y st => pI st (fun x st => (st.map vcat).sum ≤ 8 ∧ k (vI (max (wr x) (wr y)) :: st) σ))
  | some (7, _) => pI st (fun y st => pI st (fun x st => (st.map vcat).sum ≤ 8 ∧ k (vI (min (wr x) (wr y)) :: st) σ))
  | some (8, _) => pL st (fun y st => pL st (fun x st => (st.map vcat).sum ≤ 8 ∧ k (vL (max (wL x) (wL y)) :: st) σ))
  | _ => calS E n st σ k
def ldK (E : EE) (n tag : Nat) (k : Vl → Prop) : Prop := match lkK n E.2.2.2.1 with
  | some e => e.1 = tag ∧ k e.2
  | none => False
def dup2P (st : List Vl) (k : List Vl → Prop) : Prop := match st with
  | .inr (.inl x) :: r => k (vL x :: vL x :: r)
  | a :: b :: r => (vcat a = 1 ∧ vcat b = 1) ∧ k (a :: b :: a :: b :: r)
  | _ => False
def rI (st : List Vl) (k : Int → Prop) : Prop := match st with
  | [.inl x] => k x
  | _ => False
def rL (st : List Vl) (k : Int → Prop) : Prop := match st with
  | [.inr (.inl x)] => k x
  | _ => False
def rA (st : List Vl) (k : Nat → Prop) : Prop := match st with
  | [.inr (.inr (.inr q))] => k q
  | _ => False
def rV (st : List Vl) (k : Prop) : Prop := match st with
  | [] => k
  | _ => False
/-- one row: k goes on behind it, P at a block's begin -/
def ins1 (E : EE) (post : Pst) (P : Nat → List Vl → List Vl → Mem → Prop) (e : Ent) (ls : Lc) (st : List Vl) (σ : Mem) (k : Lc → List Vl → Mem → Prop) : Prop :=
  match e.2.1 with
  | .iconst _ => k ls (vI e.2.2.2.1 :: st) σ
  | .bipush _ => k ls (vI e.2.2.2.1 :: st) σ
  | .sipush _ => k ls (vI e.2.2.2.1 :: st) σ
  | .lconst _ => k ls (vL e.2.2.2.1 :: st) σ
  | .ldc n => ldK E n 0 (fun v => k ls (v :: st) σ) ∨ ldK E n 2 (fun v => k ls (v :: st) σ)
  | .ldc_w n => ldK E n 0 (fun v => k ls (v :: st) σ) ∨ ldK E n 2 (fun v => k ls (v :: st) σ)
  | .ldc2_w n => ldK E n 1 (fun v => k ls (v :: st) σ)
  | .getstatic n => ldK E n 3 (fun v => k ls (v :: st) σ)
  | .iload n => gI ls n (fun x => k ls (vI x :: st) σ)
  | .iload_n n => gI ls n (fun x => k ls (vI x :: st) σ)
  | .lload n => gL ls n (fun x => k ls (vL x :: st) σ)
  | .lload_n n => gL ls n (fun x => k ls (vL x :: st) σ)
  | .aload n => gA ls n (fun v => k ls (v :: st) σ)
  | .aload_n n => gA ls n (fun v => k ls (v :: st) σ)
  | .istore n => pI st (fun x st => n < E.1 ∧ k (lset1 ls n (vI x)) st σ)
  | .istore_n n => pI st (fun x st => (n : Nat) < E.1 ∧ k (lset1 ls n (vI x)) st σ)
  | .lstore n => pL st (fun x st => n + 1 < E.1 ∧ k (lset2 ls n (vL x)) st σ)
  | .lstore_n n => pL st (fun x st => (n : Nat) + 1 < E.1 ∧ k (lset2 ls n (vL x)) st σ)
  | .astore n => pV st (fun v st => (n < E.1 ∧ match v with | .inr (.inr (.inl (some _))) => True | _ => False) ∧ k (lset1 ls n v) st σ)
  | .astore_n n => pV st (fun v st => ((n : Nat) < E.1 ∧ match v with | .inr (.inr (.inl (some _))) => True | _ => False) ∧ k (lset1 ls n v) st σ)
  | .iinc n _ => gI ls n (fun x => n < E.1 ∧ k (lset1 ls n (vI (x + e.2.2.2.1))) st σ)
  | .iadd => pI st (fun y st => pI st (fun x st => k ls (vI (x + y) :: st) σ))
  | .isub => pI st (fun y st => pI st (fun x st => k ls (vI (x - y) :: st) σ))
  | .imul => pI st (fun y st => pI st (fun x st => k ls (vI (x * y) :: st) σ))
  | .idiv => pI st (fun y st => pI st (fun x st => ¬ wr y = 0 ∧ k ls (vI (idv x y) :: st) σ))
  | .irem => pI st (fun y st => pI st (fun x st => ¬ wr y = 0 ∧ k ls (vI (irm x y) :: st) σ))
  | .iand => pI st (fun y st => pI st (fun x st => k ls (vI (bAnd x y) :: st) σ))
  | .ior => pI st (fun y st => pI st (fun x st => k ls (vI (bOr x y) :: st) σ))
  | .ixor => pI st (fun y st => pI st (fun x st => k ls (vI (bXor x y) :: st) σ))
  | .ishl => pI st (fun y st => pI st (fun x st => k ls (vI (bShl x y) :: st) σ))
  | .ishr => pI st (fun y st => pI st (fun x st => k ls (vI (bShr x y) :: st) σ))
  | .iushr => pI st (fun y st => pI st (fun x st => k ls (vI (bUsh x y) :: st) σ))
  | .ladd => pL st (fun y st => pL st (fun x st => k ls (vL (x + y) :: st) σ))
  | .lsub => pL st (fun y st => pL st (fun x st => k ls (vL (x - y) :: st) σ))
  | .lmul => pL st (fun y st => pL st (fun x st => k ls (vL (x * y) :: st) σ))
  | .ldiv => pL st (fun y st => pL st (fun x st => ¬ wL y = 0 ∧ k ls (vL (ldv x y) :: st) σ))
  | .lrem => pL st (fun y st => pL st (fun x st => ¬ wL y = 0 ∧ k ls (vL (lrm x y) :: st) σ))
  | .land => pL st (fun y st => pL st (fun x st => k ls (vL (bAndL x y) :: st) σ))
  | .lor => pL st (fun y st => pL st (fun x st => k ls (vL (bOrL x y) :: st) σ))
  | .lcmp => pL st (fun y st => pL st (fun x st => k ls (vI (lcp x y) :: st) σ))
  | .i2l => pI st (fun x st => k ls (vL (wr x) :: st) σ)
  | .l2i => pL st (fun x st => k ls (vI x :: st) σ)
  | .i2b => pI st (fun x st => k ls (vI (toB x) :: st) σ)
  | .i2c => pI st (fun x st => k ls (vI (toC x) :: st) σ)
  | .dup => pV st (fun v st => vcat v = 1 ∧ k ls (v :: v :: st) σ)
  | .dup2 => dup2P st (fun st => k ls st σ)
  | .pop => pV st (fun v st => vcat v = 1 ∧ k ls st σ)
  | .ifCond c _ => pI st (fun x st => (cmpP c (wr x) 0 → jmp E P e.2.2.2.2 ls st σ) ∧ (¬ cmpP c (wr x) 0 → k ls st σ))
  | .if_icmp c _ => pI st (fun y st => pI st (fun x st => (cmpP c (wr x) (wr y) → jmp E P e.2.2.2.2 ls st σ) ∧ (¬ cmpP c (wr x) (wr y) → k ls st σ)))
  | .goto _ => jmp E P e.2.2.2.2 ls st σ
  | .tableswitch dflt lo hi offs => pI st (fun x st => swt (fun t => jmp E P t ls st σ) (wr x) e.1 offs.toList lo ∧ (wr x < lo ∨ hi < wr x → jmp E P ((e.1 : Int) + dflt).toNat ls st σ))
  | .lookupswitch dflt ps => pI st (fun x st => swl (fun t => jmp E P t ls st σ) (wr x) e.1 dflt ps.toList)
  | .getfield n => getF E n st σ (fun st => k ls st σ)
  | .putfield n => putF E n st σ (fun st σ => k ls st σ)
  | .iaload => aLd E 3 st σ vI (fun st => k ls st σ)
  | .laload => aLd E 4 st σ vL (fun st => k ls st σ)
  | .baload => bLd st σ (fun st => k ls st σ)
  | .aaload => aLdR st (fun st => k ls st σ)
  | .iastore => iSt st σ (fun st σ => k ls st σ)
  | .lastore => lSt st σ (fun st σ => k ls st σ)
  | .bastore => bSt st σ (fun st σ => k ls st σ)
  | .arraylength => aLen E st (fun st => k ls st σ)
  | .invokevirtual n => calV E n st σ (fun st σ => k ls st σ)
  | .invokestatic n => calM E n st σ (fun st σ => k ls st σ)
  | .ireturn => rI st (fun x => post (some (vI x)) σ)
  | .lreturn => rL st (fun x => post (some (vL x)) σ)
  | .areturn => rA st (fun q => post (some (vC q)) σ)
  | .return_ => rV st (post none σ)
  | _ => False
def runL (E : EE) (post : Pst) (P : Nat → List Vl → List Vl → Mem → Prop) : List Ent → Nat → Lc → List Vl → Mem → Prop
  | [], nx, ls, st, σ => jmp E P nx ls st σ
  | e :: r, _, ls, st, σ => ins1 E post P e ls st σ (fun ls st σ => runL E post P r (e.1 + e.2.2.1) ls st σ)
def blk (E : EE) (post : Pst) (P : Nat → List Vl → List Vl → Mem → Prop) (pc : Nat) (vals st : List Vl) (σ : Mem) : Prop := match lkB pc E.2.1 with
  | some b => runL E post P b.2 pc (b.1.zip vals) st σ
  | none => False
/-- what holds of every state from which the blocks come to an end with post: the least such -/
def wps (E : EE) (post : Pst) (pc : Nat) (vals st : List Vl) (σ : Mem) : Prop := ∀ P : Nat → List Vl → List Vl → Mem → Prop, (∀ pc vals st σ, blk E post P pc vals st σ → P pc vals st σ) → P pc vals st σ
/-! ===== what a row must say of itself ===== -/
def immOK (pc : Nat) (ins : Instr) (len : Nat) (a : Int) (t : Nat) : Bool := match ins with
  | .iconst i => len == 1 && decide (Int32.ofInt i = iI a)
  | .bipush i => len == 2 && decide ((Int8.ofInt i).toInt32 = iI a)
  | .sipush i => len == 3 && decide ((Int16.ofInt i).toInt32 = iI a)
  | .lconst n => len == 1 && decide (Int64.ofNat (n : Nat) = lI a)
  | .iinc _ i => len == 3 && decide (Int32.ofInt i = iI a)
  | .ldc _ => len == 2
  | .ldc_w _ => len == 3
  | .ldc2_w _ => len == 3
  | .getstatic _ => len == 3
  | .iload _ => len == 2
  | .lload _ => len == 2
  | .aload _ => len == 2
  | .istore _ => len == 2
  | .lstore _ => len == 2
  | .astore _ => len == 2
  | .getfield _ => len == 3
  | .putfield _ => len == 3
  | .invokevirtual _ => len == 3
  | .invokestatic _ => len == 3
  | .ifCond _ off => len == 3 && decide ((pc : Int) + off = (t : Int))
  | .if_icmp _ off => len == 3 && decide ((pc : Int) + off = (t : Int))
  | .goto off => len == 3 && decide ((pc : Int) + off = (t : Int))
  | .tableswitch d lo hi offs => decide (0 ≤ (pc : Int) + d) && offs.toList.all (fun o => decide (0 ≤ (pc : Int) + o)) && decide ((offs.toList.length : Int) = hi - lo + 1)
  | .lookupswitch d ps => decide (0 ≤ (pc : Int) + d) && ps.toList.all (fun q => decide (0 ≤ (pc : Int) + q.2)) && (ps.toList.zip (ps.toList.drop 1)).all (fun (a, next) => a.1 < next.1)
  | _ => len == 1
def entOK (b : ByteArray) (e : Ent) : Bool := decide (decode b e.1 = .ok (e.2.1, e.2.2.1)) && immOK e.1 e.2.1 e.2.2.1 e.2.2.2.1 e.2.2.2.2
/-- rows one behind the other -/
def rowsOK (b : ByteArray) : Nat → List Ent → Bool
  | _, [] => true
  | nx, e :: r => (e.1 == nx) && (entOK b e && rowsOK b (e.1 + e.2.2.1) r)
def blksOK (b : ByteArray) (E : EE) : Bool := E.2.1.all (fun q => rowsOK b q.1 q.2.2)
/-! ===== monotony ===== -/
theorem pI_mono {st : List Vl} {k k' : Int → List Vl → Prop} (h : ∀ x r, k x r → k' x r) : pI st k → pI st k' := by
  unfold pI
  split
  · exact h _ _
  · exact id
theorem pL_mono {st : List Vl} {k k' : Int → List Vl → Prop} (h : ∀ x r, k x r → k' x r) : pL st k → pL st k' := by
  unfold pL
  split
  · exact h _ _
  · exact id
theorem pV_mono {st : List Vl} {k k' : Vl → List Vl → Prop} (h : ∀ x r, k x r → k' x r) : pV st k → pV st k' := by
  unfold pV
  split
  · exact h _ _
  · exact id
theorem pN_mono {k k' : List Vl → List Vl → Prop} (h : ∀ x r, k x r → k' x r) : ∀ (n : Nat) (acc st : List Vl), pN n acc st k → pN n acc st k'
  | 0, acc, st => h acc st
  | n + 1, acc, v :: st => pN_mono h n (v :: acc) st
  | n + 1, _, [] => id
theorem gI_mono {ls : Lc} {n : Nat} {k k' : Int → Prop} (h : ∀ x, k x → k' x) : gI ls n k → gI ls n k' := by
  unfold gI
  split
  · exact h _
  · exact id
theorem gL_mono {ls : Lc} {n : Nat} {k k' : Int → Prop} (h : ∀ x, k x → k' x) : gL ls n k → gL ls n k' := by
  unfold gL
  split
  · exact h _
  · exact id
theorem gA_mono {ls : Lc} {n : Nat} {k k' : Vl → Prop} (h : ∀ x, k x → k' x) : gA ls n k → gA ls n k' := by
  unfold gA
  split
  · exact h _
  · exact And.imp id (h _)
  · exact id
theorem coll_mono {k k' : List Vl → Prop} (h : ∀ x, k x → k' x) (env : Lc) : ∀ (l : List Nat) (acc : List Vl), coll l env acc k → coll l env acc k'
  | [], acc => h _
  | n :: r, acc => by
    unfold coll
    split
    · exact coll_mono h env r _
    · exact id
theorem jmp_mono {E : EE} {P P' : Nat → List Vl → List Vl → Mem → Prop} (hP : ∀ pc v st σ, P pc v st σ → P' pc v st σ) {t : Nat} {env : Lc} {st : List Vl} {σ : Mem} : jmp E P t env st σ → jmp E P' t env st σ := by
  unfold jmp
  split
  · exact coll_mono (fun _ => hP _ _ _ _) _ _ _
  · exact id
theorem swt_mono {f f' : Nat → Prop} (h : ∀ t, f t → f' t) {x : Int} {pc : Nat} : ∀ (l : List Int) (i : Int), swt f x pc l i → swt f' x pc l i
  | [], _ => id
  | _ :: r, i => And.imp (fun q e => h _ (q e)) (swt_mono h r (i + 1))
theorem swl_mono {f f' : Nat → Prop} (h : ∀ t, f t → f' t) {x : Int} {pc : Nat} {d : Int} : ∀ (l : List (Int × Int)), swl f x pc d l → swl f' x pc d l
  | [] => h _
  | _ :: r => And.imp (fun q e => h _ (q e)) (fun q e => swl_mono h r (q e))
theorem getF_mono {E : EE} {n : Nat} {st : List Vl} {σ : Mem} {k k' : List Vl → Prop} (h : ∀ r, k r → k' r) : getF E n st σ k → getF E n st σ k' := by
  unfold getF
  repeat' split
  all_goals first | exact id | exact And.imp id (h _)
theorem putF_mono {E : EE} {n : Nat} {st : List Vl} {σ : Mem} {k k' : List Vl → Mem → Prop} (h : ∀ r u, k r u → k' r u) : putF E n st σ k → putF E n st σ k' := by
  unfold putF
  repeat' split
  all_goals first | exact id | exact And.imp id (And.imp id (h _ _))
theorem aLd_mono {E : EE} {kd : Nat} {st : List Vl} {σ : Mem} {mk : Int → Vl} {k k' : List Vl → Prop} (h : ∀ r, k r → k' r) : aLd E kd st σ mk k → aLd E kd st σ mk k' := by
  unfold aLd
  split
  · exact fun ⟨n, a, b, c⟩ => ⟨n, a, b, h _ c⟩
  · exact Or.imp (And.imp id (And.imp id (h _))) (And.imp id (And.imp id (h _)))
  · exact id
theorem aLdR_mono {st : List Vl} {k k' : List Vl → Prop} (h : ∀ r, k r → k' r) : aLdR st k → aLdR st k' := by
  unfold aLdR
  split
  · exact fun ⟨kd, n, q, a, b, c⟩ => ⟨kd, n, q, a, b, h _ c⟩
  · exact id
theorem bLd_mono {st : List Vl} {σ : Mem} {k k' : List Vl → Prop} (h : ∀ r, k r → k' r) : bLd st σ k → bLd st σ k' := by
  unfold bLd
  split
  · exact fun ⟨kd, n, q, a, b, c⟩ => ⟨kd, n, q, a, b, h _ c⟩
  · exact And.imp id (And.imp id (h _))
  · exact id
theorem iSt_mono {st : List Vl} {σ : Mem} {k k' : List Vl → Mem → Prop} (h : ∀ r u, k r u → k' r u) : iSt st σ k → iSt st σ k' := by
  unfold iSt
  split
  · exact fun ⟨n, a, b, c⟩ => ⟨n, a, b, h _ _ c⟩
  · exact id
theorem lSt_mono {st : List Vl} {σ : Mem} {k k' : List Vl → Mem → Prop} (h : ∀ r u, k r u → k' r u) : lSt st σ k → lSt st σ k' := by
  unfold lSt
  split
  · exact fun ⟨n, a, b, c⟩ => ⟨n, a, b, h _ _ c⟩
  · exact id
theorem bSt_mono {st : List Vl} {σ : Mem} {k k' : List Vl → Mem → Prop} (h : ∀ r u, k r u → k' r u) : bSt st σ k → bSt st σ k' := by
  unfold bSt
  split
  · exact Or.imp (fun ⟨kd, n, q, a, b, c⟩ => ⟨kd, n, q, a, b, h _ _ c⟩) (fun ⟨n, a, b, c⟩ => ⟨n, a, b, fun y y1 y2 => h _ _ (c y y1 y2)⟩)
  · exact id
theorem aLen_mono {E : EE} {st : List Vl} {k k' : List Vl → Prop} (h : ∀ r, k r → k' r) : aLen E st k → aLen E st k' := by
  unfold aLen
  split
  · exact fun ⟨kd, n, q, a, c⟩ => ⟨kd, n, q, a, h _ c⟩
  · exact Or.imp (And.imp id (h _)) (And.imp id (h _))
  · exact id
theorem calV_mono {E : EE} {n : Nat} {st : List Vl} {σ : Mem} {k k' : List Vl → Mem → Prop} (h : ∀ r u, k r u → k' r u) : calV E n st σ k → calV E n st σ k' := by
  unfold calV
  split
  · exact pN_mono (fun as r ⟨a, Q, b, c⟩ => ⟨a, Q, b, fun v u q => h _ _ (c v u q)⟩) _ _ _
  · exact id
theorem calS_mono {E : EE} {n : Nat} {st : List Vl} {σ : Mem} {k k' : List Vl → Mem → Prop} (h : ∀ r u, k r u → k' r u) : calS E n st σ k → calS E n st σ k' := by
  unfold calS
  split
  · exact pN_mono (fun as r ⟨a, Q, b, c⟩ => ⟨a, Q, b, fun v u q => h _ _ (c v u q)⟩) _ _ _
  · exact id
theorem calM_mono {E : EE} {n : Nat} {st : List Vl} {σ : Mem} {k k' : List Vl → Mem → Prop} (h : ∀ r u, k r u → k' r u) : calM E n st σ k → calM E n st σ k' := by
  unfold calM
  split
  · exact pI_mono fun _ _ => pI_mono fun _ _ => And.imp id (h _ _)
  · exact pI_mono fun _ _ => pI_mono fun _ _ => And.imp id (h _ _)
  · exact pL_mono fun _ _ => pL_mono fun _ _ => And.imp id (h _ _)
  · exact calS_mono h
theorem ldK_mono {E : EE} {n tag : Nat} {k k' : Vl → Prop} (h : ∀ v, k v → k' v) : ldK E n tag k → ldK E n tag k' := by
  unfold ldK
  split
  · exact And.imp id (h _)
  · exact id
theorem dup2P_mono {st : List Vl} {k k' : List Vl → Prop} (h : ∀ r, k r → k' r) : dup2P st k → dup2P st k' := by
  unfold dup2P
  split
  · exact h _
  · exact And.imp id (h _)
  · exact id
theorem rI_mono {st : List Vl} {k k' : Int → Prop} (h : ∀ x, k x → k' x) : rI st k → rI st k' := by
  unfold rI
  split
  · exact h _
  · exact id
theorem rL_mono {st : List Vl} {k k' : Int → Prop} (h : ∀ x, k x → k' x) : rL st k → rL st k' := by
  unfold rL
  split
  · exact h _
  · exact id
theorem rA_mono {st : List Vl} {k k' : Nat → Prop} (h : ∀ x, k x → k' x) : rA st k → rA st k' := by
  unfold rA
  split
  · exact h _
  · exact id
theorem rV_mono {st : List Vl} {k k' : Prop} (h : k → k') : rV st k → rV st k' := by
  unfold rV
  split
  · exact h
  · exact id
set_option maxHeartbeats 4000000 in
theorem ins1_mono {E : EE} {post post' : Pst} {P P' : Nat → List Vl → List Vl → Mem → Prop} (hp : ∀ v σ, post v σ → post' v σ) (hP : ∀ pc v st σ, P pc v st σ → P' pc v st σ) {e : Ent} {ls : Lc} {st : List Vl} {σ : Mem} {k k' : Lc → List Vl → Mem → Prop} (hk : ∀ ls st σ, k ls st σ → k' ls st σ) : ins1 E post P e ls st σ k → ins1 E post' P' e ls st σ k' := by
  obtain ⟨pc, ins, len, a, t⟩ := e
  cases ins
  case iconst => exact hk _ _ _
  case bipush => exact hk _ _ _
  case sipush => exact hk _ _ _
  case lconst => exact hk _ _ _
  case ldc => exact Or.imp (ldK_mono fun _ => hk _ _ _) (ldK_mono fun _ => hk _ _ _)
  case ldc_w => exact Or.imp (ldK_mono fun _ => hk _ _ _) (ldK_mono fun _ => hk _ _ _)
  case ldc2_w => exact ldK_mono (k := fun v => k ls (v :: st) σ) (k' := fun v => k' ls (v :: st) σ) (fun _ => hk _ _ _)
  case getstatic => exact ldK_mono (k := fun v => k ls (v :: st) σ) (k' := fun v => k' ls (v :: st) σ) (fun _ => hk _ _ _)
  case iload => exact gI_mono fun _ => hk _ _ _
  case iload_n => exact gI_mono fun _ => hk _ _ _
  case lload => exact gL_mono fun _ => hk _ _ _
  case lload_n => exact gL_mono fun _ => hk _ _ _
  case aload => exact gA_mono (k := fun v => k ls (v :: st) σ) (k' := fun v => k' ls (v :: st) σ) (fun _ => hk _ _ _)
  case aload_n => exact gA_mono (k := fun v => k ls (v :: st) σ) (k' := fun v => k' ls (v :: st) σ) (fun _ => hk _ _ _)
  case istore => exact pI_mono fun _ _ => And.imp id (hk _ _ _)
  case istore_n => exact pI_mono fun _ _ => And.imp id (hk _ _ _)
  case lstore => exact pL_mono fun _ _ => And.imp id (hk _ _ _)
  case lstore_n => exact pL_mono fun _ _ => And.imp id (hk _ _ _)
  case astore => exact pV_mono fun _ _ => And.imp id (hk _ _ _)
  case astore_n => exact pV_mono fun _ _ => And.imp id (hk _ _ _)
  case iinc => exact gI_mono fun _ => And.imp id (hk _ _ _)
  case iadd => exact pI_mono fun _ _ => pI_mono fun _ _ => hk _ _ _
  case isub => exact pI_mono fun _ _ => pI_mono fun _ _ => hk _ _ _
  case imul => exact pI_mono fun _ _ => pI_mono fun _ _ => hk _ _ _
  case idiv => exact pI_mono fun _ _ => pI_mono fun _ _ => And.imp id (hk _ _ _)
  case irem => exact pI_mono fun _ _ => pI_mono fun _ _ => And.imp id (hk _ _ _)
  case iand => exact pI_mono fun _ _ => pI_mono fun _ _ => hk _ _ _
  case ior => exact pI_mono fun _ _ => pI_mono fun _ _ => hk _ _ _
  case ixor => exact pI_mono fun _ _ => pI_mono fun _ _ => hk _ _ _
  case ishl => exact pI_mono fun _ _ => pI_mono fun _ _ => hk _ _ _
  case ishr => exact pI_mono fun _ _ => pI_mono fun _ _ => hk _ _ _
  case iushr => exact pI_mono fun _ _ => pI_mono fun _ _ => hk _ _ _
  case ladd => exact pL_mono fun _ _ => pL_mono fun _ _ => hk _ _ _
  case lsub => exact pL_mono fun _ _ => pL_mono fun _ _ => hk _ _ _
  case lmul => exact pL_mono fun _ _ => pL_mono fun _ _ => hk _ _ _
  case ldiv => exact pL_mono fun _ _ => pL_mono fun _ _ => And.imp id (hk _ _ _)
  case lrem => exact pL_mono fun _ _ => pL_mono fun _ _ => And.imp id (hk _ _ _)
  case land => exact pL_mono fun _ _ => pL_mono fun _ _ => hk _ _ _
  case lor => exact pL_mono fun _ _ => pL_mono fun _ _ => hk _ _ _
  case lcmp => exact pL_mono fun _ _ => pL_mono fun _ _ => hk _ _ _
  case i2l => exact pI_mono fun _ _ => hk _ _ _
  case l2i => exact pL_mono fun _ _ => hk _ _ _
  case i2b => exact pI_mono fun _ _ => hk _ _ _
  case i2c => exact pI_mono fun _ _ => hk _ _ _
  case dup => exact pV_mono fun _ _ => And.imp id (hk _ _ _)
  case dup2 => exact dup2P_mono (k := fun st => k ls st σ) (k' := fun st => k' ls st σ) (fun _ => hk _ _ _)
  case pop => exact pV_mono fun _ _ => And.imp id (hk _ _ _)
  case ifCond => exact pI_mono fun _ _ => And.imp (fun q h => jmp_mono hP (q h)) (fun q h => hk _ _ _ (q h))
  case if_icmp => exact pI_mono fun _ _ => pI_mono fun _ _ => And.imp (fun q h => jmp_mono hP (q h)) (fun q h => hk _ _ _ (q h))
  case goto => exact jmp_mono hP
  case tableswitch => exact pI_mono fun _ _ => And.imp (swt_mono (fun _ => jmp_mono hP) _ _) (fun q h => jmp_mono hP (q h))
  case lookupswitch => exact pI_mono fun _ _ => swl_mono (fun _ => jmp_mono hP) _
  case getfield => exact getF_mono (k := fun st => k ls st σ) (k' := fun st => k' ls st σ) (fun _ => hk _ _ _)
  case putfield => exact putF_mono fun _ _ => hk _ _ _
  case iaload => exact aLd_mono (k := fun st => k ls st σ) (k' := fun st => k' ls st σ) (fun _ => hk _ _ _)
  case laload => exact aLd_mono (k := fun st => k ls st σ) (k' := fun st => k' ls st σ) (fun _ => hk _ _ _)
  case baload => exact bLd_mono (k := fun st => k ls st σ) (k' := fun st => k' ls st σ) (fun _ => hk _ _ _)
  case aaload => exact aLdR_mono (k := fun st => k ls st σ) (k' := fun st => k' ls st σ) (fun _ => hk _ _ _)
  case iastore => exact iSt_mono fun _ _ => hk _ _ _
  case lastore => exact lSt_mono fun _ _ => hk _ _ _
  case bastore => exact bSt_mono fun _ _ => hk _ _ _
  case arraylength => exact aLen_mono (k := fun st => k ls st σ) (k' := fun st => k' ls st σ) (fun _ => hk _ _ _)
  case invokevirtual => exact calV_mono fun _ _ => hk _ _ _
  case invokestatic => exact calM_mono fun _ _ => hk _ _ _
  case ireturn => exact rI_mono (k := fun x => post (some (vI x)) σ) (k' := fun x => post' (some (vI x)) σ) (fun _ => hp _ _)
  case lreturn => exact rL_mono (k := fun x => post (some (vL x)) σ) (k' := fun x => post' (some (vL x)) σ) (fun _ => hp _ _)
  case areturn => exact rA_mono (k := fun x => post (some (vC x)) σ) (k' := fun x => post' (some (vC x)) σ) (fun _ => hp _ _)
  case return_ => exact rV_mono (k := post none σ) (k' := post' none σ) (hp _ _)
  all_goals exact id
theorem runL_mono {E : EE} {post post' : Pst} {P P' : Nat → List Vl → List Vl → Mem → Prop} (hp : ∀ v σ, post v σ → post' v σ) (hP : ∀ pc v st σ, P pc v st σ → P' pc v st σ) : ∀ (l : List Ent) (nx : Nat) (ls : Lc) (st : List Vl) (σ : Mem), runL E post P l nx ls st σ → runL E post' P' l nx ls st σ
  | [], _, _, _, _ => jmp_mono hP
  | _ :: r, _, _, _, _ => ins1_mono hp hP (fun _ _ _ => runL_mono hp hP r _ _ _ _)
theorem blk_mono {E : EE} {post post' : Pst} {P P' : Nat → List Vl → List Vl → Mem → Prop} (hp : ∀ v σ, post v σ → post' v σ) (hP : ∀ pc v st σ, P pc v st σ → P' pc v st σ) {pc : Nat} {vals st : List Vl} {σ : Mem} : blk E post P pc vals st σ → blk E post' P' pc vals st σ := by
  unfold blk
  split
  · exact runL_mono hp hP _ _ _ _ _
  · exact id
theorem wps.intro {E : EE} {post : Pst} {pc : Nat} {vals st : List Vl} {σ : Mem} (h : blk E post (wps E post) pc vals st σ) : wps E post pc vals st σ := fun P hP => hP _ _ _ _ (blk_mono (fun _ _ => id) (fun _ _ _ _ q => q P hP) h)
theorem wps.mono {E : EE} {post post' : Pst} (hp : ∀ v σ, post v σ → post' v σ) {pc : Nat} {vals st : List Vl} {σ : Mem} (h : wps E post pc vals st σ) : wps E post' pc vals st σ := fun P hP => h P (fun _ _ _ _ q => hP _ _ _ _ (blk_mono hp (fun _ _ _ _ => id) q))
