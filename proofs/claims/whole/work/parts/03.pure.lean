/-! ===== the pure machine: what an instruction does ===== -/
/-- what is not known of a local -/
abbrev pm_U : Value := .retAddr 0
def pm_fg (fs : List Nat) (L : List Value) : List Value := match fs with
  | [] => L
  | i :: r => pm_fg r (L.set i pm_U)
def pm_kill (L : List Value) (i : Nat) : List Value := match i with
  | 0 => L
  | j + 1 => match L[j]? with
    | some (.long _) => L.set j pm_U
    | some (.double _) => L.set j pm_U
    | _ => L
def pm_st (L : List Value) (i : Nat) (v : Value) : List Value := (pm_kill L i).set i v
def pm_st2 (L : List Value) (i : Nat) (v : Value) : List Value := ((pm_kill L i).set i v).set (i + 1) pm_U
def pm_lc (x y : Int64) : Int32 := lg_cmp x y
/-- instructions over locals and stack alone -/
def pm_sop (i : Instr) (v : Value) (L S : List Value) : Option (List Value × List Value) :=
  match i, S with
  | .iconst _, S => some (L, v :: S)
  | .bipush _, S => some (L, v :: S)
  | .sipush _, S => some (L, v :: S)
  | .lconst _, S => some (L, v :: S)
  | .dconst _, S => some (L, v :: S)
  | .ldc _, S => some (L, v :: S)
  | .ldc_w _, S => some (L, v :: S)
  | .ldc2_w _, S => some (L, v :: S)
  | .iload_n k, S => match L[(k : Nat)]? with
    | some (.int x) => some (L, .int x :: S)
    | _ => none
  | .iload k, S => match L[k]? with
    | some (.int x) => some (L, .int x :: S)
    | _ => none
  | .lload_n k, S => match L[(k : Nat)]? with
    | some (.long x) => some (L, .long x :: S)
    | _ => none
  | .lload k, S => match L[k]? with
    | some (.long x) => some (L, .long x :: S)
    | _ => none
  | .dload k, S => match L[k]? with
    | some (.double x) => some (L, .double x :: S)
    | _ => none
  | .aload_n k, S => match L[(k : Nat)]? with
    | some (.ref x) => some (L, .ref x :: S)
    | _ => none
  | .aload k, S => match L[k]? with
    | some (.ref x) => some (L, .ref x :: S)
    | _ => none
  | .istore_n k, .int x :: S => some (pm_st L k (.int x), S)
  | .istore k, .int x :: S => some (pm_st L k (.int x), S)
  | .astore_n k, .ref x :: S => some (pm_st L k (.ref x), S)
  | .astore k, .ref x :: S => some (pm_st L k (.ref x), S)
  | .lstore_n k, .long x :: S => some (pm_st2 L k (.long x), S)
  | .lstore k, .long x :: S => some (pm_st2 L k (.long x), S)
  | .dstore k, .double x :: S => some (pm_st2 L k (.double x), S)
  | .iinc i _, S => match L[i]?, v with
    | some (.int x), .int c => some (pm_st L i (.int (x + c)), S)
    | _, _ => none
  | .iadd, .int y :: .int x :: S => some (L, .int (x + y) :: S)
  | .isub, .int y :: .int x :: S => some (L, .int (x - y) :: S)
  | .imul, .int y :: .int x :: S => some (L, .int (x * y) :: S)
  | .iand, .int y :: .int x :: S => some (L, .int (x &&& y) :: S)
  | .ior, .int y :: .int x :: S => some (L, .int (x ||| y) :: S)
  | .ixor, .int y :: .int x :: S => some (L, .int (x ^^^ y) :: S)
  | .ineg, .int x :: S => some (L, .int (-x) :: S)
  | .ishl, .int y :: .int x :: S => some (L, .int (x <<< (y &&& 31)) :: S)
  | .ishr, .int y :: .int x :: S => some (L, .int (x >>> (y &&& 31)) :: S)
  | .ladd, .long y :: .long x :: S => some (L, .long (x + y) :: S)
  | .lsub, .long y :: .long x :: S => some (L, .long (x - y) :: S)
  | .lmul, .long y :: .long x :: S => some (L, .long (x * y) :: S)
  | .land, .long y :: .long x :: S => some (L, .long (x &&& y) :: S)
  | .lor, .long y :: .long x :: S => some (L, .long (x ||| y) :: S)
  | .lxor, .long y :: .long x :: S => some (L, .long (x ^^^ y) :: S)
  | .lushr, .int y :: .long x :: S => some (L, .long (x.toUInt64 >>> (y.toInt64.toUInt64 &&& Int64.toUInt64 63)).toInt64 :: S)
  | .lshl, .int y :: .long x :: S => some (L, .long (x <<< (y.toInt64 &&& 63)) :: S)
  | .lshr, .int y :: .long x :: S => some (L, .long (x >>> (y.toInt64 &&& 63)) :: S)
  | .i2l, .int x :: S => some (L, .long x.toInt64 :: S)
  | .l2i, .long x :: S => some (L, .int x.toInt32 :: S)
  | .i2b, .int x :: S => some (L, .int x.toInt8.toInt32 :: S)
  | .i2c, .int x :: S => some (L, .int (x.toUInt32 % 65536).toInt32 :: S)
  | .l2d, .long x :: S => some (L, .double (FP.l2d x) :: S)
  | .lcmp, .long y :: .long x :: S => some (L, .int (lg_cmp x y) :: S)
  | .dcmp op, .double y :: .double x :: S => some (L, .int (Op.cmpValue (FP.dcmp x y) op) :: S)
  | .dup, .int x :: S => some (L, .int x :: .int x :: S)
  | .dup, .ref x :: S => some (L, .ref x :: .ref x :: S)
  | .dup2, .int y :: .ref x :: S => some (L, .int y :: .ref x :: .int y :: .ref x :: S)
  | _, _ => none
/-- branches: what is asked, whether the answer yes falls through, the stack -/
def pm_bop (i : Instr) (S : List Value) : Option (Prop × Bool × List Value) :=
  match i, S with
  | .ifCond .eq _, .int x :: S => some (x = 0, false, S)
  | .ifCond .ne _, .int x :: S => some (x = 0, true, S)
  | .ifCond .lt _, .int x :: S => some (x < 0, false, S)
  | .ifCond .ge _, .int x :: S => some (0 ≤ x, false, S)
  | .ifCond .gt _, .int x :: S => some (0 < x, false, S)
  | .ifCond .le _, .int x :: S => some (x ≤ 0, false, S)
  | .if_icmp .eq _, .int y :: .int x :: S => some (x = y, false, S)
  | .if_icmp .ne _, .int y :: .int x :: S => some (x = y, true, S)
  | .if_icmp .lt _, .int y :: .int x :: S => some (x < y, false, S)
  | .if_icmp .ge _, .int y :: .int x :: S => some (y ≤ x, false, S)
  | .if_icmp .gt _, .int y :: .int x :: S => some (y < x, false, S)
  | .if_icmp .le _, .int y :: .int x :: S => some (x ≤ y, false, S)
  | _, _ => none
/-- instructions that read a cell: what must hold, the value, the rest of the stack -/
def pm_rd (i : Instr) (v : Value) (x y : Nat) (S : List Value) (σ : pm_H) : Option (Option Prop × Value × List Value) :=
  match i, v, S with
  | .getfield _, .int _, .ref a :: S => some (some (pm_t σ a = x), .int (iv (pm_F σ y a)), S)
  | .getfield _, .long _, .ref a :: S => some (some (pm_t σ a = x), .long (jv (pm_F σ y a)), S)
  | .getfield _, .null, .ref a :: S => some (some (pm_t σ a = x ∧ isr (pm_F σ y a) = true), .ref (rv (pm_F σ y a)), S)
  | .iaload, _, .int j :: .ref a :: S => some (some (pm_t σ a = x ∧ vp_in j (pm_l σ a)), .int (iv (pm_A σ a j.toNatClampNeg)), S)
  | .baload, _, .int j :: .ref a :: S => some (some (pm_t σ a = x ∧ vp_in j (pm_l σ a)), .int (iv (pm_A σ a j.toNatClampNeg)), S)
  | .caload, _, .int j :: .ref a :: S => some (some (pm_t σ a = x ∧ vp_in j (pm_l σ a)), .int (iv (pm_A σ a j.toNatClampNeg)), S)
  | .laload, _, .int j :: .ref a :: S => some (some (pm_t σ a = x ∧ vp_in j (pm_l σ a)), .long (jv (pm_A σ a j.toNatClampNeg)), S)
  | .daload, _, .int j :: .ref a :: S => some (some (pm_t σ a = x ∧ vp_in j (pm_l σ a)), .double (dv (pm_A σ a j.toNatClampNeg)), S)
  | .aaload, _, .int j :: .ref a :: S => some (some (pm_t σ a = x ∧ vp_in j (pm_l σ a) ∧ isr (pm_A σ a j.toNatClampNeg) = true), .ref (rv (pm_A σ a j.toNatClampNeg)), S)
  | .arraylength, _, .ref a :: S => some (some (pm_t σ a = x), .int (Int32.ofNat (pm_l σ a)), S)
  | _, _, _ => none
/-- instructions that write or make cells: what must hold, the stack, the heap -/
def pm_wr (i : Instr) (v : Value) (x y : Nat) (S : List Value) (σ : pm_H) : Option (Option Prop × List Value × pm_H) :=
  match i, v, S with
  | .putfield _, .int _, .int z :: .ref a :: S => some (some (pm_t σ a = x), S, pm_sF σ y a (.int z))
  | .putfield _, .float _, .int z :: .ref a :: S => some (some (pm_t σ a = x ∧ z &&& 1 = z), S, pm_sF σ y a (.int z))
  | .putfield _, .long _, .long z :: .ref a :: S => some (some (pm_t σ a = x), S, pm_sF σ y a (.long z))
  | .putfield _, .null, .ref z :: .ref a :: S => some (some (pm_t σ a = x), S, pm_sF σ y a (.ref z))
  | .iastore, _, .int z :: .int j :: .ref a :: S => some (some (pm_t σ a = x ∧ vp_in j (pm_l σ a)), S, pm_sA σ a j.toNatClampNeg (.int z))
  | .bastore, .float _, .int z :: .int j :: .ref a :: S => some (some (pm_t σ a = x ∧ vp_in j (pm_l σ a)), S, pm_sA σ a j.toNatClampNeg (.int (vp_nar .boolean z)))
  | .bastore, .int _, .int z :: .int j :: .ref a :: S => some (some (pm_t σ a = x ∧ vp_in j (pm_l σ a)), S, pm_sA σ a j.toNatClampNeg (.int (vp_nar .byte z)))
  | .castore, _, .int z :: .int j :: .ref a :: S => some (some (pm_t σ a = x ∧ vp_in j (pm_l σ a)), S, pm_sA σ a j.toNatClampNeg (.int (vp_nar .char z)))
  | .lastore, _, .long z :: .int j :: .ref a :: S => some (some (pm_t σ a = x ∧ vp_in j (pm_l σ a)), S, pm_sA σ a j.toNatClampNeg (.long z))
  | .dastore, _, .double z :: .int j :: .ref a :: S => some (some (pm_t σ a = x ∧ vp_in j (pm_l σ a)), S, pm_sA σ a j.toNatClampNeg (.double z))
  | .aastore, _, .ref z :: .int j :: .ref a :: S => some (some (pm_t σ a = x ∧ vp_in j (pm_l σ a) ∧ pm_t σ z = y), S, pm_sA σ a j.toNatClampNeg (.ref z))
  | .new _, _, S => some (none, .ref (pm_n σ) :: S, pm_new σ x 0 y)
  | .newarray _, _, .int z :: S => some (some (¬ z < 0 ∧ z.toNatClampNeg ≤ 1000000), .ref (pm_n σ) :: S, pm_new σ x z.toNatClampNeg z.toNatClampNeg)
  | .anewarray _, _, .int z :: S => some (some (¬ z < 0 ∧ z.toNatClampNeg ≤ 1000000), .ref (pm_n σ) :: S, pm_new σ x z.toNatClampNeg z.toNatClampNeg)
  | .nop, _, [.int n, .int dp, .ref a, .int sp, .ref a0] => some (some (pm_t σ a0 = x ∧ pm_t σ a = x ∧ ¬ sp < 0 ∧ ¬ dp < 0 ∧ ¬ n < 0 ∧ sp.toNatClampNeg + n.toNatClampNeg ≤ pm_l σ a0 ∧ dp.toNatClampNeg + n.toNatClampNeg ≤ pm_l σ a), [], pm_cp σ a0 sp.toNatClampNeg a dp.toNatClampNeg n.toNatClampNeg)
  | _, _, _ => none
def pm_cat (S : List Value) : Nat := match S with
  | [] => 0
  | v :: r => v.category + pm_cat r
/-- instructions that ask for something of the stack alone -/
def pm_cd (i : Instr) (S : List Value) : Option (Option Prop × List Value) :=
  match i, S with
  | .idiv, .int z :: .int u :: S => some (some (¬ z = 0), .int (u / z) :: S)
  | .irem, .int z :: .int u :: S => some (some (¬ z = 0), .int (u - u / z * z) :: S)
  | .ddiv, .double z :: .double u :: S => some (some (vf_n64 (FP.ddiv u z)), .double (FP.ddiv u z) :: S)
  | .pop, [.ref _] => some (none, [])
  | .dup_x1, .int y :: .int x :: S => match Nat.ble (pm_cat S) 100 with
    | true => some (none, .int (if x < y then y else x) :: S)
    | false => none
  | .dup_x2, .int y :: .int x :: S => match Nat.ble (pm_cat S) 100 with
    | true => some (none, .int (if y < x then y else x) :: S)
    | false => none
  | _, _ => none
/-- how a call ends: it returns (a value), or throws one of the five classes -/
abbrev pm_O : Type := Option Value ⊕ Nat
def pm_rop (i : Instr) (x : Nat) (S : List Value) : Option (Option Prop × pm_O) :=
  match i, x, S with
  | .ireturn, 0, [.int z] => some (none, .inl (some (.int z)))
  | .ireturn, _ + 1, [.int z] => some (some (z &&& 1 = z), .inl (some (.int z)))
  | .lreturn, _, [.long z] => some (none, .inl (some (.long z)))
  | .dreturn, _, [.double z] => some (none, .inl (some (.double z)))
  | .areturn, _, [.ref z] => some (none, .inl (some (.ref z)))
  | .return_, _, [] => some (none, .inl none)
  | _, _, _ => none
def pm_op (p : Option Prop) : Prop := match p with
  | none => True
  | some p => p
def pm_ad (p : Option Prop) (K : Prop) : Prop := match p with
  | none => K
  | some p => p ∧ K
theorem pm_ad_iff {p : Option Prop} {K : Prop} : pm_ad p K ↔ pm_op p ∧ K := by cases p <;> simp [pm_ad, pm_op]
def pm_push (mk : Value) (r : Option Value) (S : List Value) : Option (List Value) := match mk, r with
  | .int _, some (.int x) => some (.int x :: S)
  | .long _, some (.long x) => some (.long x :: S)
  | .double _, some (.double x) => some (.double x :: S)
  | .null, some (.ref x) => some (.ref x :: S)
  | .retAddr _, none => some S
  | _, _ => none
/-- the locals at a method's entry -/
def pm_flat (As : List Value) : List Value := match As with
  | [] => []
  | .long x :: r => .long x :: pm_U :: pm_flat r
  | .double x :: r => .double x :: pm_U :: pm_flat r
  | v :: r => v :: pm_flat r
def pm_ent (As : List Value) (n : Nat) : List Value := pm_flat As ++ List.replicate (n - (pm_flat As).length) pm_U
/-- the receiver's class -/
def pm_rcv (σ : pm_H) (y : Nat) (As : List Value) : Option Prop := match y, As with
  | 0, _ => none
  | y + 1, .ref a :: _ => some (pm_t σ a = y + 1)
  | _, _ => some False
def pm_isc (i : Instr) : Bool := match i with
  | .invokestatic _ => true
  | .invokevirtual _ => true
  | .invokespecial _ => true
  | _ => false
def pm_sw (z : Int32) (lo : Nat) (tg : List Nat) (dflt : Nat) : Nat := if z.toInt < lo then dflt else (tg[(z.toInt - lo).toNat]?).getD dflt
noncomputable def pm_if {α : Type} (p : Prop) (a b : α) : α := @ite α p (Classical.propDecidable p) a b
theorem pm_if_t {α : Type} {p : Prop} {a b : α} (h : p) : pm_if p a b = a := if_pos h
theorem pm_if_f {α : Type} {p : Prop} {a b : α} (h : ¬ p) : pm_if p a b = b := if_neg h
noncomputable def pm_step (rec : Nat → Nat → Nat → List Value → List Value → pm_H → Option (pm_O × pm_H)) (d m k : Nat) (L S : List Value) (σ : pm_H) : Option (pm_O × pm_H) :=
    match (pm_prog m).2.2[k]? with
    | none => none
    | some (_, i, _, v, x, y, nx, f1, f2, _, c2, hs) =>
      match pm_sop i v L S with
      | some (L', S') => rec d m nx (pm_fg f1 L') S' σ
      | none =>
      match pm_rd i v x y S σ with
      | some (p, w, S') => pm_if (pm_op p) (rec d m nx (pm_fg f1 L) (w :: S') σ) none
      | none =>
      match pm_wr i v x y S σ with
      | some (p, S', σ') => pm_if (pm_op p) (rec d m nx (pm_fg f1 L) S' σ') none
      | none =>
      match pm_cd i S with
      | some (p, S') => pm_if (pm_op p) (rec d m nx (pm_fg f1 L) S' σ) none
      | none =>
      match pm_bop i S with
      | some (p, sw, S') => pm_if p (if sw then rec d m nx (pm_fg f1 L) S' σ else rec d m x (pm_fg f2 L) S' σ) (if sw then rec d m x (pm_fg f2 L) S' σ else rec d m nx (pm_fg f1 L) S' σ)
      | none =>
      match pm_rop i x S with
      | some (p, o) => pm_if (pm_op p) (some (o, σ)) none
      | none =>
      match i, S with
      | .goto _, S => rec d m x (pm_fg f2 L) S σ
      | .athrow, [] => some (.inr x, pm_thr σ)
      | .tableswitch _ _ _ _, .int z :: S => rec d m (pm_sw z y f2 x) (pm_fg f1 L) S σ
      | i, S =>
        if pm_isc i then
          match d with
          | 0 => none
          | d' + 1 =>
            pm_if ((pm_prog x).1 ≤ S.length ∧ pm_cat (S.drop (pm_prog x).1) ≤ 8 ∧ (pm_flat (S.take (pm_prog x).1).reverse).length ≤ (pm_prog x).2.1 ∧ pm_op (pm_rcv σ y (S.take (pm_prog x).1).reverse))
              (match rec d' x 0 (pm_ent (S.take (pm_prog x).1).reverse (pm_prog x).2.1) [] σ with
              | none => none
              | some (.inl r, σ1) => match pm_push v r (S.drop (pm_prog x).1) with
                | none => none
                | some S' => rec (d' + 1) m nx (pm_fg f1 L) S' σ1
              | some (.inr E, σ1) => if c2 then none else match hs.lookup E with
                | some h => rec (d' + 1) m h [] [] σ1
                | none => if hs.isEmpty then some (.inr E, σ1) else none) none
        else none

noncomputable def pm_exec : Nat → Nat → Nat → Nat → List Value → List Value → pm_H → Option (pm_O × pm_H)
  | 0, _, _, _, _, _, _ => none
  | n + 1, d, m, k, L, S, σ => pm_step (pm_exec n) d m k L S σ
/-! ===== runs, and what must hold ahead of a stretch ===== -/
/-- from place k of method m, with locals L and stack S, the run ends, so that Q holds -/
def pm_R (d m k : Nat) (L S : List Value) (σ : pm_H) (Q : pm_O → pm_H → Prop) : Prop := ∃ (n : Nat) (o : pm_O) (σ' : pm_H), pm_exec n d m k L S σ = some (o, σ') ∧ Q o σ'
def pm_C (d m : Nat) (As : List Value) (σ : pm_H) (Q : pm_O → pm_H → Prop) : Prop := pm_R d m 0 (pm_ent As (pm_prog m).2.1) [] σ Q
def pm_kI (K : Int32 → pm_H → Prop) (X : Nat → pm_H → Prop) (o : pm_O) (σ : pm_H) : Prop := match o with
  | .inl (some (.int x)) => K x σ
  | .inr E => X E σ
  | _ => False
def pm_kJ (K : Int64 → pm_H → Prop) (X : Nat → pm_H → Prop) (o : pm_O) (σ : pm_H) : Prop := match o with
  | .inl (some (.long x)) => K x σ
  | .inr E => X E σ
  | _ => False
def pm_kD (K : UInt64 → pm_H → Prop) (X : Nat → pm_H → Prop) (o : pm_O) (σ : pm_H) : Prop := match o with
  | .inl (some (.double x)) => K x σ
  | .inr E => X E σ
  | _ => False
def pm_kR (K : Nat → pm_H → Prop) (X : Nat → pm_H → Prop) (o : pm_O) (σ : pm_H) : Prop := match o with
  | .inl (some (.ref x)) => K x σ
  | .inr E => X E σ
  | _ => False
def pm_kV (K : pm_H → Prop) (X : Nat → pm_H → Prop) (o : pm_O) (σ : pm_H) : Prop := match o with
  | .inl none => K σ
  | .inr E => X E σ
  | _ => False
/-- what is due when a callee throws -/
def pm_kX (d m : Nat) (c2 : Bool) (hs : List (Nat × Nat)) (Q : pm_O → pm_H → Prop) (E : Nat) (σ : pm_H) : Prop := match c2 with
  | true => False
  | false => match hs.lookup E with
    | some h => pm_R d m h [] [] σ Q
    | none => match hs with
      | [] => Q (.inr E) σ
      | _ :: _ => False
def pm_kk (mk : Value) (S : List Value) (K : List Value → pm_H → Prop) (X : Nat → pm_H → Prop) : pm_O → pm_H → Prop := match mk with
  | .int _ => pm_kI (fun x σ => K (.int x :: S) σ) X
  | .long _ => pm_kJ (fun x σ => K (.long x :: S) σ) X
  | .double _ => pm_kD (fun x σ => K (.double x :: S) σ) X
  | .null => pm_kR (fun x σ => K (.ref x :: S) σ) X
  | .retAddr _ => pm_kV (fun σ => K S σ) X
  | _ => fun _ _ => False
/-- a value gets a name -/
def pm_nm (v : Value) (K : Value → Prop) : Prop := match v with
  | .int a => ∀ z, z = a → K (.int z)
  | .long a => ∀ z, z = a → K (.long z)
  | .double a => ∀ z, z = a → K (.double z)
  | .ref a => ∀ z, z = a → K (.ref z)
  | v => K v
theorem pm_nm_at {v : Value} {K : Value → Prop} (h : pm_nm v K) : K v := by cases v <;> first | exact h | exact h _ rfl
def pm_wp : Nat → Nat → Nat → List pm_E → List pm_E → List Value → List Value → pm_H → (pm_O → pm_H → Prop) → Prop
  | 0, _, _, _, _, _, _, _, _ => False
  | _ + 1, _, _, _, [], _, _, _, _ => False
  | n + 1, d, m, C, (_, i, _, v, x, y, nx, f1, f2, c1, c2, hs) :: tl, L, S, σ, Q =>
    match pm_sop i v L S with
    | some (L', S') => bif c1 then pm_R d m nx (pm_fg f1 L') S' σ Q else pm_wp n d m C tl (pm_fg f1 L') S' σ Q
    | none =>
    match pm_rd i v x y S σ with
    | some (p, w, S') => pm_ad p (pm_nm w (fun w => bif c1 then pm_R d m nx (pm_fg f1 L) (w :: S') σ Q else pm_wp n d m C tl (pm_fg f1 L) (w :: S') σ Q))
    | none =>
    match pm_wr i v x y S σ with
    | some (p, S', σ') => pm_ad p (∀ τ, τ = σ' → bif c1 then pm_R d m nx (pm_fg f1 L) S' τ Q else pm_wp n d m C tl (pm_fg f1 L) S' τ Q)
    | none =>
    match pm_cd i S with
    | some (p, S') => pm_ad p (bif c1 then pm_R d m nx (pm_fg f1 L) S' σ Q else pm_wp n d m C tl (pm_fg f1 L) S' σ Q)
    | none =>
    match pm_bop i S with
    | some (p, true, S') => (p → bif c1 then pm_R d m nx (pm_fg f1 L) S' σ Q else pm_wp n d m C tl (pm_fg f1 L) S' σ Q) ∧ (¬ p → bif c2 then pm_R d m x (pm_fg f2 L) S' σ Q else pm_wp n d m C (C.drop x) (pm_fg f2 L) S' σ Q)
    | some (p, false, S') => (p → bif c2 then pm_R d m x (pm_fg f2 L) S' σ Q else pm_wp n d m C (C.drop x) (pm_fg f2 L) S' σ Q) ∧ (¬ p → bif c1 then pm_R d m nx (pm_fg f1 L) S' σ Q else pm_wp n d m C tl (pm_fg f1 L) S' σ Q)
    | none =>
    match pm_rop i x S with
    | some (p, o) => pm_ad p (Q o σ)
    | none =>
    match i, S with
    | .goto _, S => bif c2 then pm_R d m x (pm_fg f2 L) S σ Q else pm_wp n d m C (C.drop x) (pm_fg f2 L) S σ Q
    | .athrow, [] => Q (.inr x) (pm_thr σ)
    | .tableswitch _ _ _ _, .int z :: S => pm_R d m (pm_sw z y f2 x) (pm_fg f1 L) S σ Q
    | i, S =>
      match pm_isc i, d with
      | true, d' + 1 =>
        match Nat.ble (pm_prog x).1 S.length && (Nat.ble (pm_cat (S.drop (pm_prog x).1)) 8 && Nat.ble (pm_flat (S.take (pm_prog x).1).reverse).length (pm_prog x).2.1) with
        | true => pm_ad (pm_rcv σ y (S.take (pm_prog x).1).reverse) (pm_C d' x (S.take (pm_prog x).1).reverse σ (pm_kk v (S.drop (pm_prog x).1) (fun S' σ1 => bif c1 then pm_R (d' + 1) m nx (pm_fg f1 L) S' σ1 Q else pm_wp n (d' + 1) m C tl (pm_fg f1 L) S' σ1 Q) (pm_kX (d' + 1) m c2 hs Q)))
        | false => False
      | _, _ => False
