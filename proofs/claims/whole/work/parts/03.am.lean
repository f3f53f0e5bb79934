/-! ===== the abstract machine: the same instructions over places instead of addresses; nothing of it is proved by running: every answer of it is the machine's (part 05) ===== -/
/-- the cells: class (below 100) or kind of array (100 int, 101 long, 102 Shelf), how many, the references -/
abbrev am_S : Type := List (Nat × Nat × List (Option Nat))
abbrev am_H : Type := am_S × (Nat → Nat → Int32) × (Nat → Nat → Int64)
abbrev am_LV : Type := List (Option Value)
/-- the static tables and the script, which nobody writes: length, contents -/
abbrev am_Z : Type := Nat → Option (Nat × (Nat → Int32))
abbrev am_F : Type := Nat × am_LV × List Value × am_H
/-- what a step gives: the next state; or an end; or a call: method, arguments, stack behind it -/
abbrev am_R : Type := am_F ⊕ (Option Value) ⊕ (am_M × List Value × List Value)
def am_upF (F : Nat → Nat → Int32) (p k : Nat) (v : Int32) : Nat → Nat → Int32 := fun q => if q = p then upd (F p) k v else F q
def am_upL (L : Nat → Nat → Int64) (p k : Nat) (v : Int64) : Nat → Nat → Int64 := fun q => if q = p then vp_updL (L p) k v else L q
def am_clr (lv : am_LV) (i : Nat) : am_LV := match i with
  | 0 => lv
  | j + 1 => match lv[j]? with
    | some (some v) => if v.category = 2 then lv.set j none else lv
    | _ => lv
def am_s1 (lv : am_LV) (i : Nat) (v : Value) : am_LV := (am_clr lv i).set i (some v)
def am_s2 (lv : am_LV) (i : Nat) (v : Value) : am_LV := ((am_clr lv i).set i (some v)).set (i + 1) none
def am_go (len k pc : Nat) (lv : am_LV) (st : List Value) (h : am_H) : Option am_R := if len = k then some (.inl (pc + k, lv, st, h)) else none
def am_tg (pc : Nat) (off : Int) : Option Nat := match (pc : Int) + off with
  | .ofNat t => some t
  | .negSucc _ => none
def am_jp (pc : Nat) (off : Int) (lv : am_LV) (st : List Value) (h : am_H) : Option am_R := match am_tg pc off with
  | some t => some (.inl (t, lv, st, h))
  | none => none
def am_br (b : Bool) (len pc : Nat) (off : Int) (lv : am_LV) (st : List Value) (h : am_H) : Option am_R := if len = 3 then (match am_tg pc off with
  | some t => if b = true then some (.inl (t, lv, st, h)) else some (.inl (pc + 3, lv, st, h))
  | none => none) else none
def am_cb (c : Jvm.ClassFile.Cond) (x y : Int32) : Bool := match c with
  | .eq => decide (x = y)
  | .ne => decide (¬ x = y)
  | .lt => decide (x < y)
  | .ge => decide (y ≤ x)
  | .gt => decide (y < x)
  | .le => decide (x ≤ y)
def am_p1 (st : List Value) (f : Int32 → List Value → Option am_R) : Option am_R := match st with
  | .int x :: r => f x r
  | _ => none
def am_p2 (st : List Value) (f : Int32 → Int32 → List Value → Option am_R) : Option am_R := match st with
  | .int y :: .int x :: r => f x y r
  | _ => none
def am_q1 (st : List Value) (f : Int64 → List Value → Option am_R) : Option am_R := match st with
  | .long x :: r => f x r
  | _ => none
def am_q2 (st : List Value) (f : Int64 → Int64 → List Value → Option am_R) : Option am_R := match st with
  | .long y :: .long x :: r => f x y r
  | _ => none
def am_a1 (st : List Value) (f : Nat → List Value → Option am_R) : Option am_R := match st with
  | .ref p :: r => f p r
  | _ => none
def am_ldi (lv : am_LV) (n : Nat) (f : Int32 → Option am_R) : Option am_R := match lv[n]? with
  | some (some (.int x)) => f x
  | _ => none
def am_ldl (lv : am_LV) (n : Nat) (f : Int64 → Option am_R) : Option am_R := match lv[n]? with
  | some (some (.long x)) => f x
  | _ => none
def am_isr (v : Value) : Bool := match v with
  | .ref _ => true
  | .null => true
  | _ => false
def am_lda (lv : am_LV) (n : Nat) (f : Value → Option am_R) : Option am_R := match lv[n]? with
  | some (some v) => if am_isr v = true then f v else none
  | _ => none
def am_sta (st : List Value) (f : Value → List Value → Option am_R) : Option am_R := match st with
  | v :: r => if am_isr v = true then f v r else none
  | _ => none
/-- the cell at a place, if it is of that kind -/
def am_at (h : am_H) (p kd : Nat) (f : Nat → List (Option Nat) → Option am_R) : Option am_R := match h.1[p]? with
  | some (k, n, rs) => if k = kd then f n rs else none
  | none => none
def am_rf (rs : List (Option Nat)) (i : Nat) : Option Nat := match rs[i]? with
  | some (some q) => some q
  | _ => none
def am_isref (ci k : Nat) : Bool := match am_ty ci k with
  | .object _ => true
  | .array _ => true
  | _ => false
def am_fv (rs : List (Option Nat)) (F : Nat → Nat → Int32) (p ci k : Nat) : Value := if am_isref ci k = true then va_rf (am_rf rs k) else .int (F p k)
def am_lt (n : Nat) (v : Value) : Bool := match v with
  | .ref q => decide (q < n) || decide (1000 ≤ q)
  | _ => true
/-- no value of a frame is a place that isn't there yet -/
def am_fresh (n : Nat) (lv : am_LV) (st : List Value) : Bool := lv.all (fun x => match x with | some v => am_lt n v | none => true) && st.all (am_lt n)
def am_oob (i : Int32) (n : Nat) : Bool := decide (i < 0 ∨ n ≤ i.toNatClampNeg)
def am_push (h : am_H) (kd n : Nat) (rs : List (Option Nat)) : am_H := (h.1 ++ [(kd, n, rs)], (fun q => if q = h.1.length then (fun _ => 0) else h.2.1 q), (fun q => if q = h.1.length then (fun _ => 0) else h.2.2 q))
def am_mk (h : am_H) (kd n : Nat) (rs : List (Option Nat)) (len k pc : Nat) (lv : am_LV) (st : List Value) : Option am_R :=
  if h.1.length < 1000 ∧ am_fresh h.1.length lv st = true then am_go len k pc lv (.ref h.1.length :: st) (am_push h kd n rs) else none
def am_wd (r : List Value) : Nat := (r.map fun v => v.category).sum
/-- a call of a site: kind k, n arguments beside the receiver -/
def am_cl (h : am_H) (M : am_M) (idx kd len : Nat) (st : List Value) : Option am_R := match am_site M.1 idx with
  | none => none
  | some (N, n, k) => if len = 3 ∧ k = kd ∧ (st.take n).length = n then
      (if kd = 1 then (if am_wd (st.drop n) ≤ 8 then some (.inr (.inr (N, (st.take n).reverse, st.drop n))) else none)
       else match st.drop n with
        | .ref p :: r => if am_wd r ≤ 8 then (if kd = 0 then some (.inr (.inr (N, .ref p :: (st.take n).reverse, r))) else am_at h p N.1 fun _ _ => some (.inr (.inr (N, .ref p :: (st.take n).reverse, r)))) else none
        | _ => none)
    else none
def am_bi (h : am_H) (d b len pc : Nat) (lv : am_LV) (st : List Value) : Option am_R := match d with
  | 0 => none
  | _ + 1 => match b with
    | 1 => am_p2 st fun x y r => if am_wd r ≤ 8 then am_go len 3 pc lv (.int (if y < x then y else x) :: r) h else none
    | 2 => am_p2 st fun x y r => if am_wd r ≤ 8 then am_go len 3 pc lv (.int (if x < y then y else x) :: r) h else none
    | 3 => am_p1 st fun x r => if am_wd r ≤ 8 then am_go len 3 pc lv (.int (if 0 ≤ x then x else 0 - x) :: r) h else none
    | 4 => match st with
      | .int n :: .int dp :: .ref a :: .int sp :: .ref a0 :: r => if am_wd r ≤ 8 then am_at h a0 101 fun n0 _ => am_at h a 101 fun n1 _ =>
          if ¬ sp < 0 ∧ ¬ dp < 0 ∧ ¬ n < 0 ∧ sp.toNatClampNeg + n.toNatClampNeg ≤ n0 ∧ dp.toNatClampNeg + n.toNatClampNeg ≤ n1 then am_go len 3 pc lv r (h.1, h.2.1, fun q => if q = a then va_cpy (h.2.2 a0) (h.2.2 a) sp.toNatClampNeg dp.toNatClampNeg n.toNatClampNeg else h.2.2 q) else none
        else none
      | _ => none
    | _ => none
def am_step (Z : am_Z) (d : Nat) (M : am_M) (pc : Nat) (lv : am_LV) (st : List Value) (h : am_H) (i : Jvm.ClassFile.Instr) (len : Nat) : Option am_R := match i with
  | .aconst_null => am_go len 1 pc lv (.null :: st) h
  | .iconst n => am_go len 1 pc lv (.int (Int32.ofInt n) :: st) h
  | .bipush n => am_go len 2 pc lv (.int (Int8.ofInt n).toInt32 :: st) h
  | .sipush n => am_go len 3 pc lv (.int (Int16.ofInt n).toInt32 :: st) h
  | .lconst n => am_go len 1 pc lv (.long (Int64.ofNat (n : Nat)) :: st) h
  | .ldc k => match am_kint M.1 k with
    | some v => am_go len 2 pc lv (.int v :: st) h
    | none => none
  | .ldc_w k => match am_kint M.1 k with
    | some v => am_go len 3 pc lv (.int v :: st) h
    | none => none
  | .ldc2_w k => match am_klong M.1 k with
    | some v => am_go len 3 pc lv (.long v :: st) h
    | none => none
  | .iload n => am_ldi lv n fun x => am_go len 2 pc lv (.int x :: st) h
  | .iload_n n => am_ldi lv n fun x => am_go len 1 pc lv (.int x :: st) h
  | .lload n => am_ldl lv n fun x => am_go len 2 pc lv (.long x :: st) h
  | .lload_n n => am_ldl lv n fun x => am_go len 1 pc lv (.long x :: st) h
  | .aload n => am_lda lv n fun v => am_go len 2 pc lv (v :: st) h
  | .aload_n n => am_lda lv n fun v => am_go len 1 pc lv (v :: st) h
  | .istore n => am_p1 st fun x r => if n < lv.length then am_go len 2 pc (am_s1 lv n (.int x)) r h else none
  | .istore_n n => am_p1 st fun x r => if (n : Nat) < lv.length then am_go len 1 pc (am_s1 lv n (.int x)) r h else none
  | .lstore n => am_q1 st fun x r => if n + 1 < lv.length then am_go len 2 pc (am_s2 lv n (.long x)) r h else none
  | .lstore_n n => am_q1 st fun x r => if (n : Nat) + 1 < lv.length then am_go len 1 pc (am_s2 lv n (.long x)) r h else none
  | .astore n => am_sta st fun v r => if n < lv.length then am_go len 2 pc (am_s1 lv n v) r h else none
  | .astore_n n => am_sta st fun v r => if (n : Nat) < lv.length then am_go len 1 pc (am_s1 lv n v) r h else none
  | .iinc n k => am_ldi lv n fun x => if n < lv.length then am_go len 3 pc (am_s1 lv n (.int (x + Int32.ofInt k))) st h else none
  | .iadd => am_p2 st fun x y r => am_go len 1 pc lv (.int (x + y) :: r) h
  | .isub => am_p2 st fun x y r => am_go len 1 pc lv (.int (x - y) :: r) h
  | .imul => am_p2 st fun x y r => am_go len 1 pc lv (.int (x * y) :: r) h
  | .idiv => am_p2 st fun x y r => if y = 0 then none else am_go len 1 pc lv (.int (x / y) :: r) h
  | .irem => am_p2 st fun x y r => if y = 0 then none else am_go len 1 pc lv (.int (x - x / y * y) :: r) h
  | .iand => am_p2 st fun x y r => am_go len 1 pc lv (.int (x &&& y) :: r) h
  | .ior => am_p2 st fun x y r => am_go len 1 pc lv (.int (x ||| y) :: r) h
  | .ixor => am_p2 st fun x y r => am_go len 1 pc lv (.int (x ^^^ y) :: r) h
  | .ishl => am_p2 st fun x y r => am_go len 1 pc lv (.int (x <<< (y &&& 31)) :: r) h
  | .ishr => am_p2 st fun x y r => am_go len 1 pc lv (.int (x >>> (y &&& 31)) :: r) h
  | .iushr => am_p2 st fun x y r => am_go len 1 pc lv (.int (x.toUInt32 >>> (y.toUInt32 &&& Int32.toUInt32 31)).toInt32 :: r) h
  | .ineg => am_p1 st fun x r => am_go len 1 pc lv (.int (-x) :: r) h
  | .i2l => am_p1 st fun x r => am_go len 1 pc lv (.long x.toInt64 :: r) h
  | .i2b => am_p1 st fun x r => am_go len 1 pc lv (.int x.toInt8.toInt32 :: r) h
  | .i2s => am_p1 st fun x r => am_go len 1 pc lv (.int x.toInt16.toInt32 :: r) h
  | .l2i => am_q1 st fun x r => am_go len 1 pc lv (.int x.toInt32 :: r) h
  | .ladd => am_q2 st fun x y r => am_go len 1 pc lv (.long (x + y) :: r) h
  | .land => am_q2 st fun x y r => am_go len 1 pc lv (.long (x &&& y) :: r) h
  | .lor => am_q2 st fun x y r => am_go len 1 pc lv (.long (x ||| y) :: r) h
  | .ldiv => am_q2 st fun x y r => if y = 0 then none else am_go len 1 pc lv (.long (x / y) :: r) h
  | .lrem => am_q2 st fun x y r => if y = 0 then none else am_go len 1 pc lv (.long (x - x / y * y) :: r) h
  | .lcmp => am_q2 st fun x y r => am_go len 1 pc lv (.int (lg_cmp x y) :: r) h
  | .lshl => match st with
    | .int y :: .long x :: r => am_go len 1 pc lv (.long (x <<< (y.toInt64 &&& 63)) :: r) h
    | _ => none
  | .dup => match st with
    | v :: r => if v.category = 1 then am_go len 1 pc lv (v :: v :: r) h else none
    | _ => none
  | .dup_x1 => match st with
    | v :: w :: r => if v.category = 1 ∧ w.category = 1 then am_go len 1 pc lv (v :: w :: v :: r) h else none
    | _ => none
  | .dup2 => match st with
    | v :: w :: r => if v.category = 1 ∧ w.category = 1 then am_go len 1 pc lv (v :: w :: v :: w :: r) h else none
    | _ => none
  | .pop => match st with
    | v :: r => if v.category = 1 then am_go len 1 pc lv r h else none
    | _ => none
  | .goto off => if len = 3 then am_jp pc off lv st h else none
  | .ifCond c off => am_p1 st fun x r => am_br (am_cb c x 0) len pc off lv r h
  | .if_icmp c off => am_p2 st fun x y r => am_br (am_cb c x y) len pc off lv r h
  | .ifnull off => match st with
    | .ref _ :: r => am_go len 3 pc lv r h
    | .null :: r => if len = 3 then am_jp pc off lv r h else none
    | _ => none
  | .ifnonnull off => match st with
    | .ref _ :: r => if len = 3 then am_jp pc off lv r h else none
    | .null :: r => am_go len 3 pc lv r h
    | _ => none
  | .tableswitch df lo hi offs => am_p1 st fun x r => if x.toInt < lo ∨ hi < x.toInt then am_jp pc df lv r h else match offs[(x.toInt - lo).toNat]? with
    | some off => am_jp pc off lv r h
    | none => none
  | .lookupswitch df ps => am_p1 st fun x r => if (ps.toList.zip (ps.toList.drop 1)).all (fun (a, next) => a.1 < next.1) = true then am_jp pc (Op.lookupswitch.offset ps.toList df x.toInt) lv r h else none
  | .getfield idx => match am_fld M.1 idx with
    | none => none
    | some (ci, k, _) => am_a1 st fun p r => am_at h p ci fun _ rs => am_go len 3 pc lv (am_fv rs h.2.1 p ci k :: r) h
  | .putfield idx => match am_fld M.1 idx with
    | none => none
    | some (ci, k, b) => match st with
      | .int x :: .ref p :: r => am_at h p ci fun _ _ => if (am_T ci k).2.2.2 = false ∧ am_isref ci k = false ∧ narrow (am_ty ci k) (.int x) = .int x ∧ fits (am_ty ci k) (.int x) = true then am_go len 3 pc lv r (h.1, am_upF h.2.1 p k x, h.2.2) else none
      | .ref q :: .ref p :: r => am_at h p ci fun n rs => if b = true ∧ (am_T ci k).2.2.2 = true ∧ M.2.1.name = "<init>" ∧ (am_T ci k).1 = am_cn M.1 ∧ am_isref ci k = true ∧ q < h.1.length ∧ k < rs.length then am_go len 3 pc lv r (h.1.set p (ci, n, rs.set k (some q)), h.2.1, h.2.2) else none
      | _ => none
  | .getstatic idx => match am_stat M.1 idx with
    | none => none
    | some j => am_go len 3 pc lv (.ref (1000 + j) :: st) h
  | .arraylength => am_a1 st fun p r => if p < 1000 then (match h.1[p]? with
      | some (k, n, _) => if k = 100 ∨ k = 101 ∨ k = 102 then am_go len 1 pc lv (.int (Int32.ofNat n) :: r) h else none
      | none => none) else if p < 1006 then (match Z (p - 1000) with
      | some z => am_go len 1 pc lv (.int (Int32.ofNat z.1) :: r) h
      | none => none) else none
  | .iaload => match st with
    | .int i :: .ref p :: r => if p < 1000 then am_at h p 100 fun n _ => if am_oob i n = true then none else am_go len 1 pc lv (.int (h.2.1 p i.toNatClampNeg) :: r) h
        else if p < 1006 then (match Z (p - 1000) with
          | some z => if am_oob i z.1 = true then none else am_go len 1 pc lv (.int (z.2 i.toNatClampNeg) :: r) h
          | none => none) else none
    | _ => none
  | .laload => match st with
    | .int i :: .ref p :: r => am_at h p 101 fun n _ => if am_oob i n = true then none else am_go len 1 pc lv (.long (h.2.2 p i.toNatClampNeg) :: r) h
    | _ => none
  | .aaload => match st with
    | .int i :: .ref p :: r => am_at h p 102 fun n rs => if am_oob i n = true then none else am_go len 1 pc lv (va_rf (am_rf rs i.toNatClampNeg) :: r) h
    | _ => none
  | .iastore => match st with
    | .int x :: .int i :: .ref p :: r => am_at h p 100 fun n _ => if am_oob i n = true then none else am_go len 1 pc lv r (h.1, am_upF h.2.1 p i.toNatClampNeg x, h.2.2)
    | _ => none
  | .lastore => match st with
    | .long x :: .int i :: .ref p :: r => am_at h p 101 fun n _ => if am_oob i n = true then none else am_go len 1 pc lv r (h.1, h.2.1, am_upL h.2.2 p i.toNatClampNeg x)
    | _ => none
  | .aastore => match st with
    | .ref q :: .int i :: .ref p :: r => am_at h p 102 fun n rs => am_at h q 8 fun _ _ => if am_oob i n = true ∨ ¬ (q < 1000 ∧ i.toNatClampNeg < rs.length) then none else am_go len 1 pc lv r (h.1.set p (102, n, rs.set i.toNatClampNeg (some q)), h.2.1, h.2.2)
    | _ => none
  | .new idx => match am_new M.1 idx with
    | none => none
    | some ci => am_mk h ci (am_nf ci) (List.replicate (am_nf ci) none) len 3 pc lv st
  | .newarray a => am_p1 st fun n r => if ¬ n < 0 ∧ n.toNatClampNeg ≤ 10000 then (match a with
      | .int => am_mk h 100 n.toNatClampNeg [] len 2 pc lv r
      | .long => am_mk h 101 n.toNatClampNeg [] len 2 pc lv r
      | _ => none) else none
  | .anewarray idx => match am_new M.1 idx with
    | some 8 => am_p1 st fun n r => if ¬ n < 0 ∧ n.toNatClampNeg ≤ 10000 then am_mk h 102 n.toNatClampNeg (List.replicate n.toNatClampNeg none) len 3 pc lv r else none
    | _ => none
  | .invokevirtual idx => am_cl h M idx 2 len st
  | .invokestatic idx => match am_blt M.1 idx with
    | 0 => am_cl h M idx 1 len st
    | b => am_bi h d b len pc lv st
  | .invokespecial idx => match am_blt M.1 idx with
    | 0 => am_cl h M idx 0 len st
    | 5 => match d with
      | 0 => none
      | _ + 1 => am_a1 st fun _ r => if am_wd r ≤ 8 then am_go len 3 pc lv r h else none
    | _ => none
  | .ireturn => match st, M.2.2.2.2 with
    | [.int v], some ty => if len = 1 ∧ narrow ty (.int v) = .int v then some (.inr (.inl (some (.int v)))) else none
    | _, _ => none
  | .lreturn => match st, M.2.2.2.2 with
    | [.long v], some .long => if len = 1 then some (.inr (.inl (some (.long v)))) else none
    | _, _ => none
  | .areturn => match st, M.2.2.2.2 with
    | [v], some (.object _) => if len = 1 ∧ am_isr v = true then some (.inr (.inl (some v))) else none
    | _, _ => none
  | .return_ => match st, M.2.2.2.2 with
    | [], none => if len = 1 then some (.inr (.inl none)) else none
    | _, _ => none
  | _ => none
