/-! ===== a step that makes no cell and writes no reference leaves the list of cells as it was ===== -/
def am_isA (i : Jvm.ClassFile.Instr) (st : List Value) : Bool := match i with
  | .new _ => true
  | .newarray _ => true
  | .anewarray _ => true
  | .aastore => true
  | .putfield _ => (match st with
    | .ref _ :: _ => true
    | _ => false)
  | _ => false
def am_SSa (Z : am_Z) (i : Jvm.ClassFile.Instr) : Prop := ∀ (d : Nat) (M : am_M) (pc len : Nat) (lv lv' : am_LV) (st st' : List Value) (h h' : am_H) (pc' : Nat), am_isA i st = false → am_step Z d M pc lv st h i len = some (.inl (pc', lv', st', h')) → h'.1 = h.1
theorem am_sa_aconst_null (Z : am_Z) : am_SSa Z (.aconst_null) := by
  intro d M pc len lv lv' st st' h h' pc' hA hs
  replace hs : (am_go len 1 pc lv (.null :: st) h) = some (Sum.inl (pc', lv', st', h')) := hs
  obtain ⟨rfl, rfl, rfl, rfl, rfl⟩ := am_go_some hs
  first | rfl | exact absurd (show true = false from hA) (by decide)
theorem am_sa_iconst (Z : am_Z) (n : Int) : am_SSa Z (.iconst n) := by
  intro d M pc len lv lv' st st' h h' pc' hA hs
  replace hs : (am_go len 1 pc lv (.int (Int32.ofInt n) :: st) h) = some (Sum.inl (pc', lv', st', h')) := hs
  obtain ⟨rfl, rfl, rfl, rfl, rfl⟩ := am_go_some hs
  first | rfl | exact absurd (show true = false from hA) (by decide)
theorem am_sa_bipush (Z : am_Z) (n : Int) : am_SSa Z (.bipush n) := by
  intro d M pc len lv lv' st st' h h' pc' hA hs
  replace hs : (am_go len 2 pc lv (.int (Int8.ofInt n).toInt32 :: st) h) = some (Sum.inl (pc', lv', st', h')) := hs
  obtain ⟨rfl, rfl, rfl, rfl, rfl⟩ := am_go_some hs
  first | rfl | exact absurd (show true = false from hA) (by decide)
theorem am_sa_sipush (Z : am_Z) (n : Int) : am_SSa Z (.sipush n) := by
  intro d M pc len lv lv' st st' h h' pc' hA hs
  replace hs : (am_go len 3 pc lv (.int (Int16.ofInt n).toInt32 :: st) h) = some (Sum.inl (pc', lv', st', h')) := hs
  obtain ⟨rfl, rfl, rfl, rfl, rfl⟩ := am_go_some hs
  first | rfl | exact absurd (show true = false from hA) (by decide)
theorem am_sa_lconst (Z : am_Z) (n : Fin 2) : am_SSa Z (.lconst n) := by
  intro d M pc len lv lv' st st' h h' pc' hA hs
  replace hs : (am_go len 1 pc lv (.long (Int64.ofNat (n : Nat)) :: st) h) = some (Sum.inl (pc', lv', st', h')) := hs
  obtain ⟨rfl, rfl, rfl, rfl, rfl⟩ := am_go_some hs
  first | rfl | exact absurd (show true = false from hA) (by decide)
theorem am_sa_ldc (Z : am_Z) (k : Nat) : am_SSa Z (.ldc k) := by
  intro d M pc len lv lv' st st' h h' pc' hA hs
  replace hs : (match am_kint M.1 k with | some v => am_go len 2 pc lv (.int v :: st) h | none => none) = some (Sum.inl (pc', lv', st', h')) := hs
  cases hk : am_kint M.1 k with
  | none => rw [hk] at hs; cases hs
  | some v =>
    rw [hk] at hs
    obtain ⟨rfl, rfl, rfl, rfl, rfl⟩ := am_go_some hs
    first | rfl | exact absurd (show true = false from hA) (by decide)
theorem am_sa_ldc_w (Z : am_Z) (k : Nat) : am_SSa Z (.ldc_w k) := by
  intro d M pc len lv lv' st st' h h' pc' hA hs
  replace hs : (match am_kint M.1 k with | some v => am_go len 3 pc lv (.int v :: st) h | none => none) = some (Sum.inl (pc', lv', st', h')) := hs
  cases hk : am_kint M.1 k with
  | none => rw [hk] at hs; cases hs
  | some v =>
    rw [hk] at hs
    obtain ⟨rfl, rfl, rfl, rfl, rfl⟩ := am_go_some hs
    first | rfl | exact absurd (show true = false from hA) (by decide)
theorem am_sa_ldc2_w (Z : am_Z) (k : Nat) : am_SSa Z (.ldc2_w k) := by
  intro d M pc len lv lv' st st' h h' pc' hA hs
  replace hs : (match am_klong M.1 k with | some v => am_go len 3 pc lv (.long v :: st) h | none => none) = some (Sum.inl (pc', lv', st', h')) := hs
  cases hk : am_klong M.1 k with
  | none => rw [hk] at hs; cases hs
  | some v =>
    rw [hk] at hs
    obtain ⟨rfl, rfl, rfl, rfl, rfl⟩ := am_go_some hs
    first | rfl | exact absurd (show true = false from hA) (by decide)
theorem am_sa_iload (Z : am_Z) (n : Nat) : am_SSa Z (.iload n) := by
  intro d M pc len lv lv' st st' h h' pc' hA hs
  replace hs : (am_ldi lv n fun x => am_go len 2 pc lv (.int x :: st) h) = some (Sum.inl (pc', lv', st', h')) := hs
  have hs2 := am_ldi_some hs
  clear hs
  obtain ⟨x, hv, hs⟩ := hs2
  obtain ⟨rfl, rfl, rfl, rfl, rfl⟩ := am_go_some hs
  first | rfl | exact absurd (show true = false from hA) (by decide)
theorem am_sa_iload_n (Z : am_Z) (n : Fin 4) : am_SSa Z (.iload_n n) := by
  intro d M pc len lv lv' st st' h h' pc' hA hs
  replace hs : (am_ldi lv n fun x => am_go len 1 pc lv (.int x :: st) h) = some (Sum.inl (pc', lv', st', h')) := hs
  have hs2 := am_ldi_some hs
  clear hs
  obtain ⟨x, hv, hs⟩ := hs2
  obtain ⟨rfl, rfl, rfl, rfl, rfl⟩ := am_go_some hs
  first | rfl | exact absurd (show true = false from hA) (by decide)
theorem am_sa_lload (Z : am_Z) (n : Nat) : am_SSa Z (.lload n) := by
  intro d M pc len lv lv' st st' h h' pc' hA hs
  replace hs : (am_ldl lv n fun x => am_go len 2 pc lv (.long x :: st) h) = some (Sum.inl (pc', lv', st', h')) := hs
  have hs2 := am_ldl_some hs
  clear hs
  obtain ⟨x, hv, hs⟩ := hs2
  obtain ⟨rfl, rfl, rfl, rfl, rfl⟩ := am_go_some hs
  first | rfl | exact absurd (show true = false from hA) (by decide)
theorem am_sa_lload_n (Z : am_Z) (n : Fin 4) : am_SSa Z (.lload_n n) := by
  intro d M pc len lv lv' st st' h h' pc' hA hs
  replace hs : (am_ldl lv n fun x => am_go len 1 pc lv (.long x :: st) h) = some (Sum.inl (pc', lv', st', h')) := hs
  have hs2 := am_ldl_some hs
  clear hs
  obtain ⟨x, hv, hs⟩ := hs2
  obtain ⟨rfl, rfl, rfl, rfl, rfl⟩ := am_go_some hs
  first | rfl | exact absurd (show true = false from hA) (by decide)
theorem am_sa_aload (Z : am_Z) (n : Nat) : am_SSa Z (.aload n) := by
  intro d M pc len lv lv' st st' h h' pc' hA hs
  replace hs : (am_lda lv n fun v => am_go len 2 pc lv (v :: st) h) = some (Sum.inl (pc', lv', st', h')) := hs
  have hs2 := am_lda_some hs
  clear hs
  obtain ⟨v, hv, hr, hs⟩ := hs2
  obtain ⟨rfl, rfl, rfl, rfl, rfl⟩ := am_go_some hs
  first | rfl | exact absurd (show true = false from hA) (by decide)
theorem am_sa_aload_n (Z : am_Z) (n : Fin 4) : am_SSa Z (.aload_n n) := by
  intro d M pc len lv lv' st st' h h' pc' hA hs
  replace hs : (am_lda lv n fun v => am_go len 1 pc lv (v :: st) h) = some (Sum.inl (pc', lv', st', h')) := hs
  have hs2 := am_lda_some hs
  clear hs
  obtain ⟨v, hv, hr, hs⟩ := hs2
  obtain ⟨rfl, rfl, rfl, rfl, rfl⟩ := am_go_some hs
  first | rfl | exact absurd (show true = false from hA) (by decide)
theorem am_sa_istore (Z : am_Z) (n : Nat) : am_SSa Z (.istore n) := by
  intro d M pc len lv lv' st st' h h' pc' hA hs
  replace hs : (am_p1 st fun x r => if n < lv.length then am_go len 2 pc (am_s1 lv n (.int x)) r h else none) = some (Sum.inl (pc', lv', st', h')) := hs
  have hs2 := am_p1_some hs
  clear hs
  obtain ⟨x, r, rfl, hs⟩ := hs2
  split at hs
  next hn =>
    obtain ⟨rfl, rfl, rfl, rfl, rfl⟩ := am_go_some hs
    first | rfl | exact absurd (show true = false from hA) (by decide)
  next => cases hs
theorem am_sa_istore_n (Z : am_Z) (n : Fin 4) : am_SSa Z (.istore_n n) := by
  intro d M pc len lv lv' st st' h h' pc' hA hs
  replace hs : (am_p1 st fun x r => if (n : Nat) < lv.length then am_go len 1 pc (am_s1 lv n (.int x)) r h else none) = some (Sum.inl (pc', lv', st', h')) := hs
  have hs2 := am_p1_some hs
  clear hs
  obtain ⟨x, r, rfl, hs⟩ := hs2
  split at hs
  next hn =>
    obtain ⟨rfl, rfl, rfl, rfl, rfl⟩ := am_go_some hs
    first | rfl | exact absurd (show true = false from hA) (by decide)
  next => cases hs
theorem am_sa_lstore (Z : am_Z) (n : Nat) : am_SSa Z (.lstore n) := by
  intro d M pc len lv lv' st st' h h' pc' hA hs
  replace hs : (am_q1 st fun x r => if n + 1 < lv.length then am_go len 2 pc (am_s2 lv n (.long x)) r h else none) = some (Sum.inl (pc', lv', st', h')) := hs
  have hs2 := am_q1_some hs
  clear hs
  obtain ⟨x, r, rfl, hs⟩ := hs2
  split at hs
  next hn =>
    obtain ⟨rfl, rfl, rfl, rfl, rfl⟩ := am_go_some hs
    first | rfl | exact absurd (show true = false from hA) (by decide)
  next => cases hs
theorem am_sa_lstore_n (Z : am_Z) (n : Fin 4) : am_SSa Z (.lstore_n n) := by
  intro d M pc len lv lv' st st' h h' pc' hA hs
  replace hs : (am_q1 st fun x r => if (n : Nat) + 1 < lv.length then am_go len 1 pc (am_s2 lv n (.long x)) r h else none) = some (Sum.inl (pc', lv', st', h')) := hs
  have hs2 := am_q1_some hs
  clear hs
  obtain ⟨x, r, rfl, hs⟩ := hs2
  split at hs
  next hn =>
    obtain ⟨rfl, rfl, rfl, rfl, rfl⟩ := am_go_some hs
    first | rfl | exact absurd (show true = false from hA) (by decide)
  next => cases hs
theorem am_sa_astore (Z : am_Z) (n : Nat) : am_SSa Z (.astore n) := by
  intro d M pc len lv lv' st st' h h' pc' hA hs
  replace hs : (am_sta st fun v r => if n < lv.length then am_go len 2 pc (am_s1 lv n v) r h else none) = some (Sum.inl (pc', lv', st', h')) := hs
  have hs2 := am_sta_some hs
  clear hs
  obtain ⟨v, r, rfl, hr, hs⟩ := hs2
  split at hs
  next hn =>
    obtain ⟨rfl, rfl, rfl, rfl, rfl⟩ := am_go_some hs
    first | rfl | exact absurd (show true = false from hA) (by decide)
  next => cases hs
theorem am_sa_astore_n (Z : am_Z) (n : Fin 4) : am_SSa Z (.astore_n n) := by
  intro d M pc len lv lv' st st' h h' pc' hA hs
  replace hs : (am_sta st fun v r => if (n : Nat) < lv.length then am_go len 1 pc (am_s1 lv n v) r h else none) = some (Sum.inl (pc', lv', st', h')) := hs
  have hs2 := am_sta_some hs
  clear hs
  obtain ⟨v, r, rfl, hr, hs⟩ := hs2
  split at hs
  next hn =>
    obtain ⟨rfl, rfl, rfl, rfl, rfl⟩ := am_go_some hs
    first | rfl | exact absurd (show true = false from hA) (by decide)
  next => cases hs
theorem am_sa_iinc (Z : am_Z) (n : Nat) (k : Int) : am_SSa Z (.iinc n k) := by
  intro d M pc len lv lv' st st' h h' pc' hA hs
  replace hs : (am_ldi lv n fun x => if n < lv.length then am_go len 3 pc (am_s1 lv n (.int (x + Int32.ofInt k))) st h else none) = some (Sum.inl (pc', lv', st', h')) := hs
  have hs2 := am_ldi_some hs
  clear hs
  obtain ⟨x, hv, hs⟩ := hs2
  split at hs
  next hn =>
    obtain ⟨rfl, rfl, rfl, rfl, rfl⟩ := am_go_some hs
    first | rfl | exact absurd (show true = false from hA) (by decide)
  next => cases hs
theorem am_sa_iadd (Z : am_Z) : am_SSa Z (.iadd) := by
  intro d M pc len lv lv' st st' h h' pc' hA hs
  replace hs : (am_p2 st fun x y r => am_go len 1 pc lv (.int (x + y) :: r) h) = some (Sum.inl (pc', lv', st', h')) := hs
  have hs2 := am_p2_some hs
  clear hs
  obtain ⟨x, y, r, rfl, hs⟩ := hs2
  obtain ⟨rfl, rfl, rfl, rfl, rfl⟩ := am_go_some hs
  first | rfl | exact absurd (show true = false from hA) (by decide)
theorem am_sa_isub (Z : am_Z) : am_SSa Z (.isub) := by
  intro d M pc len lv lv' st st' h h' pc' hA hs
  replace hs : (am_p2 st fun x y r => am_go len 1 pc lv (.int (x - y) :: r) h) = some (Sum.inl (pc', lv', st', h')) := hs
  have hs2 := am_p2_some hs
  clear hs
  obtain ⟨x, y, r, rfl, hs⟩ := hs2
  obtain ⟨rfl, rfl, rfl, rfl, rfl⟩ := am_go_some hs
  first | rfl | exact absurd (show true = false from hA) (by decide)
theorem am_sa_imul (Z : am_Z) : am_SSa Z (.imul) := by
  intro d M pc len lv lv' st st' h h' pc' hA hs
  replace hs : (am_p2 st fun x y r => am_go len 1 pc lv (.int (x * y) :: r) h) = some (Sum.inl (pc', lv', st', h')) := hs
  have hs2 := am_p2_some hs
  clear hs
  obtain ⟨x, y, r, rfl, hs⟩ := hs2
  obtain ⟨rfl, rfl, rfl, rfl, rfl⟩ := am_go_some hs
  first | rfl | exact absurd (show true = false from hA) (by decide)
theorem am_sa_iand (Z : am_Z) : am_SSa Z (.iand) := by
  intro d M pc len lv lv' st st' h h' pc' hA hs
  replace hs : (am_p2 st fun x y r => am_go len 1 pc lv (.int (x &&& y) :: r) h) = some (Sum.inl (pc', lv', st', h')) := hs
  have hs2 := am_p2_some hs
  clear hs
  obtain ⟨x, y, r, rfl, hs⟩ := hs2
  obtain ⟨rfl, rfl, rfl, rfl, rfl⟩ := am_go_some hs
  first | rfl | exact absurd (show true = false from hA) (by decide)
theorem am_sa_ior (Z : am_Z) : am_SSa Z (.ior) := by
  intro d M pc len lv lv' st st' h h' pc' hA hs
  replace hs : (am_p2 st fun x y r => am_go len 1 pc lv (.int (x ||| y) :: r) h) = some (Sum.inl (pc', lv', st', h')) := hs
  have hs2 := am_p2_some hs
  clear hs
  obtain ⟨x, y, r, rfl, hs⟩ := hs2
  obtain ⟨rfl, rfl, rfl, rfl, rfl⟩ := am_go_some hs
  first | rfl | exact absurd (show true = false from hA) (by decide)
theorem am_sa_ixor (Z : am_Z) : am_SSa Z (.ixor) := by
  intro d M pc len lv lv' st st' h h' pc' hA hs
  replace hs : (am_p2 st fun x y r => am_go len 1 pc lv (.int (x ^^^ y) :: r) h) = some (Sum.inl (pc', lv', st', h')) := hs
  have hs2 := am_p2_some hs
  clear hs
  obtain ⟨x, y, r, rfl, hs⟩ := hs2
  obtain ⟨rfl, rfl, rfl, rfl, rfl⟩ := am_go_some hs
  first | rfl | exact absurd (show true = false from hA) (by decide)
theorem am_sa_ishl (Z : am_Z) : am_SSa Z (.ishl) := by
  intro d M pc len lv lv' st st' h h' pc' hA hs
  replace hs : (am_p2 st fun x y r => am_go len 1 pc lv (.int (x <<< (y &&& 31)) :: r) h) = some (Sum.inl (pc', lv', st', h')) := hs
  have hs2 := am_p2_some hs
  clear hs
  obtain ⟨x, y, r, rfl, hs⟩ := hs2
  obtain ⟨rfl, rfl, rfl, rfl, rfl⟩ := am_go_some hs
  first | rfl | exact absurd (show true = false from hA) (by decide)
theorem am_sa_ishr (Z : am_Z) : am_SSa Z (.ishr) := by
  intro d M pc len lv lv' st st' h h' pc' hA hs
  replace hs : (am_p2 st fun x y r => am_go len 1 pc lv (.int (x >>> (y &&& 31)) :: r) h) = some (Sum.inl (pc', lv', st', h')) := hs
  have hs2 := am_p2_some hs
  clear hs
  obtain ⟨x, y, r, rfl, hs⟩ := hs2
  obtain ⟨rfl, rfl, rfl, rfl, rfl⟩ := am_go_some hs
  first | rfl | exact absurd (show true = false from hA) (by decide)
theorem am_sa_iushr (Z : am_Z) : am_SSa Z (.iushr) := by
  intro d M pc len lv lv' st st' h h' pc' hA hs
  replace hs : (am_p2 st fun x y r => am_go len 1 pc lv (.int (x.toUInt32 >>> (y.toUInt32 &&& Int32.toUInt32 31)).toInt32 :: r) h) = some (Sum.inl (pc', lv', st', h')) := hs
  have hs2 := am_p2_some hs
  clear hs
  obtain ⟨x, y, r, rfl, hs⟩ := hs2
  obtain ⟨rfl, rfl, rfl, rfl, rfl⟩ := am_go_some hs
  first | rfl | exact absurd (show true = false from hA) (by decide)
theorem am_sa_idiv (Z : am_Z) : am_SSa Z (.idiv) := by
  intro d M pc len lv lv' st st' h h' pc' hA hs
  replace hs : (am_p2 st fun x y r => if y = 0 then none else am_go len 1 pc lv (.int (x / y) :: r) h) = some (Sum.inl (pc', lv', st', h')) := hs
  have hs2 := am_p2_some hs
  clear hs
  obtain ⟨x, y, r, rfl, hs⟩ := hs2
  split at hs
  next => cases hs
  next hy =>
    obtain ⟨rfl, rfl, rfl, rfl, rfl⟩ := am_go_some hs
    first | rfl | exact absurd (show true = false from hA) (by decide)
theorem am_sa_irem (Z : am_Z) : am_SSa Z (.irem) := by
  intro d M pc len lv lv' st st' h h' pc' hA hs
  replace hs : (am_p2 st fun x y r => if y = 0 then none else am_go len 1 pc lv (.int (x - x / y * y) :: r) h) = some (Sum.inl (pc', lv', st', h')) := hs
  have hs2 := am_p2_some hs
  clear hs
  obtain ⟨x, y, r, rfl, hs⟩ := hs2
  split at hs
  next => cases hs
  next hy =>
    obtain ⟨rfl, rfl, rfl, rfl, rfl⟩ := am_go_some hs
    first | rfl | exact absurd (show true = false from hA) (by decide)
theorem am_sa_ineg (Z : am_Z) : am_SSa Z (.ineg) := by
  intro d M pc len lv lv' st st' h h' pc' hA hs
  replace hs : (am_p1 st fun x r => am_go len 1 pc lv (.int (-x) :: r) h) = some (Sum.inl (pc', lv', st', h')) := hs
  have hs2 := am_p1_some hs
  clear hs
  obtain ⟨x, r, rfl, hs⟩ := hs2
  obtain ⟨rfl, rfl, rfl, rfl, rfl⟩ := am_go_some hs
  first | rfl | exact absurd (show true = false from hA) (by decide)
theorem am_sa_i2l (Z : am_Z) : am_SSa Z (.i2l) := by
  intro d M pc len lv lv' st st' h h' pc' hA hs
  replace hs : (am_p1 st fun x r => am_go len 1 pc lv (.long x.toInt64 :: r) h) = some (Sum.inl (pc', lv', st', h')) := hs
  have hs2 := am_p1_some hs
  clear hs
  obtain ⟨x, r, rfl, hs⟩ := hs2
  obtain ⟨rfl, rfl, rfl, rfl, rfl⟩ := am_go_some hs
  first | rfl | exact absurd (show true = false from hA) (by decide)
theorem am_sa_i2b (Z : am_Z) : am_SSa Z (.i2b) := by
  intro d M pc len lv lv' st st' h h' pc' hA hs
  replace hs : (am_p1 st fun x r => am_go len 1 pc lv (.int x.toInt8.toInt32 :: r) h) = some (Sum.inl (pc', lv', st', h')) := hs
  have hs2 := am_p1_some hs
  clear hs
  obtain ⟨x, r, rfl, hs⟩ := hs2
  obtain ⟨rfl, rfl, rfl, rfl, rfl⟩ := am_go_some hs
  first | rfl | exact absurd (show true = false from hA) (by decide)
theorem am_sa_i2s (Z : am_Z) : am_SSa Z (.i2s) := by
  intro d M pc len lv lv' st st' h h' pc' hA hs
  replace hs : (am_p1 st fun x r => am_go len 1 pc lv (.int x.toInt16.toInt32 :: r) h) = some (Sum.inl (pc', lv', st', h')) := hs
  have hs2 := am_p1_some hs
  clear hs
  obtain ⟨x, r, rfl, hs⟩ := hs2
  obtain ⟨rfl, rfl, rfl, rfl, rfl⟩ := am_go_some hs
  first | rfl | exact absurd (show true = false from hA) (by decide)
theorem am_sa_l2i (Z : am_Z) : am_SSa Z (.l2i) := by
  intro d M pc len lv lv' st st' h h' pc' hA hs
  replace hs : (am_q1 st fun x r => am_go len 1 pc lv (.int x.toInt32 :: r) h) = some (Sum.inl (pc', lv', st', h')) := hs
  have hs2 := am_q1_some hs
  clear hs
  obtain ⟨x, r, rfl, hs⟩ := hs2
  obtain ⟨rfl, rfl, rfl, rfl, rfl⟩ := am_go_some hs
  first | rfl | exact absurd (show true = false from hA) (by decide)
theorem am_sa_ladd (Z : am_Z) : am_SSa Z (.ladd) := by
  intro d M pc len lv lv' st st' h h' pc' hA hs
  replace hs : (am_q2 st fun x y r => am_go len 1 pc lv (.long (x + y) :: r) h) = some (Sum.inl (pc', lv', st', h')) := hs
  have hs2 := am_q2_some hs
  clear hs
  obtain ⟨x, y, r, rfl, hs⟩ := hs2
  obtain ⟨rfl, rfl, rfl, rfl, rfl⟩ := am_go_some hs
  first | rfl | exact absurd (show true = false from hA) (by decide)
theorem am_sa_land (Z : am_Z) : am_SSa Z (.land) := by
  intro d M pc len lv lv' st st' h h' pc' hA hs
  replace hs : (am_q2 st fun x y r => am_go len 1 pc lv (.long (x &&& y) :: r) h) = some (Sum.inl (pc', lv', st', h')) := hs
  have hs2 := am_q2_some hs
  clear hs
  obtain ⟨x, y, r, rfl, hs⟩ := hs2
  obtain ⟨rfl, rfl, rfl, rfl, rfl⟩ := am_go_some hs
  first | rfl | exact absurd (show true = false from hA) (by decide)
theorem am_sa_lor (Z : am_Z) : am_SSa Z (.lor) := by
  intro d M pc len lv lv' st st' h h' pc' hA hs
  replace hs : (am_q2 st fun x y r => am_go len 1 pc lv (.long (x ||| y) :: r) h) = some (Sum.inl (pc', lv', st', h')) := hs
  have hs2 := am_q2_some hs
  clear hs
  obtain ⟨x, y, r, rfl, hs⟩ := hs2
  obtain ⟨rfl, rfl, rfl, rfl, rfl⟩ := am_go_some hs
  first | rfl | exact absurd (show true = false from hA) (by decide)
theorem am_sa_ldiv (Z : am_Z) : am_SSa Z (.ldiv) := by
  intro d M pc len lv lv' st st' h h' pc' hA hs
  replace hs : (am_q2 st fun x y r => if y = 0 then none else am_go len 1 pc lv (.long (x / y) :: r) h) = some (Sum.inl (pc', lv', st', h')) := hs
  have hs2 := am_q2_some hs
  clear hs
  obtain ⟨x, y, r, rfl, hs⟩ := hs2
  split at hs
  next => cases hs
  next hy =>
    obtain ⟨rfl, rfl, rfl, rfl, rfl⟩ := am_go_some hs
    first | rfl | exact absurd (show true = false from hA) (by decide)
theorem am_sa_lrem (Z : am_Z) : am_SSa Z (.lrem) := by
  intro d M pc len lv lv' st st' h h' pc' hA hs
  replace hs : (am_q2 st fun x y r => if y = 0 then none else am_go len 1 pc lv (.long (x - x / y * y) :: r) h) = some (Sum.inl (pc', lv', st', h')) := hs
  have hs2 := am_q2_some hs
  clear hs
  obtain ⟨x, y, r, rfl, hs⟩ := hs2
  split at hs
  next => cases hs
  next hy =>
    obtain ⟨rfl, rfl, rfl, rfl, rfl⟩ := am_go_some hs
    first | rfl | exact absurd (show true = false from hA) (by decide)
theorem am_sa_lcmp (Z : am_Z) : am_SSa Z (.lcmp) := by
  intro d M pc len lv lv' st st' h h' pc' hA hs
  replace hs : (am_q2 st fun x y r => am_go len 1 pc lv (.int (lg_cmp x y) :: r) h) = some (Sum.inl (pc', lv', st', h')) := hs
  have hs2 := am_q2_some hs
  clear hs
  obtain ⟨x, y, r, rfl, hs⟩ := hs2
  obtain ⟨rfl, rfl, rfl, rfl, rfl⟩ := am_go_some hs
  first | rfl | exact absurd (show true = false from hA) (by decide)
theorem am_sa_lshl (Z : am_Z) : am_SSa Z (.lshl) := by
  intro d M pc len lv lv' st st' h h' pc' hA hs
  replace hs : (match st with | .int y :: .long x :: r => am_go len 1 pc lv (.long (x <<< (y.toInt64 &&& 63)) :: r) h | _ => none) = some (Sum.inl (pc', lv', st', h')) := hs
  split at hs
  next y x r =>
    obtain ⟨rfl, rfl, rfl, rfl, rfl⟩ := am_go_some hs
    first | rfl | exact absurd (show true = false from hA) (by decide)
  next => cases hs
theorem am_sa_dup (Z : am_Z) : am_SSa Z (.dup) := by
  intro d M pc len lv lv' st st' h h' pc' hA hs
  replace hs : (match st with | v :: r => if v.category = 1 then am_go len 1 pc lv (v :: v :: r) h else none | _ => none) = some (Sum.inl (pc', lv', st', h')) := hs
  split at hs
  next v r =>
    split at hs
    next hv =>
      obtain ⟨rfl, rfl, rfl, rfl, rfl⟩ := am_go_some hs
      first | rfl | exact absurd (show true = false from hA) (by decide)
    next => cases hs
  next => cases hs
theorem am_sa_pop (Z : am_Z) : am_SSa Z (.pop) := by
  intro d M pc len lv lv' st st' h h' pc' hA hs
  replace hs : (match st with | v :: r => if v.category = 1 then am_go len 1 pc lv r h else none | _ => none) = some (Sum.inl (pc', lv', st', h')) := hs
  split at hs
  next v r =>
    split at hs
    next hv =>
      obtain ⟨rfl, rfl, rfl, rfl, rfl⟩ := am_go_some hs
      first | rfl | exact absurd (show true = false from hA) (by decide)
    next => cases hs
  next => cases hs
theorem am_sa_dup_x1 (Z : am_Z) : am_SSa Z (.dup_x1) := by
  intro d M pc len lv lv' st st' h h' pc' hA hs
  replace hs : (match st with | v :: w :: r => if v.category = 1 ∧ w.category = 1 then am_go len 1 pc lv (v :: w :: v :: r) h else none | _ => none) = some (Sum.inl (pc', lv', st', h')) := hs
  split at hs
  next v w r =>
    split at hs
    next hv =>
      obtain ⟨rfl, rfl, rfl, rfl, rfl⟩ := am_go_some hs
      first | rfl | exact absurd (show true = false from hA) (by decide)
    next => cases hs
  next => cases hs
theorem am_sa_dup2 (Z : am_Z) : am_SSa Z (.dup2) := by
  intro d M pc len lv lv' st st' h h' pc' hA hs
  replace hs : (match st with | v :: w :: r => if v.category = 1 ∧ w.category = 1 then am_go len 1 pc lv (v :: w :: v :: w :: r) h else none | _ => none) = some (Sum.inl (pc', lv', st', h')) := hs
  split at hs
  next v w r =>
    split at hs
    next hv =>
      obtain ⟨rfl, rfl, rfl, rfl, rfl⟩ := am_go_some hs
      first | rfl | exact absurd (show true = false from hA) (by decide)
    next => cases hs
  next => cases hs
theorem am_sa_goto (Z : am_Z) (off : Int) : am_SSa Z (.goto off) := by
  intro d M pc len lv lv' st st' h h' pc' hA hs
  replace hs : (if len = 3 then am_jp pc off lv st h else none) = some (Sum.inl (pc', lv', st', h')) := hs
  split at hs
  next hl =>
    subst hl
    obtain ⟨ht, rfl, rfl, rfl⟩ := am_jp_some hs
    first | rfl | exact absurd (show true = false from hA) (by decide)
  next => cases hs
theorem am_sa_ifCond_eq (Z : am_Z) (off : Int) : am_SSa Z (.ifCond .eq off) := by
  intro d M pc len lv lv' st st' h h' pc' hA hs
  replace hs : (am_p1 st fun x r => am_br (am_cb .eq x 0) len pc off lv r h) = some (Sum.inl (pc', lv', st', h')) := hs
  have hs2 := am_p1_some hs
  clear hs
  obtain ⟨x, r, rfl, hs⟩ := hs2
  obtain ⟨rfl, rfl, rfl, rfl, t, ht, hb⟩ := am_br_some hs
  first | rfl | exact absurd (show true = false from hA) (by decide)
theorem am_sa_ifCond_ne (Z : am_Z) (off : Int) : am_SSa Z (.ifCond .ne off) := by
  intro d M pc len lv lv' st st' h h' pc' hA hs
  replace hs : (am_p1 st fun x r => am_br (am_cb .ne x 0) len pc off lv r h) = some (Sum.inl (pc', lv', st', h')) := hs
  have hs2 := am_p1_some hs
  clear hs
  obtain ⟨x, r, rfl, hs⟩ := hs2
  obtain ⟨rfl, rfl, rfl, rfl, t, ht, hb⟩ := am_br_some hs
  first | rfl | exact absurd (show true = false from hA) (by decide)
theorem am_sa_ifCond_lt (Z : am_Z) (off : Int) : am_SSa Z (.ifCond .lt off) := by
  intro d M pc len lv lv' st st' h h' pc' hA hs
  replace hs : (am_p1 st fun x r => am_br (am_cb .lt x 0) len pc off lv r h) = some (Sum.inl (pc', lv', st', h')) := hs
  have hs2 := am_p1_some hs
  clear hs
  obtain ⟨x, r, rfl, hs⟩ := hs2
  obtain ⟨rfl, rfl, rfl, rfl, t, ht, hb⟩ := am_br_some hs
  first | rfl | exact absurd (show true = false from hA) (by decide)
theorem am_sa_ifCond_ge (Z : am_Z) (off : Int) : am_SSa Z (.ifCond .ge off) := by
  intro d M pc len lv lv' st st' h h' pc' hA hs
  replace hs : (am_p1 st fun x r => am_br (am_cb .ge x 0) len pc off lv r h) = some (Sum.inl (pc', lv', st', h')) := hs
  have hs2 := am_p1_some hs
  clear hs
  obtain ⟨x, r, rfl, hs⟩ := hs2
  obtain ⟨rfl, rfl, rfl, rfl, t, ht, hb⟩ := am_br_some hs
  first | rfl | exact absurd (show true = false from hA) (by decide)
theorem am_sa_ifCond_gt (Z : am_Z) (off : Int) : am_SSa Z (.ifCond .gt off) := by
  intro d M pc len lv lv' st st' h h' pc' hA hs
  replace hs : (am_p1 st fun x r => am_br (am_cb .gt x 0) len pc off lv r h) = some (Sum.inl (pc', lv', st', h')) := hs
  have hs2 := am_p1_some hs
  clear hs
  obtain ⟨x, r, rfl, hs⟩ := hs2
  obtain ⟨rfl, rfl, rfl, rfl, t, ht, hb⟩ := am_br_some hs
  first | rfl | exact absurd (show true = false from hA) (by decide)
theorem am_sa_ifCond_le (Z : am_Z) (off : Int) : am_SSa Z (.ifCond .le off) := by
  intro d M pc len lv lv' st st' h h' pc' hA hs
  replace hs : (am_p1 st fun x r => am_br (am_cb .le x 0) len pc off lv r h) = some (Sum.inl (pc', lv', st', h')) := hs
  have hs2 := am_p1_some hs
  clear hs
  obtain ⟨x, r, rfl, hs⟩ := hs2
  obtain ⟨rfl, rfl, rfl, rfl, t, ht, hb⟩ := am_br_some hs
  first | rfl | exact absurd (show true = false from hA) (by decide)
theorem am_sa_if_icmp_eq (Z : am_Z) (off : Int) : am_SSa Z (.if_icmp .eq off) := by
  intro d M pc len lv lv' st st' h h' pc' hA hs
  replace hs : (am_p2 st fun x y r => am_br (am_cb .eq x y) len pc off lv r h) = some (Sum.inl (pc', lv', st', h')) := hs
  have hs2 := am_p2_some hs
  clear hs
  obtain ⟨x, y, r, rfl, hs⟩ := hs2
  obtain ⟨rfl, rfl, rfl, rfl, t, ht, hb⟩ := am_br_some hs
  first | rfl | exact absurd (show true = false from hA) (by decide)
theorem am_sa_if_icmp_ne (Z : am_Z) (off : Int) : am_SSa Z (.if_icmp .ne off) := by
  intro d M pc len lv lv' st st' h h' pc' hA hs
  replace hs : (am_p2 st fun x y r => am_br (am_cb .ne x y) len pc off lv r h) = some (Sum.inl (pc', lv', st', h')) := hs
  have hs2 := am_p2_some hs
  clear hs
  obtain ⟨x, y, r, rfl, hs⟩ := hs2
  obtain ⟨rfl, rfl, rfl, rfl, t, ht, hb⟩ := am_br_some hs
  first | rfl | exact absurd (show true = false from hA) (by decide)
theorem am_sa_if_icmp_lt (Z : am_Z) (off : Int) : am_SSa Z (.if_icmp .lt off) := by
  intro d M pc len lv lv' st st' h h' pc' hA hs
  replace hs : (am_p2 st fun x y r => am_br (am_cb .lt x y) len pc off lv r h) = some (Sum.inl (pc', lv', st', h')) := hs
  have hs2 := am_p2_some hs
  clear hs
  obtain ⟨x, y, r, rfl, hs⟩ := hs2
  obtain ⟨rfl, rfl, rfl, rfl, t, ht, hb⟩ := am_br_some hs
  first | rfl | exact absurd (show true = false from hA) (by decide)
theorem am_sa_if_icmp_ge (Z : am_Z) (off : Int) : am_SSa Z (.if_icmp .ge off) := by
  intro d M pc len lv lv' st st' h h' pc' hA hs
  replace hs : (am_p2 st fun x y r => am_br (am_cb .ge x y) len pc off lv r h) = some (Sum.inl (pc', lv', st', h')) := hs
  have hs2 := am_p2_some hs
  clear hs
  obtain ⟨x, y, r, rfl, hs⟩ := hs2
  obtain ⟨rfl, rfl, rfl, rfl, t, ht, hb⟩ := am_br_some hs
  first | rfl | exact absurd (show true = false from hA) (by decide)
theorem am_sa_if_icmp_gt (Z : am_Z) (off : Int) : am_SSa Z (.if_icmp .gt off) := by
  intro d M pc len lv lv' st st' h h' pc' hA hs
  replace hs : (am_p2 st fun x y r => am_br (am_cb .gt x y) len pc off lv r h) = some (Sum.inl (pc', lv', st', h')) := hs
  have hs2 := am_p2_some hs
  clear hs
  obtain ⟨x, y, r, rfl, hs⟩ := hs2
  obtain ⟨rfl, rfl, rfl, rfl, t, ht, hb⟩ := am_br_some hs
  first | rfl | exact absurd (show true = false from hA) (by decide)
theorem am_sa_if_icmp_le (Z : am_Z) (off : Int) : am_SSa Z (.if_icmp .le off) := by
  intro d M pc len lv lv' st st' h h' pc' hA hs
  replace hs : (am_p2 st fun x y r => am_br (am_cb .le x y) len pc off lv r h) = some (Sum.inl (pc', lv', st', h')) := hs
  have hs2 := am_p2_some hs
  clear hs
  obtain ⟨x, y, r, rfl, hs⟩ := hs2
  obtain ⟨rfl, rfl, rfl, rfl, t, ht, hb⟩ := am_br_some hs
  first | rfl | exact absurd (show true = false from hA) (by decide)
theorem am_sa_ifnull (Z : am_Z) (off : Int) : am_SSa Z (.ifnull off) := by
  intro d M pc len lv lv' st st' h h' pc' hA hs
  replace hs : (match st with | .ref _ :: r => am_go len 3 pc lv r h | .null :: r => if len = 3 then am_jp pc off lv r h else none | _ => none) = some (Sum.inl (pc', lv', st', h')) := hs
  split at hs
  next a r =>
    obtain ⟨rfl, rfl, rfl, rfl, rfl⟩ := am_go_some hs
    first | rfl | exact absurd (show true = false from hA) (by decide)
  next r =>
    split at hs
    next hl =>
      subst hl
      obtain ⟨ht, rfl, rfl, rfl⟩ := am_jp_some hs
      first | rfl | exact absurd (show true = false from hA) (by decide)
    next => cases hs
  next => cases hs
theorem am_sa_ifnonnull (Z : am_Z) (off : Int) : am_SSa Z (.ifnonnull off) := by
  intro d M pc len lv lv' st st' h h' pc' hA hs
  replace hs : (match st with | .ref _ :: r => if len = 3 then am_jp pc off lv r h else none | .null :: r => am_go len 3 pc lv r h | _ => none) = some (Sum.inl (pc', lv', st', h')) := hs
  split at hs
  next a r =>
    split at hs
    next hl =>
      subst hl
      obtain ⟨ht, rfl, rfl, rfl⟩ := am_jp_some hs
      first | rfl | exact absurd (show true = false from hA) (by decide)
    next => cases hs
  next r =>
    obtain ⟨rfl, rfl, rfl, rfl, rfl⟩ := am_go_some hs
    first | rfl | exact absurd (show true = false from hA) (by decide)
  next => cases hs
theorem am_sa_tableswitch (Z : am_Z) (df lo hi : Int) (offs : Array Int) : am_SSa Z (.tableswitch df lo hi offs) := by
  intro d M pc len lv lv' st st' h h' pc' hA hs
  replace hs : (am_p1 st fun x r => if x.toInt < lo ∨ hi < x.toInt then am_jp pc df lv r h else match offs[(x.toInt - lo).toNat]? with | some off => am_jp pc off lv r h | none => none) = some (Sum.inl (pc', lv', st', h')) := hs
  have hs2 := am_p1_some hs
  clear hs
  obtain ⟨x, r, rfl, hs⟩ := hs2
  split at hs
  next hn =>
    obtain ⟨ht, rfl, rfl, rfl⟩ := am_jp_some hs
    first | rfl | exact absurd (show true = false from hA) (by decide)
  next hn =>
    split at hs
    next off ho =>
      obtain ⟨ht, rfl, rfl, rfl⟩ := am_jp_some hs
      first | rfl | exact absurd (show true = false from hA) (by decide)
    next => cases hs
theorem am_sa_lookupswitch (Z : am_Z) (df : Int) (ps : Array (Int × Int)) : am_SSa Z (.lookupswitch df ps) := by
  intro d M pc len lv lv' st st' h h' pc' hA hs
  replace hs : (am_p1 st fun x r => if (ps.toList.zip (ps.toList.drop 1)).all (fun (a, next) => a.1 < next.1) = true then am_jp pc (Op.lookupswitch.offset ps.toList df x.toInt) lv r h else none) = some (Sum.inl (pc', lv', st', h')) := hs
  have hs2 := am_p1_some hs
  clear hs
  obtain ⟨x, r, rfl, hs⟩ := hs2
  split at hs
  next hn =>
    obtain ⟨ht, rfl, rfl, rfl⟩ := am_jp_some hs
    first | rfl | exact absurd (show true = false from hA) (by decide)
  next => cases hs
theorem am_sa_getfield (Z : am_Z) (idx : Nat) : am_SSa Z (.getfield idx) := by
  intro d M pc len lv lv' st st' h h' pc' hA hs
  replace hs : (match am_fld M.1 idx with | none => none | some (ci, k, _) => am_a1 st fun p r => am_at h p ci fun _ rs => am_go len 3 pc lv (am_fv rs h.2.1 p ci k :: r) h) = some (Sum.inl (pc', lv', st', h')) := hs
  cases hf : am_fld M.1 idx with
  | none => rw [hf] at hs; cases hs
  | some x =>
    obtain ⟨ci, k, b⟩ := x
    rw [hf] at hs
    replace hs : (am_a1 st fun p r => am_at h p ci fun _ rs => am_go len 3 pc lv (am_fv rs h.2.1 p ci k :: r) h) = some (Sum.inl (pc', lv', st', h')) := hs
    have hs2 := am_a1_some hs
    clear hs
    obtain ⟨q, r, rfl, hs⟩ := hs2
    have hs2 := am_at_some hs
    clear hs
    obtain ⟨n, rs, hp, hs⟩ := hs2
    obtain ⟨rfl, rfl, rfl, rfl, rfl⟩ := am_go_some hs
    first | rfl | exact absurd (show true = false from hA) (by decide)
theorem am_sa_putfield (Z : am_Z) (idx : Nat) : am_SSa Z (.putfield idx) := by
  intro d M pc len lv lv' st st' h h' pc' hA hs
  replace hs : (match am_fld M.1 idx with
    | none => none
    | some (ci, k, b) => match st with
      | .int x :: .ref p :: r => am_at h p ci fun _ _ => if (am_T ci k).2.2.2 = false ∧ am_isref ci k = false ∧ narrow (am_ty ci k) (.int x) = .int x ∧ fits (am_ty ci k) (.int x) = true then am_go len 3 pc lv r (h.1, am_upF h.2.1 p k x, h.2.2) else none
      | .ref q :: .ref p :: r => am_at h p ci fun n rs => if b = true ∧ (am_T ci k).2.2.2 = true ∧ M.2.1.name = "<init>" ∧ (am_T ci k).1 = am_cn M.1 ∧ am_isref ci k = true ∧ q < h.1.length ∧ k < rs.length then am_go len 3 pc lv r (h.1.set p (ci, n, rs.set k (some q)), h.2.1, h.2.2) else none
      | _ => none) = some (Sum.inl (pc', lv', st', h')) := hs
  cases hf : am_fld M.1 idx with
  | none => rw [hf] at hs; cases hs
  | some x =>
    obtain ⟨ci, k, b⟩ := x
    rw [hf] at hs
    dsimp only at hs
    obtain ⟨hci, hk, hl⟩ := am_fld_ok hf
    split at hs
    next x q r =>
      have hs2 := am_at_some hs
      clear hs
      obtain ⟨n, rs, hp, hs⟩ := hs2
      split at hs
      next hg =>
        obtain ⟨g1, g2, g3, g4⟩ := hg
        obtain ⟨rfl, rfl, rfl, rfl, rfl⟩ := am_go_some hs
        first | rfl | exact absurd (show true = false from hA) (by decide)
      next => cases hs
    next v q r =>
      have hs2 := am_at_some hs
      clear hs
      obtain ⟨n, rs, hp, hs⟩ := hs2
      split at hs
      next hg =>
        obtain ⟨rfl, g1, g2, g3, g4, g5, g6⟩ := hg
        obtain ⟨rfl, rfl, rfl, rfl, rfl⟩ := am_go_some hs
        first | rfl | exact absurd (show true = false from hA) (by decide)
      next => cases hs
    next => cases hs
theorem am_sa_getstatic (Z : am_Z) (idx : Nat) : am_SSa Z (.getstatic idx) := by
  intro d M pc len lv lv' st st' h h' pc' hA hs
  replace hs : (match am_stat M.1 idx with | none => none | some j => am_go len 3 pc lv (.ref (1000 + j) :: st) h) = some (Sum.inl (pc', lv', st', h')) := hs
  cases hf : am_stat M.1 idx with
  | none => rw [hf] at hs; cases hs
  | some j =>
    rw [hf] at hs
    dsimp only at hs
    obtain ⟨rfl, rfl, rfl, rfl, rfl⟩ := am_go_some hs
    first | rfl | exact absurd (show true = false from hA) (by decide)
theorem am_sa_arraylength (Z : am_Z) : am_SSa Z (.arraylength) := by
  intro d M pc len lv lv' st st' h h' pc' hA hs
  replace hs : (am_a1 st fun p r => if p < 1000 then (match h.1[p]? with
      | some (k, n, _) => if k = 100 ∨ k = 101 ∨ k = 102 then am_go len 1 pc lv (.int (Int32.ofNat n) :: r) h else none
      | none => none) else if p < 1006 then (match Z (p - 1000) with
      | some z => am_go len 1 pc lv (.int (Int32.ofNat z.1) :: r) h
      | none => none) else none) = some (Sum.inl (pc', lv', st', h')) := hs
  have hs2 := am_a1_some hs
  clear hs
  obtain ⟨q, r, rfl, hs⟩ := hs2
  split at hs
  next hq =>
    split at hs
    next k n rs hp =>
      split at hs
      next hk =>
        obtain ⟨rfl, rfl, rfl, rfl, rfl⟩ := am_go_some hs
        first | rfl | exact absurd (show true = false from hA) (by decide)
      next => cases hs
    next => cases hs
  next hq =>
    split at hs
    next hq2 =>
      split at hs
      next z hz9 =>
        obtain ⟨rfl, rfl, rfl, rfl, rfl⟩ := am_go_some hs
        first | rfl | exact absurd (show true = false from hA) (by decide)
      next => cases hs
    next => cases hs
theorem am_sa_iaload (Z : am_Z) : am_SSa Z (.iaload) := by
  intro d M pc len lv lv' st st' h h' pc' hA hs
  replace hs : (match st with
    | .int i :: .ref p :: r => if p < 1000 then am_at h p 100 fun n _ => if am_oob i n = true then none else am_go len 1 pc lv (.int (h.2.1 p i.toNatClampNeg) :: r) h
        else if p < 1006 then (match Z (p - 1000) with
          | some z => if am_oob i z.1 = true then none else am_go len 1 pc lv (.int (z.2 i.toNatClampNeg) :: r) h
          | none => none) else none
    | _ => none) = some (Sum.inl (pc', lv', st', h')) := hs
  split at hs
  next i q r =>
    split at hs
    next hq =>
      have hs2 := am_at_some hs
      clear hs
      obtain ⟨n, rs, hp, hs⟩ := hs2
      split at hs
      next => cases hs
      next hi =>
        obtain ⟨rfl, rfl, rfl, rfl, rfl⟩ := am_go_some hs
        first | rfl | exact absurd (show true = false from hA) (by decide)
    next hq =>
      split at hs
      next hg =>
        split at hs
        next z hz9 =>
          split at hs
          next => cases hs
          next hi =>
            obtain ⟨rfl, rfl, rfl, rfl, rfl⟩ := am_go_some hs
            first | rfl | exact absurd (show true = false from hA) (by decide)
        next => cases hs
      next => cases hs
  next => cases hs
theorem am_sa_laload (Z : am_Z) : am_SSa Z (.laload) := by
  intro d M pc len lv lv' st st' h h' pc' hA hs
  replace hs : (match st with
    | .int i :: .ref p :: r => am_at h p 101 fun n _ => if am_oob i n = true then none else am_go len 1 pc lv (.long (h.2.2 p i.toNatClampNeg) :: r) h
    | _ => none) = some (Sum.inl (pc', lv', st', h')) := hs
  split at hs
  next i q r =>
    have hs2 := am_at_some hs
    clear hs
    obtain ⟨n, rs, hp, hs⟩ := hs2
    split at hs
    next => cases hs
    next hi =>
      obtain ⟨rfl, rfl, rfl, rfl, rfl⟩ := am_go_some hs
      first | rfl | exact absurd (show true = false from hA) (by decide)
  next => cases hs
theorem am_sa_aaload (Z : am_Z) : am_SSa Z (.aaload) := by
  intro d M pc len lv lv' st st' h h' pc' hA hs
  replace hs : (match st with
    | .int i :: .ref p :: r => am_at h p 102 fun n rs => if am_oob i n = true then none else am_go len 1 pc lv (va_rf (am_rf rs i.toNatClampNeg) :: r) h
    | _ => none) = some (Sum.inl (pc', lv', st', h')) := hs
  split at hs
  next i q r =>
    have hs2 := am_at_some hs
    clear hs
    obtain ⟨n, rs, hp, hs⟩ := hs2
    split at hs
    next => cases hs
    next hi =>
      obtain ⟨rfl, rfl, rfl, rfl, rfl⟩ := am_go_some hs
      first | rfl | exact absurd (show true = false from hA) (by decide)
  next => cases hs
theorem am_sa_iastore (Z : am_Z) : am_SSa Z (.iastore) := by
  intro d M pc len lv lv' st st' h h' pc' hA hs
  replace hs : (match st with
    | .int x :: .int i :: .ref p :: r => am_at h p 100 fun n _ => if am_oob i n = true then none else am_go len 1 pc lv r (h.1, am_upF h.2.1 p i.toNatClampNeg x, h.2.2)
    | _ => none) = some (Sum.inl (pc', lv', st', h')) := hs
  split at hs
  next x i q r =>
    have hs2 := am_at_some hs
    clear hs
    obtain ⟨n, rs, hp, hs⟩ := hs2
    split at hs
    next => cases hs
    next hi =>
      obtain ⟨rfl, rfl, rfl, rfl, rfl⟩ := am_go_some hs
      first | rfl | exact absurd (show true = false from hA) (by decide)
  next => cases hs
theorem am_sa_lastore (Z : am_Z) : am_SSa Z (.lastore) := by
  intro d M pc len lv lv' st st' h h' pc' hA hs
  replace hs : (match st with
    | .long x :: .int i :: .ref p :: r => am_at h p 101 fun n _ => if am_oob i n = true then none else am_go len 1 pc lv r (h.1, h.2.1, am_upL h.2.2 p i.toNatClampNeg x)
    | _ => none) = some (Sum.inl (pc', lv', st', h')) := hs
  split at hs
  next x i q r =>
    have hs2 := am_at_some hs
    clear hs
    obtain ⟨n, rs, hp, hs⟩ := hs2
    split at hs
    next => cases hs
    next hi =>
      obtain ⟨rfl, rfl, rfl, rfl, rfl⟩ := am_go_some hs
      first | rfl | exact absurd (show true = false from hA) (by decide)
  next => cases hs
theorem am_sa_aastore (Z : am_Z) : am_SSa Z (.aastore) := by
  intro d M pc len lv lv' st st' h h' pc' hA hs
  cases hA
theorem am_sa_new (Z : am_Z) (idx : Nat) : am_SSa Z (.new idx) := by
  intro d M pc len lv lv' st st' h h' pc' hA hs
  cases hA
theorem am_sa_newarray_int (Z : am_Z) : am_SSa Z (.newarray .int) := by
  intro d M pc len lv lv' st st' h h' pc' hA hs
  cases hA
theorem am_sa_newarray_long (Z : am_Z) : am_SSa Z (.newarray .long) := by
  intro d M pc len lv lv' st st' h h' pc' hA hs
  cases hA
theorem am_sa_anewarray (Z : am_Z) (idx : Nat) : am_SSa Z (.anewarray idx) := by
  intro d M pc len lv lv' st st' h h' pc' hA hs
  cases hA
theorem am_bi_sa {d b len pc : Nat} {lv lv' : am_LV} {st st' : List Value} {h h' : am_H} {pc' : Nat} (hs : am_bi h d b len pc lv st = some (.inl (pc', lv', st', h'))) : h'.1 = h.1 := by
  unfold am_bi at hs
  split at hs
  next => cases hs
  next d d0 =>
    split at hs
    next =>
      have hs2 := am_p2_some hs
      clear hs
      obtain ⟨x, y, r, rfl, hs⟩ := hs2
      split at hs
      next hw =>
        obtain ⟨rfl, rfl, rfl, rfl, rfl⟩ := am_go_some hs
        first | rfl | exact absurd (show true = false from hA) (by decide)
      next => cases hs
    next =>
      have hs2 := am_p2_some hs
      clear hs
      obtain ⟨x, y, r, rfl, hs⟩ := hs2
      split at hs
      next hw =>
        obtain ⟨rfl, rfl, rfl, rfl, rfl⟩ := am_go_some hs
        first | rfl | exact absurd (show true = false from hA) (by decide)
      next => cases hs
    next =>
      have hs2 := am_p1_some hs
      clear hs
      obtain ⟨x, r, rfl, hs⟩ := hs2
      split at hs
      next hw =>
        obtain ⟨rfl, rfl, rfl, rfl, rfl⟩ := am_go_some hs
        first | rfl | exact absurd (show true = false from hA) (by decide)
      next => cases hs
    next =>
      split at hs
      next n dp a sp a0 r =>
        split at hs
        next hw =>
          have hs2 := am_at_some hs
          clear hs
          obtain ⟨n0, rs0, hp0, hs⟩ := hs2
          have hs2 := am_at_some hs
          clear hs
          obtain ⟨n1, rs1, hp1, hs⟩ := hs2
          split at hs
          next hg =>
            obtain ⟨g1, g2, g3, g4, g5⟩ := hg
            obtain ⟨rfl, rfl, rfl, rfl, rfl⟩ := am_go_some hs
            first | rfl | exact absurd (show true = false from hA) (by decide)
          next => cases hs
        next => cases hs
      next => cases hs
    next => cases hs
theorem am_sa_invokestatic (Z : am_Z) (idx : Nat) : am_SSa Z (.invokestatic idx) := by
  intro d M pc len lv lv' st st' h h' pc' hA hs
  replace hs : (match am_blt M.1 idx with
    | 0 => am_cl h M idx 1 len st
    | b => am_bi h d b len pc lv st) = some (Sum.inl (pc', lv', st', h')) := hs
  split at hs
  next => exact (am_cl_ne hs).elim
  next b hb => exact am_bi_sa hs
theorem am_sa_invokevirtual (Z : am_Z) (idx : Nat) : am_SSa Z (.invokevirtual idx) := by
  intro d M pc len lv lv' st st' h h' pc' hA hs
  replace hs : (am_cl h M idx 2 len st) = some (Sum.inl (pc', lv', st', h')) := hs
  exact (am_cl_ne hs).elim
theorem am_sa_invokespecial (Z : am_Z) (idx : Nat) : am_SSa Z (.invokespecial idx) := by
  intro d M pc len lv lv' st st' h h' pc' hA hs
  replace hs : (match am_blt M.1 idx with
    | 0 => am_cl h M idx 0 len st
    | 5 => match (generalizing := false) d with
      | 0 => none
      | _ + 1 => am_a1 st fun _ r => if am_wd r ≤ 8 then am_go len 3 pc lv r h else none
    | _ => none) = some (Sum.inl (pc', lv', st', h')) := hs
  split at hs
  next => exact (am_cl_ne hs).elim
  next hb =>
    split at hs
    next => cases hs
    next d d0 =>
      have hs2 := am_a1_some hs
      clear hs
      obtain ⟨q, r, rfl, hs⟩ := hs2
      split at hs
      next hw =>
        have hl := am_blt_ok hb (by decide)
        obtain ⟨rfl, rfl, rfl, rfl, rfl⟩ := am_go_some hs
        first | rfl | exact absurd (show true = false from hA) (by decide)
      next => cases hs
  next => cases hs
set_option maxHeartbeats 4000000 in
theorem am_step_sa (Z : am_Z) (i : Jvm.ClassFile.Instr) : am_SSa Z i := by
  cases i with
  | aconst_null  => exact am_sa_aconst_null Z 
  | iconst n => exact am_sa_iconst Z n
  | bipush n => exact am_sa_bipush Z n
  | sipush n => exact am_sa_sipush Z n
  | lconst n => exact am_sa_lconst Z n
  | ldc k => exact am_sa_ldc Z k
  | ldc_w k => exact am_sa_ldc_w Z k
  | ldc2_w k => exact am_sa_ldc2_w Z k
  | iload n => exact am_sa_iload Z n
  | iload_n n => exact am_sa_iload_n Z n
  | lload n => exact am_sa_lload Z n
  | lload_n n => exact am_sa_lload_n Z n
  | aload n => exact am_sa_aload Z n
  | aload_n n => exact am_sa_aload_n Z n
  | istore n => exact am_sa_istore Z n
  | istore_n n => exact am_sa_istore_n Z n
  | lstore n => exact am_sa_lstore Z n
  | lstore_n n => exact am_sa_lstore_n Z n
  | astore n => exact am_sa_astore Z n
  | astore_n n => exact am_sa_astore_n Z n
  | iinc n k => exact am_sa_iinc Z n k
  | iadd  => exact am_sa_iadd Z 
  | isub  => exact am_sa_isub Z 
  | imul  => exact am_sa_imul Z 
  | iand  => exact am_sa_iand Z 
  | ior  => exact am_sa_ior Z 
  | ixor  => exact am_sa_ixor Z 
  | ishl  => exact am_sa_ishl Z 
  | ishr  => exact am_sa_ishr Z 
  | iushr  => exact am_sa_iushr Z 
  | idiv  => exact am_sa_idiv Z 
  | irem  => exact am_sa_irem Z 
  | ineg  => exact am_sa_ineg Z 
  | i2l  => exact am_sa_i2l Z 
  | i2b  => exact am_sa_i2b Z 
  | i2s  => exact am_sa_i2s Z 
  | l2i  => exact am_sa_l2i Z 
  | ladd  => exact am_sa_ladd Z 
  | land  => exact am_sa_land Z 
  | lor  => exact am_sa_lor Z 
  | ldiv  => exact am_sa_ldiv Z 
  | lrem  => exact am_sa_lrem Z 
  | lcmp  => exact am_sa_lcmp Z 
  | lshl  => exact am_sa_lshl Z 
  | dup  => exact am_sa_dup Z 
  | pop  => exact am_sa_pop Z 
  | dup_x1  => exact am_sa_dup_x1 Z 
  | dup2  => exact am_sa_dup2 Z 
  | goto off => exact am_sa_goto Z off
  | ifCond c off =>
    cases c with
    | eq => exact am_sa_ifCond_eq Z off
    | ne => exact am_sa_ifCond_ne Z off
    | lt => exact am_sa_ifCond_lt Z off
    | ge => exact am_sa_ifCond_ge Z off
    | gt => exact am_sa_ifCond_gt Z off
    | le => exact am_sa_ifCond_le Z off
  | if_icmp c off =>
    cases c with
    | eq => exact am_sa_if_icmp_eq Z off
    | ne => exact am_sa_if_icmp_ne Z off
    | lt => exact am_sa_if_icmp_lt Z off
    | ge => exact am_sa_if_icmp_ge Z off
    | gt => exact am_sa_if_icmp_gt Z off
    | le => exact am_sa_if_icmp_le Z off
  | ifnull off => exact am_sa_ifnull Z off
  | ifnonnull off => exact am_sa_ifnonnull Z off
  | tableswitch df lo hi offs => exact am_sa_tableswitch Z df lo hi offs
  | lookupswitch df ps => exact am_sa_lookupswitch Z df ps
  | getfield idx => exact am_sa_getfield Z idx
  | putfield idx => exact am_sa_putfield Z idx
  | getstatic idx => exact am_sa_getstatic Z idx
  | arraylength  => exact am_sa_arraylength Z 
  | iaload  => exact am_sa_iaload Z 
  | laload  => exact am_sa_laload Z 
  | aaload  => exact am_sa_aaload Z 
  | iastore  => exact am_sa_iastore Z 
  | lastore  => exact am_sa_lastore Z 
  | aastore  => exact am_sa_aastore Z 
  | new idx => exact am_sa_new Z idx
  | newarray a =>
    intro d M pc len lv lv' st st' h h' pc' hA hs
    cases hA
  | anewarray idx => exact am_sa_anewarray Z idx
  | invokestatic idx => exact am_sa_invokestatic Z idx
  | invokevirtual idx => exact am_sa_invokevirtual Z idx
  | invokespecial idx => exact am_sa_invokespecial Z idx
  | ireturn =>
    intro d M pc len lv lv' st st' h h' pc' hA hs
    dsimp only [am_step] at hs
    split at hs
    · split at hs <;> cases hs
    · cases hs
  | lreturn =>
    intro d M pc len lv lv' st st' h h' pc' hA hs
    dsimp only [am_step] at hs
    split at hs
    · split at hs <;> cases hs
    · cases hs
  | areturn =>
    intro d M pc len lv lv' st st' h h' pc' hA hs
    dsimp only [am_step] at hs
    split at hs
    · split at hs <;> cases hs
    · cases hs
  | return_ =>
    intro d M pc len lv lv' st st' h h' pc' hA hs
    dsimp only [am_step] at hs
    split at hs
    · split at hs <;> cases hs
    · cases hs
  | _ =>
    intro d M pc len lv lv' st st' h h' pc' hA hs
    cases hs
