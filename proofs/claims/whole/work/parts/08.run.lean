/-! ===== runs of the abstract machine, and that they are the machine's ===== -/
def am_ret (M : am_M) (st : List Value) (i : Jvm.ClassFile.Instr) (len : Nat) : Option (Option Value) := match i with
  | .ireturn => match st, M.2.2.2.2 with
    | [.int v], some ty => if len = 1 ∧ narrow ty (.int v) = .int v then some (some (.int v)) else none
    | _, _ => none
  | .lreturn => match st, M.2.2.2.2 with
    | [.long v], some .long => if len = 1 then some (some (.long v)) else none
    | _, _ => none
  | .areturn => match st, M.2.2.2.2 with
    | [v], some (.object _) => if len = 1 ∧ am_isr v = true then some (some v) else none
    | _, _ => none
  | .return_ => match st, M.2.2.2.2 with
    | [], none => if len = 1 then some none else none
    | _, _ => none
  | _ => none
def am_cx (o : Option am_R) : Option (am_M × List Value × List Value) := match o with
  | some (.inr (.inr x)) => some x
  | _ => none
def am_cq (h : am_H) (M : am_M) (st : List Value) (i : Jvm.ClassFile.Instr) (len : Nat) : Option (am_M × List Value × List Value) := match i with
  | .invokevirtual idx => am_cx (am_cl h M idx 2 len st)
  | .invokestatic idx => am_cx (am_cl h M idx 1 len st)
  | .invokespecial idx => am_cx (am_cl h M idx 0 len st)
  | _ => none
def am_esl (vs : List Value) : am_LV := vs.flatMap fun v => if v.category = 2 then [some v, none] else [some v]
def am_ent (N : am_M) (vs : List Value) : am_LV := am_esl vs ++ List.replicate (N.2.2.2.1 - (am_esl vs).length) none
/-- the run of a frame, to its end, with so much fuel; d: how many frames may lie on it -/
def am_run (Z : am_Z) : Nat → Nat → am_M → am_F → Option (Option Value × am_H)
  | 0, _, _, _ => none
  | n + 1, d, M, f => match decode M.2.2.1 f.1 with
    | .error _ => none
    | .ok x => match am_step Z d M f.1 f.2.1 f.2.2.1 f.2.2.2 x.1 x.2 with
      | some (.inl g) => am_run Z n d M g
      | _ => match am_ret M f.2.2.1 x.1 x.2 with
        | some r => some (r, f.2.2.2)
        | none => match am_cq f.2.2.2 M f.2.2.1 x.1 x.2 with
          | none => none
          | some y => match d with
            | 0 => none
            | d' + 1 => if (am_esl y.2.1).length ≤ y.1.2.2.2.1 then match am_run Z n d' y.1 (0, am_ent y.1 y.2.1, [], f.2.2.2) with
                | none => none
                | some z => if z.2.1.length = f.2.2.2.1.length ∨ am_fresh f.2.2.2.1.length f.2.1 y.2.2 = true then am_run Z n (d' + 1) M (f.1 + 3, f.2.1, z.1.toList ++ y.2.2, z.2) else none
              else none
set_option maxHeartbeats 4000000 in
theorem am_step_ok (Z : am_Z) (i : Jvm.ClassFile.Instr) : am_SOk Z i := by
  cases i with
  | aconst_null  => exact am_ok_aconst_null Z 
  | iconst n => exact am_ok_iconst Z n
  | bipush n => exact am_ok_bipush Z n
  | sipush n => exact am_ok_sipush Z n
  | lconst n => exact am_ok_lconst Z n
  | ldc k => exact am_ok_ldc Z k
  | ldc_w k => exact am_ok_ldc_w Z k
  | ldc2_w k => exact am_ok_ldc2_w Z k
  | iload n => exact am_ok_iload Z n
  | iload_n n => exact am_ok_iload_n Z n
  | lload n => exact am_ok_lload Z n
  | lload_n n => exact am_ok_lload_n Z n
  | aload n => exact am_ok_aload Z n
  | aload_n n => exact am_ok_aload_n Z n
  | istore n => exact am_ok_istore Z n
  | istore_n n => exact am_ok_istore_n Z n
  | lstore n => exact am_ok_lstore Z n
  | lstore_n n => exact am_ok_lstore_n Z n
  | astore n => exact am_ok_astore Z n
  | astore_n n => exact am_ok_astore_n Z n
  | iinc n k => exact am_ok_iinc Z n k
  | iadd  => exact am_ok_iadd Z 
  | isub  => exact am_ok_isub Z 
  | imul  => exact am_ok_imul Z 
  | iand  => exact am_ok_iand Z 
  | ior  => exact am_ok_ior Z 
  | ixor  => exact am_ok_ixor Z 
  | ishl  => exact am_ok_ishl Z 
  | ishr  => exact am_ok_ishr Z 
  | iushr  => exact am_ok_iushr Z 
  | idiv  => exact am_ok_idiv Z 
  | irem  => exact am_ok_irem Z 
  | ineg  => exact am_ok_ineg Z 
  | i2l  => exact am_ok_i2l Z 
  | i2b  => exact am_ok_i2b Z 
  | i2s  => exact am_ok_i2s Z 
  | l2i  => exact am_ok_l2i Z 
  | ladd  => exact am_ok_ladd Z 
  | land  => exact am_ok_land Z 
  | lor  => exact am_ok_lor Z 
  | ldiv  => exact am_ok_ldiv Z 
  | lrem  => exact am_ok_lrem Z 
  | lcmp  => exact am_ok_lcmp Z 
  | lshl  => exact am_ok_lshl Z 
  | dup  => exact am_ok_dup Z 
  | pop  => exact am_ok_pop Z 
  | dup_x1  => exact am_ok_dup_x1 Z 
  | dup2  => exact am_ok_dup2 Z 
  | goto off => exact am_ok_goto Z off
  | ifCond c off =>
    cases c with
    | eq => exact am_ok_ifCond_eq Z off
    | ne => exact am_ok_ifCond_ne Z off
    | lt => exact am_ok_ifCond_lt Z off
    | ge => exact am_ok_ifCond_ge Z off
    | gt => exact am_ok_ifCond_gt Z off
    | le => exact am_ok_ifCond_le Z off
  | if_icmp c off =>
    cases c with
    | eq => exact am_ok_if_icmp_eq Z off
    | ne => exact am_ok_if_icmp_ne Z off
    | lt => exact am_ok_if_icmp_lt Z off
    | ge => exact am_ok_if_icmp_ge Z off
    | gt => exact am_ok_if_icmp_gt Z off
    | le => exact am_ok_if_icmp_le Z off
  | ifnull off => exact am_ok_ifnull Z off
  | ifnonnull off => exact am_ok_ifnonnull Z off
  | tableswitch df lo hi offs => exact am_ok_tableswitch Z df lo hi offs
  | lookupswitch df ps => exact am_ok_lookupswitch Z df ps
  | getfield idx => exact am_ok_getfield Z idx
  | putfield idx => exact am_ok_putfield Z idx
  | getstatic idx => exact am_ok_getstatic Z idx
  | arraylength  => exact am_ok_arraylength Z 
  | iaload  => exact am_ok_iaload Z 
  | laload  => exact am_ok_laload Z 
  | aaload  => exact am_ok_aaload Z 
  | iastore  => exact am_ok_iastore Z 
  | lastore  => exact am_ok_lastore Z 
  | aastore  => exact am_ok_aastore Z 
  | new idx => exact am_ok_new Z idx
  | newarray a =>
    cases a with
    | int => exact am_ok_newarray_int Z
    | long => exact am_ok_newarray_long Z
    | _ =>
      intro p l e R s m args below meth c Q D κ zs α A d M pc len cells slots lv lv' st st' h h' pc' H locs ls hX hW hL hd hs hc hz kk
      obtain ⟨n, r, rfl, hs1⟩ := am_p1_some hs
      split at hs1 <;> cases hs1
  | anewarray idx => exact am_ok_anewarray Z idx
  | invokestatic idx => exact am_ok_invokestatic Z idx
  | invokevirtual idx => exact am_ok_invokevirtual Z idx
  | invokespecial idx => exact am_ok_invokespecial Z idx
  | ireturn =>
    intro p l e R s m args below meth c Q D κ zs α A d M pc len cells slots lv lv' st st' h h' pc' H locs ls hX hW hL hd hs hc hz kk
    dsimp only [am_step] at hs
    split at hs
    · split at hs <;> cases hs
    · cases hs
  | lreturn =>
    intro p l e R s m args below meth c Q D κ zs α A d M pc len cells slots lv lv' st st' h h' pc' H locs ls hX hW hL hd hs hc hz kk
    dsimp only [am_step] at hs
    split at hs
    · split at hs <;> cases hs
    · cases hs
  | areturn =>
    intro p l e R s m args below meth c Q D κ zs α A d M pc len cells slots lv lv' st st' h h' pc' H locs ls hX hW hL hd hs hc hz kk
    dsimp only [am_step] at hs
    split at hs
    · split at hs <;> cases hs
    · cases hs
  | return_ =>
    intro p l e R s m args below meth c Q D κ zs α A d M pc len cells slots lv lv' st st' h h' pc' H locs ls hX hW hL hd hs hc hz kk
    dsimp only [am_step] at hs
    split at hs
    · split at hs <;> cases hs
    · cases hs
  | _ =>
    intro p l e R s m args below meth c Q D κ zs α A d M pc len cells slots lv lv' st st' h h' pc' H locs ls hX hW hL hd hs hc hz kk
    cases hs
