/-! ===== instructions over locals and stack, on the machine ===== -/
def pm_len (i : Instr) : Nat := match i with
  | .bipush _ => 2
  | .sipush _ => 3
  | .ldc _ => 2
  | .ldc_w _ => 3
  | .ldc2_w _ => 3
  | .iload _ => 2
  | .lload _ => 2
  | .dload _ => 2
  | .aload _ => 2
  | .istore _ => 2
  | .lstore _ => 2
  | .dstore _ => 2
  | .astore _ => 2
  | .iinc _ _ => 3
  | .getfield _ => 3
  | .putfield _ => 3
  | .new _ => 3
  | .newarray _ => 2
  | .anewarray _ => 3
  | .invokestatic _ => 3
  | .invokevirtual _ => 3
  | .invokespecial _ => 3
  | .ifCond _ _ => 3
  | .if_icmp _ _ => 3
  | .goto _ => 3
  | .nop => 3
  | .pop => 3
  | .dup_x1 => 3
  | .dup_x2 => 3
  | _ => 1
/-- what a row's value and local must be -/
def pm_sok (nL : Nat) (i : Instr) (v : Value) : Bool := match i with
  | .iconst n => decide (v = .int (Int32.ofInt n))
  | .bipush n => decide (v = .int (Int8.ofInt n).toInt32)
  | .sipush n => decide (v = .int (Int16.ofInt n).toInt32)
  | .lconst n => decide (v = .long (Int64.ofNat (n : Nat)))
  | .dconst n => decide (n = 0) && decide (v = .double FP.dconst0)
  | .istore_n k => decide ((k : Nat) < nL)
  | .istore k => decide (k < nL)
  | .astore_n k => decide ((k : Nat) < nL)
  | .astore k => decide (k < nL)
  | .lstore_n k => decide ((k : Nat) + 1 < nL)
  | .lstore k => decide (k + 1 < nL)
  | .dstore k => decide (k + 1 < nL)
  | .iinc k n => decide (k < nL) && decide (v = .int (Int32.ofInt n))
  | _ => true
def pm_kc (own : String) (args : Array Value) (s : State) (i : Instr) (v : Value) : Prop := match i with
  | .ldc idx => ∃ x, v = .int x ∧ (Cond.constant own idx x).before args s = true
  | .ldc_w idx => ∃ x, v = .int x ∧ (Cond.constant own idx x).before args s = true
  | .ldc2_w idx => ∃ x, v = .long x ∧ (Cond.constantLong own idx x).before args s = true
  | _ => True
def pm_bt (pc : Nat) (i : Instr) (tgt : Nat) : Prop := match i with
  | .ifCond _ off => (pc : Int) + off = (tgt : Int)
  | .if_icmp _ off => (pc : Int) + off = (tgt : Int)
  | _ => False
theorem pm_nr_int {x : Int32} : pm_nr (.int x) := fun _ h => by cases h
theorem pm_nr_long {x : Int64} : pm_nr (.long x) := fun _ h => by cases h
theorem pm_nr_double {x : UInt64} : pm_nr (.double x) := fun _ h => by cases h
theorem pm_nr_ref {x : Nat} : pm_nr (.ref x) := fun _ h => by cases h
section SOP
variable {p : Program} {l : Launch} {e : Env} {R : Room} {s : State} {m : MethodId} {args : Array Value} {below : List Frame} {meth : Method} {c : Code} {H : Heap} {locs : List Loc} {cells slots : Nat} {Q : State → Prop}
set_option maxHeartbeats 4000000 in
theorem pm_sop_ok {cc : ByteArray} {pc nL : Nat} {ls : Array Slot} {own : String} {i : Instr} {v : Value} {L S L' S' : List Value} (hexec : p.tables.exec = Jvm.exec) (hb : c.code = cc) (hown : s.vm.findClass own = some m.cls) (hd : decode cc pc = .ok (i, pm_len i)) (hk : pm_sok nL i v = true) (hkc : pm_kc own args s i v) (h : pm_sop i v L S = some (L', S')) (hl : pm_lr ls nL L)
    (kk : ∀ ls', pm_lr ls' nL L' → W p l e R s m args below meth c H locs cells slots Q (F0 m (pc + pm_len i) ls' S')) : W p l e R s m args below meth c H locs cells slots Q (F0 m pc ls S) := by
  unfold pm_sop at h
  split at h
  -- constants
  · cases h; simp only [pm_sok, decide_eq_true_eq] at hk; subst hk; exact lv_iconst hexec hb hd rfl (kk ls hl)
  · cases h; simp only [pm_sok, decide_eq_true_eq] at hk; subst hk; exact lv_bipush hexec hb hd rfl (kk ls hl)
  · cases h; simp only [pm_sok, decide_eq_true_eq] at hk; subst hk; exact lv_sipush hexec hb hd rfl (kk ls hl)
  · cases h; simp only [pm_sok, decide_eq_true_eq] at hk; subst hk; exact lv_lconst hexec hb hd rfl (kk ls hl)
  · cases h; simp only [pm_sok, Bool.and_eq_true, decide_eq_true_eq] at hk; obtain ⟨h1, h2⟩ := hk; subst h1; subst h2; exact lv_dconst0 hexec hb hd (kk ls hl)
  · cases h; obtain ⟨x, h1, h2⟩ := hkc; subst h1; exact lv_ldc hexec hb hown h2 hd (kk ls hl)
  · cases h; obtain ⟨x, h1, h2⟩ := hkc; subst h1; exact lv_ldcw hexec hb hown h2 hd (kk ls hl)
  · cases h; obtain ⟨x, h1, h2⟩ := hkc; subst h1; exact lv_ldc2 hexec hb hown h2 hd (kk ls hl)
  -- loads
  · split at h
    · rename_i hL; cases h; exact lv_iload_n hexec hb hd rfl (pm_lr_at hl hL pm_nr_int) (kk ls hl)
    · cases h
  · split at h
    · rename_i hL; cases h; exact lv_iload hexec hb hd (pm_lr_at hl hL pm_nr_int) (kk ls hl)
    · cases h
  · split at h
    · rename_i hL; cases h; exact lv_lload_n hexec hb hd rfl (pm_lr_at hl hL pm_nr_long) (kk ls hl)
    · cases h
  · split at h
    · rename_i hL; cases h; exact lv_lload hexec hb hd (pm_lr_at hl hL pm_nr_long) (kk ls hl)
    · cases h
  · split at h
    · rename_i hL; cases h; exact lv_dload hexec hb hd (pm_lr_at hl hL pm_nr_double) (kk ls hl)
    · cases h
  · split at h
    · rename_i hL; cases h; exact lv_aload_n hexec hb hd rfl (pm_lr_at hl hL pm_nr_ref) (kk ls hl)
    · cases h
  · split at h
    · rename_i hL; cases h; exact lv_aload hexec hb hd (pm_lr_at hl hL pm_nr_ref) (kk ls hl)
    · cases h
  -- stores
  · cases h; simp only [pm_sok, decide_eq_true_eq] at hk; exact lv_istore_n hexec hb hd rfl hl hk rfl (fun ls' h' => kk ls' (pm_lr_st h'))
  · cases h; simp only [pm_sok, decide_eq_true_eq] at hk; exact lv_istore hexec hb hd hl hk rfl (fun ls' h' => kk ls' (pm_lr_st h'))
  · cases h; simp only [pm_sok, decide_eq_true_eq] at hk; exact lv_astore_n hexec hb hd rfl hl hk rfl (fun ls' h' => kk ls' (pm_lr_st h'))
  · cases h; simp only [pm_sok, decide_eq_true_eq] at hk; exact lv_astore hexec hb hd hl hk rfl (fun ls' h' => kk ls' (pm_lr_st h'))
  · cases h; simp only [pm_sok, decide_eq_true_eq] at hk; exact lv_lstore_n hexec hb hd rfl hl hk rfl (fun ls' h' => kk ls' (pm_lr_st2 h'))
  · cases h; simp only [pm_sok, decide_eq_true_eq] at hk; exact lv_lstore hexec hb hd hl hk rfl (fun ls' h' => kk ls' (pm_lr_st2 h'))
  · cases h; simp only [pm_sok, decide_eq_true_eq] at hk; exact lv_dstore hexec hb hd hl hk rfl (fun ls' h' => kk ls' (pm_lr_st2 h'))
  · split at h
    · rename_i x c9 hL
      cases h
      simp only [pm_sok, Bool.and_eq_true, decide_eq_true_eq, Value.int.injEq] at hk
      obtain ⟨h1, h2⟩ := hk
      have hm := (pm_asf_mem L 0 (_, Value.int x)).mpr ⟨_, (Nat.zero_add _).symm, hL, pm_nr_int⟩
      obtain ⟨z, hz⟩ := List.getElem?_of_mem hm
      exact lv_iinc hexec hb hd hl hz (by rw [h2]) h1 rfl (fun ls' h' => kk ls' (pm_lr_st h'))
    · cases h
  -- arithmetic
  · cases h; exact lv_iadd hexec hb hd (kk ls hl)
  · cases h; exact lv_isub hexec hb hd (kk ls hl)
  · cases h; exact lv_imul hexec hb hd (kk ls hl)
  · cases h; exact lv_iand hexec hb hd (kk ls hl)
  · cases h; exact lv_ior hexec hb hd (kk ls hl)
  · cases h; exact lv_ixor hexec hb hd (kk ls hl)
  · cases h; exact lv_ineg hexec hb hd (kk ls hl)
  · cases h; exact lv_ishl hexec hb hd (kk ls hl)
  · cases h; exact lv_ishr hexec hb hd (kk ls hl)
  · cases h; exact lv_ladd hexec hb hd (kk ls hl)
  · cases h; exact lv_lsub hexec hb hd (kk ls hl)
  · cases h; exact lv_lmul hexec hb hd (kk ls hl)
  · cases h; exact lv_land hexec hb hd (kk ls hl)
  · cases h; exact lv_lor hexec hb hd (kk ls hl)
  · cases h; exact lv_lxor hexec hb hd (kk ls hl)
  · cases h; exact lv_lushr hexec hb hd rfl (kk ls hl)
  · cases h; exact lv_lshl hexec hb hd rfl (kk ls hl)
  · cases h; exact lv_lshr hexec hb hd rfl (kk ls hl)
  · cases h; exact lv_i2l hexec hb hd rfl (kk ls hl)
  · cases h; exact lv_l2i hexec hb hd rfl (kk ls hl)
  · cases h; exact lv_i2b hexec hb hd rfl (kk ls hl)
  · cases h; exact lv_i2c hexec hb hd rfl (kk ls hl)
  · cases h; exact lv_l2d hexec hb hd (kk ls hl)
  · cases h; exact W.lcmp hexec hb hd (kk ls hl)
  · cases h; exact lv_dcmp hexec hb hd (kk ls hl)
  · cases h; exact lv_dup hexec hb hd rfl (kk ls hl)
  · cases h; exact lv_dup hexec hb hd rfl (kk ls hl)
  · cases h; exact lv_dup2_11 hexec hb hd rfl rfl (kk ls hl)
  · cases h
theorem pm_bop_ok {cc : ByteArray} {pc tgt : Nat} {ls : Array Slot} {i : Instr} {S S' : List Value} {q : Prop} {sw : Bool} (hexec : p.tables.exec = Jvm.exec) (hb : c.code = cc) (hd : decode cc pc = .ok (i, 3))
    (ht : pm_bt pc i tgt) (h : pm_bop i S = some (q, sw, S'))
    (k1 : q → W p l e R s m args below meth c H locs cells slots Q (F0 m (if sw then pc + 3 else tgt) ls S')) (k2 : ¬ q → W p l e R s m args below meth c H locs cells slots Q (F0 m (if sw then tgt else pc + 3) ls S')) : W p l e R s m args below meth c H locs cells slots Q (F0 m pc ls S) := by
  unfold pm_bop at h
  split at h <;> cases h
  · exact lv_if_eq hexec hb hd ht k1 k2
  · exact lv_if_ne hexec hb hd ht k2 k1
  · exact lv_if_lt hexec hb hd ht k1 k2
  · exact lv_if_ge hexec hb hd ht k1 k2
  · exact lv_if_gt hexec hb hd ht k1 k2
  · exact lv_if_le hexec hb hd ht k1 k2
  · exact lv_icmp_eq hexec hb hd ht k1 k2
  · exact lv_icmp_ne hexec hb hd ht k2 k1
  · exact lv_icmp_lt hexec hb hd ht k1 k2
  · exact lv_icmp_ge hexec hb hd ht k1 k2
  · exact lv_icmp_gt hexec hb hd ht k1 k2
  · exact lv_icmp_le hexec hb hd ht k1 k2
end SOP
