abbrev zD (b : ByteArray) (pc : Nat) (i : Instr) (n pc2 : Nat) : Prop := decode b pc = .ok (i, n) ∧ pc + n = pc2
section ZR
variable {P : zP} {M : zM} {R : Room} {F : zF} {n1 n2 pc : Nat} {l : List (Option zV)} {st : List zV} {μ : zMem}
theorem z_o {v : zV} (h : z_ok P v) (h2 : ∀ w ∈ st, z_ok P w) : ∀ w ∈ v :: st, z_ok P w := fun w hw => (List.mem_cons.mp hw).elim (fun e => e ▸ h) (h2 w)
theorem z_t {v : zV} (h : ∀ w ∈ v :: st, z_ok P w) : ∀ w ∈ st, z_ok P w := fun w hw => h w (List.mem_cons_of_mem _ hw)
theorem z_h {v : zV} (h : ∀ w ∈ v :: st, z_ok P w) : z_ok P v := h v List.mem_cons_self
theorem z_RQ.eq {pc' : Nat} (e : pc = pc') (k : z_RQ P M R F n1 n2 pc' l st μ) : z_RQ P M R F n1 n2 pc l st μ := e ▸ k

theorem zr_iadd {pc' : Nat} {x y : Int32} (hd : zD M.2.1 pc (.iadd) 1 pc') (k : z_RQ P M R F n1 n2 pc' l (zI (x + y) :: st) μ) : z_RQ P M R F n1 n2 pc l (zI y :: zI x :: st) μ := by
  obtain ⟨hd, rfl⟩ := hd
  intro p e s m args below meth c C H locs ls h1 h2 h3 h4
  exact lv_iadd C.1 C.2.1 hd (k p e s m args below meth c C H locs ls h1 h2 h3 (z_o trivial (z_t (z_t h4))))
theorem zr_isub {pc' : Nat} {x y : Int32} (hd : zD M.2.1 pc (.isub) 1 pc') (k : z_RQ P M R F n1 n2 pc' l (zI (x - y) :: st) μ) : z_RQ P M R F n1 n2 pc l (zI y :: zI x :: st) μ := by
  obtain ⟨hd, rfl⟩ := hd
  intro p e s m args below meth c C H locs ls h1 h2 h3 h4
  exact lv_isub C.1 C.2.1 hd (k p e s m args below meth c C H locs ls h1 h2 h3 (z_o trivial (z_t (z_t h4))))
theorem zr_imul {pc' : Nat} {x y : Int32} (hd : zD M.2.1 pc (.imul) 1 pc') (k : z_RQ P M R F n1 n2 pc' l (zI (x * y) :: st) μ) : z_RQ P M R F n1 n2 pc l (zI y :: zI x :: st) μ := by
  obtain ⟨hd, rfl⟩ := hd
  intro p e s m args below meth c C H locs ls h1 h2 h3 h4
  exact lv_imul C.1 C.2.1 hd (k p e s m args below meth c C H locs ls h1 h2 h3 (z_o trivial (z_t (z_t h4))))
theorem zr_iand {pc' : Nat} {x y : Int32} (hd : zD M.2.1 pc (.iand) 1 pc') (k : z_RQ P M R F n1 n2 pc' l (zI (x &&& y) :: st) μ) : z_RQ P M R F n1 n2 pc l (zI y :: zI x :: st) μ := by
  obtain ⟨hd, rfl⟩ := hd
  intro p e s m args below meth c C H locs ls h1 h2 h3 h4
  exact lv_iand C.1 C.2.1 hd (k p e s m args below meth c C H locs ls h1 h2 h3 (z_o trivial (z_t (z_t h4))))
theorem zr_ior {pc' : Nat} {x y : Int32} (hd : zD M.2.1 pc (.ior) 1 pc') (k : z_RQ P M R F n1 n2 pc' l (zI (x ||| y) :: st) μ) : z_RQ P M R F n1 n2 pc l (zI y :: zI x :: st) μ := by
  obtain ⟨hd, rfl⟩ := hd
  intro p e s m args below meth c C H locs ls h1 h2 h3 h4
  exact lv_ior C.1 C.2.1 hd (k p e s m args below meth c C H locs ls h1 h2 h3 (z_o trivial (z_t (z_t h4))))
theorem zr_ixor {pc' : Nat} {x y : Int32} (hd : zD M.2.1 pc (.ixor) 1 pc') (k : z_RQ P M R F n1 n2 pc' l (zI (x ^^^ y) :: st) μ) : z_RQ P M R F n1 n2 pc l (zI y :: zI x :: st) μ := by
  obtain ⟨hd, rfl⟩ := hd
  intro p e s m args below meth c C H locs ls h1 h2 h3 h4
  exact lv_ixor C.1 C.2.1 hd (k p e s m args below meth c C H locs ls h1 h2 h3 (z_o trivial (z_t (z_t h4))))
theorem zr_ishl {pc' : Nat} {x y : Int32} (hd : zD M.2.1 pc (.ishl) 1 pc') (k : z_RQ P M R F n1 n2 pc' l (zI (x <<< (y &&& 31)) :: st) μ) : z_RQ P M R F n1 n2 pc l (zI y :: zI x :: st) μ := by
  obtain ⟨hd, rfl⟩ := hd
  intro p e s m args below meth c C H locs ls h1 h2 h3 h4
  exact lv_ishl C.1 C.2.1 hd (k p e s m args below meth c C H locs ls h1 h2 h3 (z_o trivial (z_t (z_t h4))))
theorem zr_ishr {pc' : Nat} {x y : Int32} (hd : zD M.2.1 pc (.ishr) 1 pc') (k : z_RQ P M R F n1 n2 pc' l (zI (x >>> (y &&& 31)) :: st) μ) : z_RQ P M R F n1 n2 pc l (zI y :: zI x :: st) μ := by
  obtain ⟨hd, rfl⟩ := hd
  intro p e s m args below meth c C H locs ls h1 h2 h3 h4
  exact lv_ishr C.1 C.2.1 hd (k p e s m args below meth c C H locs ls h1 h2 h3 (z_o trivial (z_t (z_t h4))))
theorem zr_iushr {pc' : Nat} {x y : Int32} (hd : zD M.2.1 pc (.iushr) 1 pc') (k : z_RQ P M R F n1 n2 pc' l (zI ((x.toUInt32 >>> (y.toUInt32 &&& Int32.toUInt32 31)).toInt32) :: st) μ) : z_RQ P M R F n1 n2 pc l (zI y :: zI x :: st) μ := by
  obtain ⟨hd, rfl⟩ := hd
  intro p e s m args below meth c C H locs ls h1 h2 h3 h4
  exact lv_iushr C.1 C.2.1 hd rfl (k p e s m args below meth c C H locs ls h1 h2 h3 (z_o trivial (z_t (z_t h4))))
theorem zr_idiv {pc' : Nat} {x y : Int32} (hd : zD M.2.1 pc (.idiv) 1 pc') (hne : ¬ y = 0) (k : z_RQ P M R F n1 n2 pc' l (zI (x / y) :: st) μ) : z_RQ P M R F n1 n2 pc l (zI y :: zI x :: st) μ := by
  obtain ⟨hd, rfl⟩ := hd
  intro p e s m args below meth c C H locs ls h1 h2 h3 h4
  exact lv_idiv C.1 C.2.1 hd hne (k p e s m args below meth c C H locs ls h1 h2 h3 (z_o trivial (z_t (z_t h4))))
theorem zr_irem {pc' : Nat} {x y : Int32} (hd : zD M.2.1 pc (.irem) 1 pc') (hne : ¬ y = 0) (k : z_RQ P M R F n1 n2 pc' l (zI (x - x / y * y) :: st) μ) : z_RQ P M R F n1 n2 pc l (zI y :: zI x :: st) μ := by
  obtain ⟨hd, rfl⟩ := hd
  intro p e s m args below meth c C H locs ls h1 h2 h3 h4
  exact lv_irem C.1 C.2.1 hd hne (k p e s m args below meth c C H locs ls h1 h2 h3 (z_o trivial (z_t (z_t h4))))
theorem zr_ladd {pc' : Nat} {x y : Int64} (hd : zD M.2.1 pc (.ladd) 1 pc') (k : z_RQ P M R F n1 n2 pc' l (zL (x + y) :: st) μ) : z_RQ P M R F n1 n2 pc l (zL y :: zL x :: st) μ := by
  obtain ⟨hd, rfl⟩ := hd
  intro p e s m args below meth c C H locs ls h1 h2 h3 h4
  exact lv_ladd C.1 C.2.1 hd (k p e s m args below meth c C H locs ls h1 h2 h3 (z_o trivial (z_t (z_t h4))))
theorem zr_lmul {pc' : Nat} {x y : Int64} (hd : zD M.2.1 pc (.lmul) 1 pc') (k : z_RQ P M R F n1 n2 pc' l (zL (x * y) :: st) μ) : z_RQ P M R F n1 n2 pc l (zL y :: zL x :: st) μ := by
  obtain ⟨hd, rfl⟩ := hd
  intro p e s m args below meth c C H locs ls h1 h2 h3 h4
  exact lv_lmul C.1 C.2.1 hd (k p e s m args below meth c C H locs ls h1 h2 h3 (z_o trivial (z_t (z_t h4))))
theorem zr_lcmp {pc' : Nat} {x y : Int64} (hd : zD M.2.1 pc (.lcmp) 1 pc') (k : z_RQ P M R F n1 n2 pc' l (zI (lg_cmp x y) :: st) μ) : z_RQ P M R F n1 n2 pc l (zL y :: zL x :: st) μ := by
  obtain ⟨hd, rfl⟩ := hd
  intro p e s m args below meth c C H locs ls h1 h2 h3 h4
  exact W.lcmp C.1 C.2.1 hd (k p e s m args below meth c C H locs ls h1 h2 h3 (z_o trivial (z_t (z_t h4))))
theorem zr_i2l {pc' : Nat} {x : Int32} (hd : zD M.2.1 pc (.i2l) 1 pc') (k : z_RQ P M R F n1 n2 pc' l (zL x.toInt64 :: st) μ) : z_RQ P M R F n1 n2 pc l (zI x :: st) μ := by
  obtain ⟨hd, rfl⟩ := hd
  intro p e s m args below meth c C H locs ls h1 h2 h3 h4
  exact lv_i2l C.1 C.2.1 hd rfl (k p e s m args below meth c C H locs ls h1 h2 h3 (z_o trivial (z_t h4)))
theorem zr_l2i {pc' : Nat} {x : Int64} (hd : zD M.2.1 pc (.l2i) 1 pc') (k : z_RQ P M R F n1 n2 pc' l (zI x.toInt32 :: st) μ) : z_RQ P M R F n1 n2 pc l (zL x :: st) μ := by
  obtain ⟨hd, rfl⟩ := hd
  intro p e s m args below meth c C H locs ls h1 h2 h3 h4
  exact lv_l2i C.1 C.2.1 hd rfl (k p e s m args below meth c C H locs ls h1 h2 h3 (z_o trivial (z_t h4)))
theorem zr_i2b {pc' : Nat} {x : Int32} (hd : zD M.2.1 pc (.i2b) 1 pc') (k : z_RQ P M R F n1 n2 pc' l (zI x.toInt8.toInt32 :: st) μ) : z_RQ P M R F n1 n2 pc l (zI x :: st) μ := by
  obtain ⟨hd, rfl⟩ := hd
  intro p e s m args below meth c C H locs ls h1 h2 h3 h4
  exact lv_i2b C.1 C.2.1 hd rfl (k p e s m args below meth c C H locs ls h1 h2 h3 (z_o trivial (z_t h4)))
theorem zr_i2c {pc' : Nat} {x : Int32} (hd : zD M.2.1 pc (.i2c) 1 pc') (k : z_RQ P M R F n1 n2 pc' l (zI (x.toUInt32 % 65536).toInt32 :: st) μ) : z_RQ P M R F n1 n2 pc l (zI x :: st) μ := by
  obtain ⟨hd, rfl⟩ := hd
  intro p e s m args below meth c C H locs ls h1 h2 h3 h4
  exact lv_i2c C.1 C.2.1 hd rfl (k p e s m args below meth c C H locs ls h1 h2 h3 (z_o trivial (z_t h4)))
theorem zr_dupi {pc' : Nat} {x : Int32} (hd : zD M.2.1 pc (.dup) 1 pc') (k : z_RQ P M R F n1 n2 pc' l (zI x :: zI x :: st) μ) : z_RQ P M R F n1 n2 pc l (zI x :: st) μ := by
  obtain ⟨hd, rfl⟩ := hd
  intro p e s m args below meth c C H locs ls h1 h2 h3 h4
  exact lv_dup C.1 C.2.1 hd rfl (k p e s m args below meth c C H locs ls h1 h2 h3 (z_o trivial h4))
theorem zr_dupa {pc' : Nat} {q i : Nat} (hd : zD M.2.1 pc (.dup) 1 pc') (k : z_RQ P M R F n1 n2 pc' l (zA q i :: zA q i :: st) μ) : z_RQ P M R F n1 n2 pc l (zA q i :: st) μ := by
  obtain ⟨hd, rfl⟩ := hd
  intro p e s m args below meth c C H locs ls h1 h2 h3 h4
  exact lv_dup C.1 C.2.1 hd rfl (k p e s m args below meth c C H locs ls h1 h2 h3 (z_o (z_h h4) h4))
theorem zr_dup2 {pc' : Nat} {x : Int32} {q i : Nat} (hd : zD M.2.1 pc (.dup2) 1 pc') (k : z_RQ P M R F n1 n2 pc' l (zI x :: zA q i :: zI x :: zA q i :: st) μ) : z_RQ P M R F n1 n2 pc l (zI x :: zA q i :: st) μ := by
  obtain ⟨hd, rfl⟩ := hd
  intro p e s m args below meth c C H locs ls h1 h2 h3 h4
  exact lv_dup2_11 C.1 C.2.1 hd rfl rfl (k p e s m args below meth c C H locs ls h1 h2 h3 (z_o trivial (z_o (z_h (z_t h4)) h4)))
theorem zr_popi {pc' : Nat} {x : Int32} (hd : zD M.2.1 pc (.pop) 1 pc') (k : z_RQ P M R F n1 n2 pc' l st μ) : z_RQ P M R F n1 n2 pc l (zI x :: st) μ := by
  obtain ⟨hd, rfl⟩ := hd
  intro p e s m args below meth c C H locs ls h1 h2 h3 h4
  exact lv_pop C.1 C.2.1 hd rfl (k p e s m args below meth c C H locs ls h1 h2 h3 (z_t h4))
theorem zr_popa {pc' : Nat} {q i : Nat} (hd : zD M.2.1 pc (.pop) 1 pc') (k : z_RQ P M R F n1 n2 pc' l st μ) : z_RQ P M R F n1 n2 pc l (zA q i :: st) μ := by
  obtain ⟨hd, rfl⟩ := hd
  intro p e s m args below meth c C H locs ls h1 h2 h3 h4
  exact lv_pop C.1 C.2.1 hd rfl (k p e s m args below meth c C H locs ls h1 h2 h3 (z_t h4))
theorem zr_iconst {pc' : Nat} {n : Int} {v : Int32} (hd : zD M.2.1 pc (.iconst n) 1 pc') (hv : Int32.ofInt n = v) (k : z_RQ P M R F n1 n2 pc' l (zI v :: st) μ) : z_RQ P M R F n1 n2 pc l st μ := by
  obtain ⟨hd, rfl⟩ := hd
  intro p e s m args below meth c C H locs ls h1 h2 h3 h4
  exact lv_iconst C.1 C.2.1 hd hv (k p e s m args below meth c C H locs ls h1 h2 h3 (z_o trivial h4))
theorem zr_bipush {pc' : Nat} {n : Int} {v : Int32} (hd : zD M.2.1 pc (.bipush n) 2 pc') (hv : (Int8.ofInt n).toInt32 = v) (k : z_RQ P M R F n1 n2 pc' l (zI v :: st) μ) : z_RQ P M R F n1 n2 pc l st μ := by
  obtain ⟨hd, rfl⟩ := hd
  intro p e s m args below meth c C H locs ls h1 h2 h3 h4
  exact lv_bipush C.1 C.2.1 hd hv (k p e s m args below meth c C H locs ls h1 h2 h3 (z_o trivial h4))
theorem zr_sipush {pc' : Nat} {n : Int} {v : Int32} (hd : zD M.2.1 pc (.sipush n) 3 pc') (hv : (Int16.ofInt n).toInt32 = v) (k : z_RQ P M R F n1 n2 pc' l (zI v :: st) μ) : z_RQ P M R F n1 n2 pc l st μ := by
  obtain ⟨hd, rfl⟩ := hd
  intro p e s m args below meth c C H locs ls h1 h2 h3 h4
  exact lv_sipush C.1 C.2.1 hd hv (k p e s m args below meth c C H locs ls h1 h2 h3 (z_o trivial h4))
theorem zr_lconst {pc' : Nat} {n : Fin 2} {v : Int64} (hd : zD M.2.1 pc (.lconst n) 1 pc') (hv : Int64.ofNat (n : Nat) = v) (k : z_RQ P M R F n1 n2 pc' l (zL v :: st) μ) : z_RQ P M R F n1 n2 pc l st μ := by
  obtain ⟨hd, rfl⟩ := hd
  intro p e s m args below meth c C H locs ls h1 h2 h3 h4
  exact lv_lconst C.1 C.2.1 hd hv (k p e s m args below meth c C H locs ls h1 h2 h3 (z_o trivial h4))
theorem zr_ldc {pc' : Nat} {n : Nat} {v : Int32} (hd : zD M.2.1 pc (.ldc n) 2 pc') (hw : Cond.constant M.1 n v ∈ lw_gd) (k : z_RQ P M R F n1 n2 pc' l (zI v :: st) μ) : z_RQ P M R F n1 n2 pc l st μ := by
  obtain ⟨hd, rfl⟩ := hd
  intro p e s m args below meth c C H locs ls h1 h2 h3 h4
  exact lv_ldc C.1 C.2.1 C.2.2.2.2.1 (C.2.2.2.2.2.1 _ hw) hd (k p e s m args below meth c C H locs ls h1 h2 h3 (z_o trivial h4))
theorem zr_ldcw {pc' : Nat} {n : Nat} {v : Int32} (hd : zD M.2.1 pc (.ldc_w n) 3 pc') (hw : Cond.constant M.1 n v ∈ lw_gd) (k : z_RQ P M R F n1 n2 pc' l (zI v :: st) μ) : z_RQ P M R F n1 n2 pc l st μ := by
  obtain ⟨hd, rfl⟩ := hd
  intro p e s m args below meth c C H locs ls h1 h2 h3 h4
  exact lv_ldcw C.1 C.2.1 C.2.2.2.2.1 (C.2.2.2.2.2.1 _ hw) hd (k p e s m args below meth c C H locs ls h1 h2 h3 (z_o trivial h4))
theorem zr_ldc2 {pc' : Nat} {n : Nat} {v : Int64} (hd : zD M.2.1 pc (.ldc2_w n) 3 pc') (hw : Cond.constantLong M.1 n v ∈ lw_gd) (k : z_RQ P M R F n1 n2 pc' l (zL v :: st) μ) : z_RQ P M R F n1 n2 pc l st μ := by
  obtain ⟨hd, rfl⟩ := hd
  intro p e s m args below meth c C H locs ls h1 h2 h3 h4
  exact lv_ldc2 C.1 C.2.1 C.2.2.2.2.1 (C.2.2.2.2.2.1 _ hw) hd (k p e s m args below meth c C H locs ls h1 h2 h3 (z_o trivial h4))
theorem zr_iload_n {pc' : Nat} {n : Fin 4} {i : Nat} {x : Int32} (hd : zD M.2.1 pc (.iload_n n) 1 pc') (hi : (n : Nat) = i) (hl : l[i]? = some (some (zI x))) (k : z_RQ P M R F n1 n2 pc' l (zI x :: st) μ) : z_RQ P M R F n1 n2 pc l st μ := by
  obtain ⟨hd, rfl⟩ := hd
  intro p e s m args below meth c C H locs ls h1 h2 h3 h4
  exact lv_iload_n C.1 C.2.1 hd hi (h3.2.2 _ _ hl).1 (k p e s m args below meth c C H locs ls h1 h2 h3 (z_o (h3.2.2 _ _ hl).2 h4))
theorem zr_iload {pc' : Nat} {i : Nat} {x : Int32} (hd : zD M.2.1 pc (.iload i) 2 pc') (hl : l[i]? = some (some (zI x))) (k : z_RQ P M R F n1 n2 pc' l (zI x :: st) μ) : z_RQ P M R F n1 n2 pc l st μ := by
  obtain ⟨hd, rfl⟩ := hd
  intro p e s m args below meth c C H locs ls h1 h2 h3 h4
  exact lv_iload C.1 C.2.1 hd (h3.2.2 _ _ hl).1 (k p e s m args below meth c C H locs ls h1 h2 h3 (z_o (h3.2.2 _ _ hl).2 h4))
theorem zr_lload_n {pc' : Nat} {n : Fin 4} {i : Nat} {x : Int64} (hd : zD M.2.1 pc (.lload_n n) 1 pc') (hi : (n : Nat) = i) (hl : l[i]? = some (some (zL x))) (k : z_RQ P M R F n1 n2 pc' l (zL x :: st) μ) : z_RQ P M R F n1 n2 pc l st μ := by
  obtain ⟨hd, rfl⟩ := hd
  intro p e s m args below meth c C H locs ls h1 h2 h3 h4
  exact lv_lload_n C.1 C.2.1 hd hi (h3.2.2 _ _ hl).1 (k p e s m args below meth c C H locs ls h1 h2 h3 (z_o (h3.2.2 _ _ hl).2 h4))
theorem zr_lload {pc' : Nat} {i : Nat} {x : Int64} (hd : zD M.2.1 pc (.lload i) 2 pc') (hl : l[i]? = some (some (zL x))) (k : z_RQ P M R F n1 n2 pc' l (zL x :: st) μ) : z_RQ P M R F n1 n2 pc l st μ := by
  obtain ⟨hd, rfl⟩ := hd
  intro p e s m args below meth c C H locs ls h1 h2 h3 h4
  exact lv_lload C.1 C.2.1 hd (h3.2.2 _ _ hl).1 (k p e s m args below meth c C H locs ls h1 h2 h3 (z_o (h3.2.2 _ _ hl).2 h4))
theorem zr_aload_n {pc' : Nat} {n : Fin 4} {i : Nat} {q j : Nat} (hd : zD M.2.1 pc (.aload_n n) 1 pc') (hi : (n : Nat) = i) (hl : l[i]? = some (some (zA q j))) (k : z_RQ P M R F n1 n2 pc' l (zA q j :: st) μ) : z_RQ P M R F n1 n2 pc l st μ := by
  obtain ⟨hd, rfl⟩ := hd
  intro p e s m args below meth c C H locs ls h1 h2 h3 h4
  exact lv_aload_n C.1 C.2.1 hd hi (h3.2.2 _ _ hl).1 (k p e s m args below meth c C H locs ls h1 h2 h3 (z_o (h3.2.2 _ _ hl).2 h4))
theorem zr_aload {pc' : Nat} {i : Nat} {q j : Nat} (hd : zD M.2.1 pc (.aload i) 2 pc') (hl : l[i]? = some (some (zA q j))) (k : z_RQ P M R F n1 n2 pc' l (zA q j :: st) μ) : z_RQ P M R F n1 n2 pc l st μ := by
  obtain ⟨hd, rfl⟩ := hd
  intro p e s m args below meth c C H locs ls h1 h2 h3 h4
  exact lv_aload C.1 C.2.1 hd (h3.2.2 _ _ hl).1 (k p e s m args below meth c C H locs ls h1 h2 h3 (z_o (h3.2.2 _ _ hl).2 h4))
theorem zr_istore_n {pc' : Nat} {n : Fin 4} {i : Nat} {l' : List (Option zV)} {x : Int32} (hd : zD M.2.1 pc (.istore_n n) 1 pc') (hi : (n : Nat) = i) (hn : i < M.2.2.1) (hl : z_set l i (zI x) = l') (k : z_RQ P M R F n1 n2 pc' l' st μ) : z_RQ P M R F n1 n2 pc l (zI x :: st) μ := by
  obtain ⟨hd, rfl⟩ := hd
  intro p e s m args below meth c C H locs ls h1 h2 h3 h4
  subst hl
  exact lv_istore_n C.1 C.2.1 hd hi h3.has hn rfl (fun ls' hh => k p e s m args below meth c C H locs ls' h1 h2 (h3.set (z_h h4) hh) (z_t h4))
theorem zr_istore {pc' : Nat} {i : Nat} {l' : List (Option zV)} {x : Int32} (hd : zD M.2.1 pc (.istore i) 2 pc') (hn : i < M.2.2.1) (hl : z_set l i (zI x) = l') (k : z_RQ P M R F n1 n2 pc' l' st μ) : z_RQ P M R F n1 n2 pc l (zI x :: st) μ := by
  obtain ⟨hd, rfl⟩ := hd
  intro p e s m args below meth c C H locs ls h1 h2 h3 h4
  subst hl
  exact lv_istore C.1 C.2.1 hd h3.has hn rfl (fun ls' hh => k p e s m args below meth c C H locs ls' h1 h2 (h3.set (z_h h4) hh) (z_t h4))
theorem zr_lstore_n {pc' : Nat} {n : Fin 4} {i : Nat} {l' : List (Option zV)} {x : Int64} (hd : zD M.2.1 pc (.lstore_n n) 1 pc') (hi : (n : Nat) = i) (hn : i + 1 < M.2.2.1) (hl : z_setL l i (zL x) = l') (k : z_RQ P M R F n1 n2 pc' l' st μ) : z_RQ P M R F n1 n2 pc l (zL x :: st) μ := by
  obtain ⟨hd, rfl⟩ := hd
  intro p e s m args below meth c C H locs ls h1 h2 h3 h4
  subst hl
  exact lv_lstore_n C.1 C.2.1 hd hi h3.has hn rfl (fun ls' hh => k p e s m args below meth c C H locs ls' h1 h2 (h3.setL (z_h h4) hh) (z_t h4))
theorem zr_lstore {pc' : Nat} {i : Nat} {l' : List (Option zV)} {x : Int64} (hd : zD M.2.1 pc (.lstore i) 2 pc') (hn : i + 1 < M.2.2.1) (hl : z_setL l i (zL x) = l') (k : z_RQ P M R F n1 n2 pc' l' st μ) : z_RQ P M R F n1 n2 pc l (zL x :: st) μ := by
  obtain ⟨hd, rfl⟩ := hd
  intro p e s m args below meth c C H locs ls h1 h2 h3 h4
  subst hl
  exact lv_lstore C.1 C.2.1 hd h3.has hn rfl (fun ls' hh => k p e s m args below meth c C H locs ls' h1 h2 (h3.setL (z_h h4) hh) (z_t h4))
theorem zr_astore_n {pc' : Nat} {n : Fin 4} {i : Nat} {l' : List (Option zV)} {q j : Nat} (hd : zD M.2.1 pc (.astore_n n) 1 pc') (hi : (n : Nat) = i) (hn : i < M.2.2.1) (hl : z_set l i (zA q j) = l') (k : z_RQ P M R F n1 n2 pc' l' st μ) : z_RQ P M R F n1 n2 pc l (zA q j :: st) μ := by
  obtain ⟨hd, rfl⟩ := hd
  intro p e s m args below meth c C H locs ls h1 h2 h3 h4
  subst hl
  exact lv_astore_n C.1 C.2.1 hd hi h3.has hn rfl (fun ls' hh => k p e s m args below meth c C H locs ls' h1 h2 (h3.set (z_h h4) hh) (z_t h4))
theorem zr_astore {pc' : Nat} {i : Nat} {l' : List (Option zV)} {q j : Nat} (hd : zD M.2.1 pc (.astore i) 2 pc') (hn : i < M.2.2.1) (hl : z_set l i (zA q j) = l') (k : z_RQ P M R F n1 n2 pc' l' st μ) : z_RQ P M R F n1 n2 pc l (zA q j :: st) μ := by
  obtain ⟨hd, rfl⟩ := hd
  intro p e s m args below meth c C H locs ls h1 h2 h3 h4
  subst hl
  exact lv_astore C.1 C.2.1 hd h3.has hn rfl (fun ls' hh => k p e s m args below meth c C H locs ls' h1 h2 (h3.set (z_h h4) hh) (z_t h4))
theorem zr_iinc {pc' : Nat} {i : Nat} {n : Int} {x v : Int32} {l' : List (Option zV)} (hd : zD M.2.1 pc (.iinc i n) 3 pc') (hn : i < M.2.2.1) (hl : l[i]? = some (some (zI x))) (hv : x + Int32.ofInt n = v) (hl2 : z_set l i (zI v) = l') (k : z_RQ P M R F n1 n2 pc' l' st μ) : z_RQ P M R F n1 n2 pc l st μ := by
  obtain ⟨hd, rfl⟩ := hd
  intro p e s m args below meth c C H locs ls h1 h2 h3 h4
  subst hl2
  obtain ⟨kk, hk⟩ := List.getElem?_of_mem (z_pl_mem (P := P) (l := l) (q := (i, .int x)) |>.mpr ⟨zI x, hl, rfl⟩)
  exact lv_iinc C.1 C.2.1 hd h3.has hk hv hn rfl (fun ls' hh => k p e s m args below meth c C H locs ls' h1 h2 (h3.set (v := zI v) trivial hh) h4)
theorem zr_icmp_eq {pc' : Nat} {x y : Int32} {off : Int} {tgt : Nat} (hd : zD M.2.1 pc (.if_icmp .eq off) 3 pc') (ht : (pc : Int) + off = (tgt : Int)) (ky : x = y → z_RQ P M R F n1 n2 tgt l st μ) (kn : ¬ x = y → z_RQ P M R F n1 n2 pc' l st μ) : z_RQ P M R F n1 n2 pc l (zI y :: zI x :: st) μ := by
  obtain ⟨hd, rfl⟩ := hd
  intro p e s m args below meth c C H locs ls h1 h2 h3 h4
  exact lv_icmp_eq C.1 C.2.1 hd ht (fun h => ky h p e s m args below meth c C H locs ls h1 h2 h3 (z_t (z_t h4))) (fun h => kn h p e s m args below meth c C H locs ls h1 h2 h3 (z_t (z_t h4)))
theorem zr_icmp_ne {pc' : Nat} {x y : Int32} {off : Int} {tgt : Nat} (hd : zD M.2.1 pc (.if_icmp .ne off) 3 pc') (ht : (pc : Int) + off = (tgt : Int)) (ky : x = y → z_RQ P M R F n1 n2 pc' l st μ) (kn : ¬ x = y → z_RQ P M R F n1 n2 tgt l st μ) : z_RQ P M R F n1 n2 pc l (zI y :: zI x :: st) μ := by
  obtain ⟨hd, rfl⟩ := hd
  intro p e s m args below meth c C H locs ls h1 h2 h3 h4
  exact lv_icmp_ne C.1 C.2.1 hd ht (fun h => kn h p e s m args below meth c C H locs ls h1 h2 h3 (z_t (z_t h4))) (fun h => ky h p e s m args below meth c C H locs ls h1 h2 h3 (z_t (z_t h4)))
theorem zr_icmp_lt {pc' : Nat} {x y : Int32} {off : Int} {tgt : Nat} (hd : zD M.2.1 pc (.if_icmp .lt off) 3 pc') (ht : (pc : Int) + off = (tgt : Int)) (ky : x < y → z_RQ P M R F n1 n2 tgt l st μ) (kn : ¬ x < y → z_RQ P M R F n1 n2 pc' l st μ) : z_RQ P M R F n1 n2 pc l (zI y :: zI x :: st) μ := by
  obtain ⟨hd, rfl⟩ := hd
  intro p e s m args below meth c C H locs ls h1 h2 h3 h4
  exact lv_icmp_lt C.1 C.2.1 hd ht (fun h => ky h p e s m args below meth c C H locs ls h1 h2 h3 (z_t (z_t h4))) (fun h => kn h p e s m args below meth c C H locs ls h1 h2 h3 (z_t (z_t h4)))
theorem zr_icmp_gt {pc' : Nat} {x y : Int32} {off : Int} {tgt : Nat} (hd : zD M.2.1 pc (.if_icmp .gt off) 3 pc') (ht : (pc : Int) + off = (tgt : Int)) (ky : y < x → z_RQ P M R F n1 n2 tgt l st μ) (kn : ¬ y < x → z_RQ P M R F n1 n2 pc' l st μ) : z_RQ P M R F n1 n2 pc l (zI y :: zI x :: st) μ := by
  obtain ⟨hd, rfl⟩ := hd
  intro p e s m args below meth c C H locs ls h1 h2 h3 h4
  exact lv_icmp_gt C.1 C.2.1 hd ht (fun h => ky h p e s m args below meth c C H locs ls h1 h2 h3 (z_t (z_t h4))) (fun h => kn h p e s m args below meth c C H locs ls h1 h2 h3 (z_t (z_t h4)))
theorem zr_icmp_ge {pc' : Nat} {x y : Int32} {off : Int} {tgt : Nat} (hd : zD M.2.1 pc (.if_icmp .ge off) 3 pc') (ht : (pc : Int) + off = (tgt : Int)) (ky : x < y → z_RQ P M R F n1 n2 pc' l st μ) (kn : ¬ x < y → z_RQ P M R F n1 n2 tgt l st μ) : z_RQ P M R F n1 n2 pc l (zI y :: zI x :: st) μ := by
  obtain ⟨hd, rfl⟩ := hd
  intro p e s m args below meth c C H locs ls h1 h2 h3 h4
  exact lv_icmp_ge C.1 C.2.1 hd ht (fun h => kn (Int32.not_lt.mpr h) p e s m args below meth c C H locs ls h1 h2 h3 (z_t (z_t h4))) (fun h => ky (Int32.not_le.mp h) p e s m args below meth c C H locs ls h1 h2 h3 (z_t (z_t h4)))
theorem zr_icmp_le {pc' : Nat} {x y : Int32} {off : Int} {tgt : Nat} (hd : zD M.2.1 pc (.if_icmp .le off) 3 pc') (ht : (pc : Int) + off = (tgt : Int)) (ky : y < x → z_RQ P M R F n1 n2 pc' l st μ) (kn : ¬ y < x → z_RQ P M R F n1 n2 tgt l st μ) : z_RQ P M R F n1 n2 pc l (zI y :: zI x :: st) μ := by
  obtain ⟨hd, rfl⟩ := hd
  intro p e s m args below meth c C H locs ls h1 h2 h3 h4
  exact lv_icmp_le C.1 C.2.1 hd ht (fun h => kn (Int32.not_lt.mpr h) p e s m args below meth c C H locs ls h1 h2 h3 (z_t (z_t h4))) (fun h => ky (Int32.not_le.mp h) p e s m args below meth c C H locs ls h1 h2 h3 (z_t (z_t h4)))
theorem zr_if_eq {pc' : Nat} {x : Int32} {off : Int} {tgt : Nat} (hd : zD M.2.1 pc (.ifCond .eq off) 3 pc') (ht : (pc : Int) + off = (tgt : Int)) (ky : x = 0 → z_RQ P M R F n1 n2 tgt l st μ) (kn : ¬ x = 0 → z_RQ P M R F n1 n2 pc' l st μ) : z_RQ P M R F n1 n2 pc l (zI x :: st) μ := by
  obtain ⟨hd, rfl⟩ := hd
  intro p e s m args below meth c C H locs ls h1 h2 h3 h4
  exact lv_if_eq C.1 C.2.1 hd ht (fun h => ky h p e s m args below meth c C H locs ls h1 h2 h3 (z_t h4)) (fun h => kn h p e s m args below meth c C H locs ls h1 h2 h3 (z_t h4))
theorem zr_if_ne {pc' : Nat} {x : Int32} {off : Int} {tgt : Nat} (hd : zD M.2.1 pc (.ifCond .ne off) 3 pc') (ht : (pc : Int) + off = (tgt : Int)) (ky : x = 0 → z_RQ P M R F n1 n2 pc' l st μ) (kn : ¬ x = 0 → z_RQ P M R F n1 n2 tgt l st μ) : z_RQ P M R F n1 n2 pc l (zI x :: st) μ := by
  obtain ⟨hd, rfl⟩ := hd
  intro p e s m args below meth c C H locs ls h1 h2 h3 h4
  exact lv_if_ne C.1 C.2.1 hd ht (fun h => kn h p e s m args below meth c C H locs ls h1 h2 h3 (z_t h4)) (fun h => ky h p e s m args below meth c C H locs ls h1 h2 h3 (z_t h4))
theorem zr_if_lt {pc' : Nat} {x : Int32} {off : Int} {tgt : Nat} (hd : zD M.2.1 pc (.ifCond .lt off) 3 pc') (ht : (pc : Int) + off = (tgt : Int)) (ky : x < 0 → z_RQ P M R F n1 n2 tgt l st μ) (kn : ¬ x < 0 → z_RQ P M R F n1 n2 pc' l st μ) : z_RQ P M R F n1 n2 pc l (zI x :: st) μ := by
  obtain ⟨hd, rfl⟩ := hd
  intro p e s m args below meth c C H locs ls h1 h2 h3 h4
  exact lv_if_lt C.1 C.2.1 hd ht (fun h => ky h p e s m args below meth c C H locs ls h1 h2 h3 (z_t h4)) (fun h => kn h p e s m args below meth c C H locs ls h1 h2 h3 (z_t h4))
theorem zr_if_gt {pc' : Nat} {x : Int32} {off : Int} {tgt : Nat} (hd : zD M.2.1 pc (.ifCond .gt off) 3 pc') (ht : (pc : Int) + off = (tgt : Int)) (ky : 0 < x → z_RQ P M R F n1 n2 tgt l st μ) (kn : ¬ 0 < x → z_RQ P M R F n1 n2 pc' l st μ) : z_RQ P M R F n1 n2 pc l (zI x :: st) μ := by
  obtain ⟨hd, rfl⟩ := hd
  intro p e s m args below meth c C H locs ls h1 h2 h3 h4
  exact lv_if_gt C.1 C.2.1 hd ht (fun h => ky h p e s m args below meth c C H locs ls h1 h2 h3 (z_t h4)) (fun h => kn h p e s m args below meth c C H locs ls h1 h2 h3 (z_t h4))
theorem zr_if_ge {pc' : Nat} {x : Int32} {off : Int} {tgt : Nat} (hd : zD M.2.1 pc (.ifCond .ge off) 3 pc') (ht : (pc : Int) + off = (tgt : Int)) (ky : x < 0 → z_RQ P M R F n1 n2 pc' l st μ) (kn : ¬ x < 0 → z_RQ P M R F n1 n2 tgt l st μ) : z_RQ P M R F n1 n2 pc l (zI x :: st) μ := by
  obtain ⟨hd, rfl⟩ := hd
  intro p e s m args below meth c C H locs ls h1 h2 h3 h4
  exact lv_if_ge C.1 C.2.1 hd ht (fun h => kn (Int32.not_lt.mpr h) p e s m args below meth c C H locs ls h1 h2 h3 (z_t h4)) (fun h => ky (Int32.not_le.mp h) p e s m args below meth c C H locs ls h1 h2 h3 (z_t h4))
theorem zr_if_le {pc' : Nat} {x : Int32} {off : Int} {tgt : Nat} (hd : zD M.2.1 pc (.ifCond .le off) 3 pc') (ht : (pc : Int) + off = (tgt : Int)) (ky : 0 < x → z_RQ P M R F n1 n2 pc' l st μ) (kn : ¬ 0 < x → z_RQ P M R F n1 n2 tgt l st μ) : z_RQ P M R F n1 n2 pc l (zI x :: st) μ := by
  obtain ⟨hd, rfl⟩ := hd
  intro p e s m args below meth c C H locs ls h1 h2 h3 h4
  exact lv_if_le C.1 C.2.1 hd ht (fun h => kn (Int32.not_lt.mpr h) p e s m args below meth c C H locs ls h1 h2 h3 (z_t h4)) (fun h => ky (Int32.not_le.mp h) p e s m args below meth c C H locs ls h1 h2 h3 (z_t h4))
theorem zr_goto {pc' : Nat} {off : Int} {tgt : Nat} (hd : zD M.2.1 pc (.goto off) 3 pc') (ht : (pc : Int) + off = (tgt : Int)) (k : z_RQ P M R F n1 n2 tgt l st μ) : z_RQ P M R F n1 n2 pc l st μ := by
  obtain ⟨hd, rfl⟩ := hd
  intro p e s m args below meth c C H locs ls h1 h2 h3 h4
  exact lv_goto C.1 C.2.1 hd ht (k p e s m args below meth c C H locs ls h1 h2 h3 h4)
theorem zr_tableIn {pc' : Nat} {dflt lo hi : Int} {offs : Array Int} {len : Nat} {x : Int32} {off : Int} {tgt : Nat} (hd : zD M.2.1 pc (.tableswitch dflt lo hi offs) len pc') (g1 : ¬ x.toInt < lo) (g2 : ¬ hi < x.toInt) (ho : offs[(x.toInt - lo).toNat]? = some off) (ht : (pc : Int) + off = (tgt : Int)) (k : z_RQ P M R F n1 n2 tgt l st μ) : z_RQ P M R F n1 n2 pc l (zI x :: st) μ := by
  obtain ⟨hd, rfl⟩ := hd
  intro p e s m args below meth c C H locs ls h1 h2 h3 h4
  exact lv_tableIn C.1 C.2.1 hd g1 g2 ho ht (k p e s m args below meth c C H locs ls h1 h2 h3 (z_t h4))
theorem zr_tableOut {pc' : Nat} {dflt lo hi : Int} {offs : Array Int} {len : Nat} {x : Int32} {tgt : Nat} (hd : zD M.2.1 pc (.tableswitch dflt lo hi offs) len pc') (g : x.toInt < lo ∨ hi < x.toInt) (ht : (pc : Int) + dflt = (tgt : Int)) (k : z_RQ P M R F n1 n2 tgt l st μ) : z_RQ P M R F n1 n2 pc l (zI x :: st) μ := by
  obtain ⟨hd, rfl⟩ := hd
  intro p e s m args below meth c C H locs ls h1 h2 h3 h4
  exact lv_tableOut C.1 C.2.1 hd g ht (k p e s m args below meth c C H locs ls h1 h2 h3 (z_t h4))
theorem zr_lookup {pc' : Nat} {dflt : Int} {ps : Array (Int × Int)} {len : Nat} {x : Int32} {off : Int} {tgt : Nat} (hd : zD M.2.1 pc (.lookupswitch dflt ps) len pc') (hp : (ps.toList.zip (ps.toList.drop 1)).all (fun (a, next) => a.1 < next.1) = true) (ho : Op.lookupswitch.offset ps.toList dflt x.toInt = off) (ht : (pc : Int) + off = (tgt : Int)) (k : z_RQ P M R F n1 n2 tgt l st μ) : z_RQ P M R F n1 n2 pc l (zI x :: st) μ := by
  obtain ⟨hd, rfl⟩ := hd
  intro p e s m args below meth c C H locs ls h1 h2 h3 h4
  exact lv_lookup C.1 C.2.1 hd hp ho ht (k p e s m args below meth c C H locs ls h1 h2 h3 (z_t h4))
end ZR
