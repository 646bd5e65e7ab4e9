section ZR
variable {g : zG} {t : zM} {pc : Nat} {L r : List Value} {M M1 M2 : zMe} {rv : Option Value}
theorem z_iconst {n : Int} (v : Int32) (hv : Int32.ofInt n = v) (hd : decode t.2.1 pc = .ok (.iconst n, 1)) (k : zW g t (pc + 1) L (.int v :: r) M rv M2) : zW g t pc L (r) M rv M2 :=
  zgo (fun p e R s m args below meth c H ls locs cells slots Q hF hL k => lv_iconst hF.1 hF.2.1 hd hv k) k
theorem z_bipush {n : Int} (v : Int32) (hv : (Int8.ofInt n).toInt32 = v) (hd : decode t.2.1 pc = .ok (.bipush n, 2)) (k : zW g t (pc + 2) L (.int v :: r) M rv M2) : zW g t pc L (r) M rv M2 :=
  zgo (fun p e R s m args below meth c H ls locs cells slots Q hF hL k => lv_bipush hF.1 hF.2.1 hd hv k) k
theorem z_sipush {n : Int} (v : Int32) (hv : (Int16.ofInt n).toInt32 = v) (hd : decode t.2.1 pc = .ok (.sipush n, 3)) (k : zW g t (pc + 3) L (.int v :: r) M rv M2) : zW g t pc L (r) M rv M2 :=
  zgo (fun p e R s m args below meth c H ls locs cells slots Q hF hL k => lv_sipush hF.1 hF.2.1 hd hv k) k
theorem z_lconst {n : Fin 2} (v : Int64) (hv : Int64.ofNat (n : Nat) = v) (hd : decode t.2.1 pc = .ok (.lconst n, 1)) (k : zW g t (pc + 1) L (.long v :: r) M rv M2) : zW g t pc L (r) M rv M2 :=
  zgo (fun p e R s m args below meth c H ls locs cells slots Q hF hL k => lv_lconst hF.1 hF.2.1 hd hv k) k
theorem z_null  (hd : decode t.2.1 pc = .ok (.aconst_null, 1)) (k : zW g t (pc + 1) L (.null :: r) M rv M2) : zW g t pc L (r) M rv M2 :=
  zgo (fun p e R s m args below meth c H ls locs cells slots Q hF hL k => lv_null hF.1 hF.2.1 hd k) k
theorem z_iload_n {n : Fin 4} {x : Int32} (hl : L[(n : Nat)]? = some (.int x)) (hd : decode t.2.1 pc = .ok (.iload_n n, 1)) (k : zW g t (pc + 1) L (.int x :: r) M rv M2) : zW g t pc L (r) M rv M2 :=
  zgo (fun p e R s m args below meth c H ls locs cells slots Q hF hL k => lv_iload_n hF.1 hF.2.1 hd rfl (hL.at hl rfl) k) k
theorem z_iload {n : Nat} {x : Int32} (hl : L[n]? = some (.int x)) (hd : decode t.2.1 pc = .ok (.iload n, 2)) (k : zW g t (pc + 2) L (.int x :: r) M rv M2) : zW g t pc L (r) M rv M2 :=
  zgo (fun p e R s m args below meth c H ls locs cells slots Q hF hL k => lv_iload hF.1 hF.2.1 hd (hL.at hl rfl) k) k
theorem z_lload_n {n : Fin 4} {x : Int64} (hl : L[(n : Nat)]? = some (.long x)) (hd : decode t.2.1 pc = .ok (.lload_n n, 1)) (k : zW g t (pc + 1) L (.long x :: r) M rv M2) : zW g t pc L (r) M rv M2 :=
  zgo (fun p e R s m args below meth c H ls locs cells slots Q hF hL k => lv_lload_n hF.1 hF.2.1 hd rfl (hL.at hl rfl) k) k
theorem z_lload {n : Nat} {x : Int64} (hl : L[n]? = some (.long x)) (hd : decode t.2.1 pc = .ok (.lload n, 2)) (k : zW g t (pc + 2) L (.long x :: r) M rv M2) : zW g t pc L (r) M rv M2 :=
  zgo (fun p e R s m args below meth c H ls locs cells slots Q hF hL k => lv_lload hF.1 hF.2.1 hd (hL.at hl rfl) k) k
theorem z_aload_n {n : Fin 4} {x : Nat} (hl : L[(n : Nat)]? = some (.ref x)) (hd : decode t.2.1 pc = .ok (.aload_n n, 1)) (k : zW g t (pc + 1) L (.ref x :: r) M rv M2) : zW g t pc L (r) M rv M2 :=
  zgo (fun p e R s m args below meth c H ls locs cells slots Q hF hL k => lv_aload_n hF.1 hF.2.1 hd rfl (hL.at hl rfl) k) k
theorem z_aload {n : Nat} {x : Nat} (hl : L[n]? = some (.ref x)) (hd : decode t.2.1 pc = .ok (.aload n, 2)) (k : zW g t (pc + 2) L (.ref x :: r) M rv M2) : zW g t pc L (r) M rv M2 :=
  zgo (fun p e R s m args below meth c H ls locs cells slots Q hF hL k => lv_aload hF.1 hF.2.1 hd (hL.at hl rfl) k) k
theorem z_aload_nN {n : Fin 4} (hl : L[(n : Nat)]? = some .null) (hd : decode t.2.1 pc = .ok (.aload_n n, 1)) (k : zW g t (pc + 1) L (.null :: r) M rv M2) : zW g t pc L (r) M rv M2 :=
  zgo (fun p e R s m args below meth c H ls locs cells slots Q hF hL k => lv_aload_nN hF.1 hF.2.1 hd rfl (hL.at hl rfl) k) k
theorem z_aloadN {n : Nat} (hl : L[n]? = some .null) (hd : decode t.2.1 pc = .ok (.aload n, 2)) (k : zW g t (pc + 2) L (.null :: r) M rv M2) : zW g t pc L (r) M rv M2 :=
  zgo (fun p e R s m args below meth c H ls locs cells slots Q hF hL k => lv_aloadN hF.1 hF.2.1 hd (hL.at hl rfl) k) k
theorem z_istore_n {n : Fin 4} {x : Int32} (hd : decode t.2.1 pc = .ok (.istore_n n, 1)) (hn : (n : Nat) < t.2.2.1) (k : zW g t (pc + 1) (zS1 L n (.int x)) r M rv M2) : zW g t pc L (.int x :: r) M rv M2 :=
  zgoL (fun p e R s m args below meth c H ls locs cells slots Q hF hL k => lv_istore_n hF.1 hF.2.1 hd rfl hL.has hn rfl (fun ls2 h2 => k ls2 (hL.s1 h2 hn))) k
theorem z_istore {n : Nat} {x : Int32} (hd : decode t.2.1 pc = .ok (.istore n, 2)) (hn : n < t.2.2.1) (k : zW g t (pc + 2) (zS1 L n (.int x)) r M rv M2) : zW g t pc L (.int x :: r) M rv M2 :=
  zgoL (fun p e R s m args below meth c H ls locs cells slots Q hF hL k => lv_istore hF.1 hF.2.1 hd hL.has hn rfl (fun ls2 h2 => k ls2 (hL.s1 h2 hn))) k
theorem z_lstore_n {n : Fin 4} {x : Int64} (hd : decode t.2.1 pc = .ok (.lstore_n n, 1)) (hn : (n : Nat) + 1 < t.2.2.1) (k : zW g t (pc + 1) (zS2 L n (.long x)) r M rv M2) : zW g t pc L (.long x :: r) M rv M2 :=
  zgoL (fun p e R s m args below meth c H ls locs cells slots Q hF hL k => lv_lstore_n hF.1 hF.2.1 hd rfl hL.has hn rfl (fun ls2 h2 => k ls2 (hL.s2 h2 hn))) k
theorem z_lstore {n : Nat} {x : Int64} (hd : decode t.2.1 pc = .ok (.lstore n, 2)) (hn : n + 1 < t.2.2.1) (k : zW g t (pc + 2) (zS2 L n (.long x)) r M rv M2) : zW g t pc L (.long x :: r) M rv M2 :=
  zgoL (fun p e R s m args below meth c H ls locs cells slots Q hF hL k => lv_lstore hF.1 hF.2.1 hd hL.has hn rfl (fun ls2 h2 => k ls2 (hL.s2 h2 hn))) k
theorem z_astore_n {n : Fin 4} {x : Nat} (hd : decode t.2.1 pc = .ok (.astore_n n, 1)) (hn : (n : Nat) < t.2.2.1) (k : zW g t (pc + 1) (zS1 L n (.ref x)) r M rv M2) : zW g t pc L (.ref x :: r) M rv M2 :=
  zgoL (fun p e R s m args below meth c H ls locs cells slots Q hF hL k => lv_astore_n hF.1 hF.2.1 hd rfl hL.has hn rfl (fun ls2 h2 => k ls2 (hL.s1 h2 hn))) k
theorem z_astore {n : Nat} {x : Nat} (hd : decode t.2.1 pc = .ok (.astore n, 2)) (hn : n < t.2.2.1) (k : zW g t (pc + 2) (zS1 L n (.ref x)) r M rv M2) : zW g t pc L (.ref x :: r) M rv M2 :=
  zgoL (fun p e R s m args below meth c H ls locs cells slots Q hF hL k => lv_astore hF.1 hF.2.1 hd hL.has hn rfl (fun ls2 h2 => k ls2 (hL.s1 h2 hn))) k
theorem z_astore_nN {n : Fin 4} (hd : decode t.2.1 pc = .ok (.astore_n n, 1)) (hn : (n : Nat) < t.2.2.1) (k : zW g t (pc + 1) (zS1 L n .null) r M rv M2) : zW g t pc L (.null :: r) M rv M2 :=
  zgoL (fun p e R s m args below meth c H ls locs cells slots Q hF hL k => lv_astore_nN hF.1 hF.2.1 hd rfl hL.has hn rfl (fun ls2 h2 => k ls2 (hL.s1 h2 hn))) k
theorem z_astoreN {n : Nat} (hd : decode t.2.1 pc = .ok (.astore n, 2)) (hn : n < t.2.2.1) (k : zW g t (pc + 2) (zS1 L n .null) r M rv M2) : zW g t pc L (.null :: r) M rv M2 :=
  zgoL (fun p e R s m args below meth c H ls locs cells slots Q hF hL k => lv_astoreN hF.1 hF.2.1 hd hL.has hn rfl (fun ls2 h2 => k ls2 (hL.s1 h2 hn))) k
theorem z_iinc {i : Nat} {n : Int} {x v : Int32} (hd : decode t.2.1 pc = .ok (.iinc i n, 3)) (hl : L[i]? = some (.int x)) (hv : x + Int32.ofInt n = v) (k : zW g t (pc + 3) (zS1 L i (.int v)) r M rv M2) : zW g t pc L r M rv M2 :=
  zgoL (fun p e R s m args below meth c H ls locs cells slots Q hF hL k => by
    have hm : (i, Value.int x) ∈ zA L := zA_mem.mpr ⟨hl, rfl⟩
    obtain ⟨j, hj⟩ := List.getElem?_of_mem hm
    have hn : i < t.2.2.1 := by rw [← hL.2.1]; exact (List.getElem?_eq_some_iff.mp hl).1
    exact lv_iinc hF.1 hF.2.1 hd hL.has hj hv hn rfl (fun ls2 h2 => k ls2 (hL.s1 h2 hn))) k
theorem z_iadd {x y : Int32} (hd : decode t.2.1 pc = .ok (.iadd, 1)) (k : zW g t (pc + 1) L (.int (x + y) :: r) M rv M2) : zW g t pc L (.int y :: .int x :: r) M rv M2 :=
  zgo (fun p e R s m args below meth c H ls locs cells slots Q hF hL k => lv_iadd hF.1 hF.2.1 hd k) k
theorem z_ladd {x y : Int64} (hd : decode t.2.1 pc = .ok (.ladd, 1)) (k : zW g t (pc + 1) L (.long (x + y) :: r) M rv M2) : zW g t pc L (.long y :: .long x :: r) M rv M2 :=
  zgo (fun p e R s m args below meth c H ls locs cells slots Q hF hL k => lv_ladd hF.1 hF.2.1 hd k) k
theorem z_isub {x y : Int32} (hd : decode t.2.1 pc = .ok (.isub, 1)) (k : zW g t (pc + 1) L (.int (x - y) :: r) M rv M2) : zW g t pc L (.int y :: .int x :: r) M rv M2 :=
  zgo (fun p e R s m args below meth c H ls locs cells slots Q hF hL k => lv_isub hF.1 hF.2.1 hd k) k
theorem z_lsub {x y : Int64} (hd : decode t.2.1 pc = .ok (.lsub, 1)) (k : zW g t (pc + 1) L (.long (x - y) :: r) M rv M2) : zW g t pc L (.long y :: .long x :: r) M rv M2 :=
  zgo (fun p e R s m args below meth c H ls locs cells slots Q hF hL k => lv_lsub hF.1 hF.2.1 hd k) k
theorem z_imul {x y : Int32} (hd : decode t.2.1 pc = .ok (.imul, 1)) (k : zW g t (pc + 1) L (.int (x * y) :: r) M rv M2) : zW g t pc L (.int y :: .int x :: r) M rv M2 :=
  zgo (fun p e R s m args below meth c H ls locs cells slots Q hF hL k => lv_imul hF.1 hF.2.1 hd k) k
theorem z_lmul {x y : Int64} (hd : decode t.2.1 pc = .ok (.lmul, 1)) (k : zW g t (pc + 1) L (.long (x * y) :: r) M rv M2) : zW g t pc L (.long y :: .long x :: r) M rv M2 :=
  zgo (fun p e R s m args below meth c H ls locs cells slots Q hF hL k => lv_lmul hF.1 hF.2.1 hd k) k
theorem z_iand {x y : Int32} (hd : decode t.2.1 pc = .ok (.iand, 1)) (k : zW g t (pc + 1) L (.int (x &&& y) :: r) M rv M2) : zW g t pc L (.int y :: .int x :: r) M rv M2 :=
  zgo (fun p e R s m args below meth c H ls locs cells slots Q hF hL k => lv_iand hF.1 hF.2.1 hd k) k
theorem z_land {x y : Int64} (hd : decode t.2.1 pc = .ok (.land, 1)) (k : zW g t (pc + 1) L (.long (x &&& y) :: r) M rv M2) : zW g t pc L (.long y :: .long x :: r) M rv M2 :=
  zgo (fun p e R s m args below meth c H ls locs cells slots Q hF hL k => lv_land hF.1 hF.2.1 hd k) k
theorem z_ior {x y : Int32} (hd : decode t.2.1 pc = .ok (.ior, 1)) (k : zW g t (pc + 1) L (.int (x ||| y) :: r) M rv M2) : zW g t pc L (.int y :: .int x :: r) M rv M2 :=
  zgo (fun p e R s m args below meth c H ls locs cells slots Q hF hL k => lv_ior hF.1 hF.2.1 hd k) k
theorem z_lor {x y : Int64} (hd : decode t.2.1 pc = .ok (.lor, 1)) (k : zW g t (pc + 1) L (.long (x ||| y) :: r) M rv M2) : zW g t pc L (.long y :: .long x :: r) M rv M2 :=
  zgo (fun p e R s m args below meth c H ls locs cells slots Q hF hL k => lv_lor hF.1 hF.2.1 hd k) k
theorem z_ixor {x y : Int32} (hd : decode t.2.1 pc = .ok (.ixor, 1)) (k : zW g t (pc + 1) L (.int (x ^^^ y) :: r) M rv M2) : zW g t pc L (.int y :: .int x :: r) M rv M2 :=
  zgo (fun p e R s m args below meth c H ls locs cells slots Q hF hL k => lv_ixor hF.1 hF.2.1 hd k) k
theorem z_lxor {x y : Int64} (hd : decode t.2.1 pc = .ok (.lxor, 1)) (k : zW g t (pc + 1) L (.long (x ^^^ y) :: r) M rv M2) : zW g t pc L (.long y :: .long x :: r) M rv M2 :=
  zgo (fun p e R s m args below meth c H ls locs cells slots Q hF hL k => lv_lxor hF.1 hF.2.1 hd k) k
theorem z_idiv {x y : Int32} (hne : ¬ y = 0) (hd : decode t.2.1 pc = .ok (.idiv, 1)) (k : zW g t (pc + 1) L (.int (x / y) :: r) M rv M2) : zW g t pc L (.int y :: .int x :: r) M rv M2 :=
  zgo (fun p e R s m args below meth c H ls locs cells slots Q hF hL k => lv_idiv hF.1 hF.2.1 hd hne k) k
theorem z_irem {x y : Int32} (hne : ¬ y = 0) (hd : decode t.2.1 pc = .ok (.irem, 1)) (k : zW g t (pc + 1) L (.int (x - x / y * y) :: r) M rv M2) : zW g t pc L (.int y :: .int x :: r) M rv M2 :=
  zgo (fun p e R s m args below meth c H ls locs cells slots Q hF hL k => lv_irem hF.1 hF.2.1 hd hne k) k
theorem z_ineg {x : Int32} (hd : decode t.2.1 pc = .ok (.ineg, 1)) (k : zW g t (pc + 1) L (.int (-x) :: r) M rv M2) : zW g t pc L (.int x :: r) M rv M2 :=
  zgo (fun p e R s m args below meth c H ls locs cells slots Q hF hL k => lv_ineg hF.1 hF.2.1 hd k) k
theorem z_ldiv {x y : Int64} (hne : ¬ y = 0) (hd : decode t.2.1 pc = .ok (.ldiv, 1)) (k : zW g t (pc + 1) L (.long (x / y) :: r) M rv M2) : zW g t pc L (.long y :: .long x :: r) M rv M2 :=
  zgo (fun p e R s m args below meth c H ls locs cells slots Q hF hL k => lv_ldiv hF.1 hF.2.1 hd hne k) k
theorem z_lrem {x y : Int64} (hne : ¬ y = 0) (hd : decode t.2.1 pc = .ok (.lrem, 1)) (k : zW g t (pc + 1) L (.long (x - x / y * y) :: r) M rv M2) : zW g t pc L (.long y :: .long x :: r) M rv M2 :=
  zgo (fun p e R s m args below meth c H ls locs cells slots Q hF hL k => lv_lrem hF.1 hF.2.1 hd hne k) k
theorem z_lneg {x : Int64} (hd : decode t.2.1 pc = .ok (.lneg, 1)) (k : zW g t (pc + 1) L (.long (-x) :: r) M rv M2) : zW g t pc L (.long x :: r) M rv M2 :=
  zgo (fun p e R s m args below meth c H ls locs cells slots Q hF hL k => lv_lneg hF.1 hF.2.1 hd k) k
theorem z_ishl {x y : Int32} (hd : decode t.2.1 pc = .ok (.ishl, 1)) (k : zW g t (pc + 1) L (.int (x <<< (y &&& 31)) :: r) M rv M2) : zW g t pc L (.int y :: .int x :: r) M rv M2 :=
  zgo (fun p e R s m args below meth c H ls locs cells slots Q hF hL k => lv_ishl hF.1 hF.2.1 hd k) k
theorem z_ishr {x y : Int32} (hd : decode t.2.1 pc = .ok (.ishr, 1)) (k : zW g t (pc + 1) L (.int (x >>> (y &&& 31)) :: r) M rv M2) : zW g t pc L (.int y :: .int x :: r) M rv M2 :=
  zgo (fun p e R s m args below meth c H ls locs cells slots Q hF hL k => lv_ishr hF.1 hF.2.1 hd k) k
theorem z_iushr {x y : Int32} (hd : decode t.2.1 pc = .ok (.iushr, 1)) (k : zW g t (pc + 1) L (.int ((x.toUInt32 >>> (y.toUInt32 &&& Int32.toUInt32 31)).toInt32) :: r) M rv M2) : zW g t pc L (.int y :: .int x :: r) M rv M2 :=
  zgo (fun p e R s m args below meth c H ls locs cells slots Q hF hL k => lv_iushr hF.1 hF.2.1 hd rfl k) k
theorem z_lshl {x : Int64} {y : Int32} (hd : decode t.2.1 pc = .ok (.lshl, 1)) (k : zW g t (pc + 1) L (.long (x <<< (y.toInt64 &&& 63)) :: r) M rv M2) : zW g t pc L (.int y :: .long x :: r) M rv M2 :=
  zgo (fun p e R s m args below meth c H ls locs cells slots Q hF hL k => lv_lshl hF.1 hF.2.1 hd rfl k) k
theorem z_lshr {x : Int64} {y : Int32} (hd : decode t.2.1 pc = .ok (.lshr, 1)) (k : zW g t (pc + 1) L (.long (x >>> (y.toInt64 &&& 63)) :: r) M rv M2) : zW g t pc L (.int y :: .long x :: r) M rv M2 :=
  zgo (fun p e R s m args below meth c H ls locs cells slots Q hF hL k => lv_lshr hF.1 hF.2.1 hd rfl k) k
theorem z_lushr {x : Int64} {y : Int32} (hd : decode t.2.1 pc = .ok (.lushr, 1)) (k : zW g t (pc + 1) L (.long ((x.toUInt64 >>> (y.toInt64.toUInt64 &&& Int64.toUInt64 63)).toInt64) :: r) M rv M2) : zW g t pc L (.int y :: .long x :: r) M rv M2 :=
  zgo (fun p e R s m args below meth c H ls locs cells slots Q hF hL k => lv_lushr hF.1 hF.2.1 hd rfl k) k
theorem z_i2l {x : Int32} (hd : decode t.2.1 pc = .ok (.i2l, 1)) (k : zW g t (pc + 1) L (.long x.toInt64 :: r) M rv M2) : zW g t pc L (.int x :: r) M rv M2 :=
  zgo (fun p e R s m args below meth c H ls locs cells slots Q hF hL k => lv_i2l hF.1 hF.2.1 hd rfl k) k
theorem z_l2i {x : Int64} (hd : decode t.2.1 pc = .ok (.l2i, 1)) (k : zW g t (pc + 1) L (.int x.toInt32 :: r) M rv M2) : zW g t pc L (.long x :: r) M rv M2 :=
  zgo (fun p e R s m args below meth c H ls locs cells slots Q hF hL k => lv_l2i hF.1 hF.2.1 hd rfl k) k
theorem z_i2b {x : Int32} (hd : decode t.2.1 pc = .ok (.i2b, 1)) (k : zW g t (pc + 1) L (.int x.toInt8.toInt32 :: r) M rv M2) : zW g t pc L (.int x :: r) M rv M2 :=
  zgo (fun p e R s m args below meth c H ls locs cells slots Q hF hL k => lv_i2b hF.1 hF.2.1 hd rfl k) k
theorem z_i2c {x : Int32} (hd : decode t.2.1 pc = .ok (.i2c, 1)) (k : zW g t (pc + 1) L (.int (x.toUInt32 % 65536).toInt32 :: r) M rv M2) : zW g t pc L (.int x :: r) M rv M2 :=
  zgo (fun p e R s m args below meth c H ls locs cells slots Q hF hL k => lv_i2c hF.1 hF.2.1 hd rfl k) k
theorem z_dup {v : Value} (hv : v.category = 1) (hd : decode t.2.1 pc = .ok (.dup, 1)) (k : zW g t (pc + 1) L (v :: v :: r) M rv M2) : zW g t pc L (v :: r) M rv M2 :=
  zgo (fun p e R s m args below meth c H ls locs cells slots Q hF hL k => lv_dup hF.1 hF.2.1 hd hv k) k
theorem z_pop {v : Value} (hv : v.category = 1) (hd : decode t.2.1 pc = .ok (.pop, 1)) (k : zW g t (pc + 1) L (r) M rv M2) : zW g t pc L (v :: r) M rv M2 :=
  zgo (fun p e R s m args below meth c H ls locs cells slots Q hF hL k => lv_pop hF.1 hF.2.1 hd hv k) k
theorem z_dup2 {v w : Value} (hv : v.category = 1) (hw : w.category = 1) (hd : decode t.2.1 pc = .ok (.dup2, 1)) (k : zW g t (pc + 1) L (v :: w :: v :: w :: r) M rv M2) : zW g t pc L (v :: w :: r) M rv M2 :=
  zgo (fun p e R s m args below meth c H ls locs cells slots Q hF hL k => lv_dup2_11 hF.1 hF.2.1 hd hv hw k) k
theorem z_dup_x1 {v w : Value} (hv : v.category = 1) (hw : w.category = 1) (hd : decode t.2.1 pc = .ok (.dup_x1, 1)) (k : zW g t (pc + 1) L (v :: w :: v :: r) M rv M2) : zW g t pc L (v :: w :: r) M rv M2 :=
  zgo (fun p e R s m args below meth c H ls locs cells slots Q hF hL k => lv_dup_x1 hF.1 hF.2.1 hd hv hw k) k
def zcmp (x y : Int64) : Int32 := if y < x then 1 else if x = y then 0 else -1
theorem z_goto {off : Int} {tgt : Nat} (hd : decode t.2.1 pc = .ok (.goto off, 3)) (ht : (pc : Int) + off = (tgt : Int)) (k : zW g t tgt L r M rv M2) : zW g t pc L r M rv M2 :=
  zgo (fun p e R s m args below meth c H ls locs cells slots Q hF hL k => lv_goto hF.1 hF.2.1 hd ht k) k
theorem z_if_eq {x : Int32} {off : Int} {tgt : Nat} (hd : decode t.2.1 pc = .ok (.ifCond .eq off, 3)) (ht : (pc : Int) + off = (tgt : Int)) (kt : x = 0 → zW g t tgt L r M rv M2) (kf : ¬ (x = 0) → zW g t (pc + 3) L r M rv M2) : zW g t pc L (.int x :: r) M rv M2 := by
  by_cases hc : x = 0
  · exact zgo (fun p e R s m args below meth c H ls locs cells slots Q hF hL k => lv_if_eq hF.1 hF.2.1 hd ht (fun _ => k) (fun h => absurd hc h)) (kt hc)
  · exact zgo (fun p e R s m args below meth c H ls locs cells slots Q hF hL k => lv_if_eq hF.1 hF.2.1 hd ht (fun h => absurd h hc) (fun _ => k)) (kf hc)
theorem z_icmp_eq {x y : Int32} {off : Int} {tgt : Nat} (hd : decode t.2.1 pc = .ok (.if_icmp .eq off, 3)) (ht : (pc : Int) + off = (tgt : Int)) (kt : x = y → zW g t tgt L r M rv M2) (kf : ¬ (x = y) → zW g t (pc + 3) L r M rv M2) : zW g t pc L (.int y :: .int x :: r) M rv M2 := by
  by_cases hc : x = y
  · exact zgo (fun p e R s m args below meth c H ls locs cells slots Q hF hL k => lv_icmp_eq hF.1 hF.2.1 hd ht (fun _ => k) (fun h => absurd hc h)) (kt hc)
  · exact zgo (fun p e R s m args below meth c H ls locs cells slots Q hF hL k => lv_icmp_eq hF.1 hF.2.1 hd ht (fun h => absurd h hc) (fun _ => k)) (kf hc)
theorem z_if_lt {x : Int32} {off : Int} {tgt : Nat} (hd : decode t.2.1 pc = .ok (.ifCond .lt off, 3)) (ht : (pc : Int) + off = (tgt : Int)) (kt : x < 0 → zW g t tgt L r M rv M2) (kf : ¬ (x < 0) → zW g t (pc + 3) L r M rv M2) : zW g t pc L (.int x :: r) M rv M2 := by
  by_cases hc : x < 0
  · exact zgo (fun p e R s m args below meth c H ls locs cells slots Q hF hL k => lv_if_lt hF.1 hF.2.1 hd ht (fun _ => k) (fun h => absurd hc h)) (kt hc)
  · exact zgo (fun p e R s m args below meth c H ls locs cells slots Q hF hL k => lv_if_lt hF.1 hF.2.1 hd ht (fun h => absurd h hc) (fun _ => k)) (kf hc)
theorem z_icmp_lt {x y : Int32} {off : Int} {tgt : Nat} (hd : decode t.2.1 pc = .ok (.if_icmp .lt off, 3)) (ht : (pc : Int) + off = (tgt : Int)) (kt : x < y → zW g t tgt L r M rv M2) (kf : ¬ (x < y) → zW g t (pc + 3) L r M rv M2) : zW g t pc L (.int y :: .int x :: r) M rv M2 := by
  by_cases hc : x < y
  · exact zgo (fun p e R s m args below meth c H ls locs cells slots Q hF hL k => lv_icmp_lt hF.1 hF.2.1 hd ht (fun _ => k) (fun h => absurd hc h)) (kt hc)
  · exact zgo (fun p e R s m args below meth c H ls locs cells slots Q hF hL k => lv_icmp_lt hF.1 hF.2.1 hd ht (fun h => absurd h hc) (fun _ => k)) (kf hc)
theorem z_if_ge {x : Int32} {off : Int} {tgt : Nat} (hd : decode t.2.1 pc = .ok (.ifCond .ge off, 3)) (ht : (pc : Int) + off = (tgt : Int)) (kt : 0 ≤ x → zW g t tgt L r M rv M2) (kf : ¬ (0 ≤ x) → zW g t (pc + 3) L r M rv M2) : zW g t pc L (.int x :: r) M rv M2 := by
  by_cases hc : 0 ≤ x
  · exact zgo (fun p e R s m args below meth c H ls locs cells slots Q hF hL k => lv_if_ge hF.1 hF.2.1 hd ht (fun _ => k) (fun h => absurd hc h)) (kt hc)
  · exact zgo (fun p e R s m args below meth c H ls locs cells slots Q hF hL k => lv_if_ge hF.1 hF.2.1 hd ht (fun h => absurd h hc) (fun _ => k)) (kf hc)
theorem z_icmp_ge {x y : Int32} {off : Int} {tgt : Nat} (hd : decode t.2.1 pc = .ok (.if_icmp .ge off, 3)) (ht : (pc : Int) + off = (tgt : Int)) (kt : y ≤ x → zW g t tgt L r M rv M2) (kf : ¬ (y ≤ x) → zW g t (pc + 3) L r M rv M2) : zW g t pc L (.int y :: .int x :: r) M rv M2 := by
  by_cases hc : y ≤ x
  · exact zgo (fun p e R s m args below meth c H ls locs cells slots Q hF hL k => lv_icmp_ge hF.1 hF.2.1 hd ht (fun _ => k) (fun h => absurd hc h)) (kt hc)
  · exact zgo (fun p e R s m args below meth c H ls locs cells slots Q hF hL k => lv_icmp_ge hF.1 hF.2.1 hd ht (fun h => absurd h hc) (fun _ => k)) (kf hc)
theorem z_if_gt {x : Int32} {off : Int} {tgt : Nat} (hd : decode t.2.1 pc = .ok (.ifCond .gt off, 3)) (ht : (pc : Int) + off = (tgt : Int)) (kt : 0 < x → zW g t tgt L r M rv M2) (kf : ¬ (0 < x) → zW g t (pc + 3) L r M rv M2) : zW g t pc L (.int x :: r) M rv M2 := by
  by_cases hc : 0 < x
  · exact zgo (fun p e R s m args below meth c H ls locs cells slots Q hF hL k => lv_if_gt hF.1 hF.2.1 hd ht (fun _ => k) (fun h => absurd hc h)) (kt hc)
  · exact zgo (fun p e R s m args below meth c H ls locs cells slots Q hF hL k => lv_if_gt hF.1 hF.2.1 hd ht (fun h => absurd h hc) (fun _ => k)) (kf hc)
theorem z_icmp_gt {x y : Int32} {off : Int} {tgt : Nat} (hd : decode t.2.1 pc = .ok (.if_icmp .gt off, 3)) (ht : (pc : Int) + off = (tgt : Int)) (kt : y < x → zW g t tgt L r M rv M2) (kf : ¬ (y < x) → zW g t (pc + 3) L r M rv M2) : zW g t pc L (.int y :: .int x :: r) M rv M2 := by
  by_cases hc : y < x
  · exact zgo (fun p e R s m args below meth c H ls locs cells slots Q hF hL k => lv_icmp_gt hF.1 hF.2.1 hd ht (fun _ => k) (fun h => absurd hc h)) (kt hc)
  · exact zgo (fun p e R s m args below meth c H ls locs cells slots Q hF hL k => lv_icmp_gt hF.1 hF.2.1 hd ht (fun h => absurd h hc) (fun _ => k)) (kf hc)
theorem z_if_le {x : Int32} {off : Int} {tgt : Nat} (hd : decode t.2.1 pc = .ok (.ifCond .le off, 3)) (ht : (pc : Int) + off = (tgt : Int)) (kt : x ≤ 0 → zW g t tgt L r M rv M2) (kf : ¬ (x ≤ 0) → zW g t (pc + 3) L r M rv M2) : zW g t pc L (.int x :: r) M rv M2 := by
  by_cases hc : x ≤ 0
  · exact zgo (fun p e R s m args below meth c H ls locs cells slots Q hF hL k => lv_if_le hF.1 hF.2.1 hd ht (fun _ => k) (fun h => absurd hc h)) (kt hc)
  · exact zgo (fun p e R s m args below meth c H ls locs cells slots Q hF hL k => lv_if_le hF.1 hF.2.1 hd ht (fun h => absurd h hc) (fun _ => k)) (kf hc)
theorem z_icmp_le {x y : Int32} {off : Int} {tgt : Nat} (hd : decode t.2.1 pc = .ok (.if_icmp .le off, 3)) (ht : (pc : Int) + off = (tgt : Int)) (kt : x ≤ y → zW g t tgt L r M rv M2) (kf : ¬ (x ≤ y) → zW g t (pc + 3) L r M rv M2) : zW g t pc L (.int y :: .int x :: r) M rv M2 := by
  by_cases hc : x ≤ y
  · exact zgo (fun p e R s m args below meth c H ls locs cells slots Q hF hL k => lv_icmp_le hF.1 hF.2.1 hd ht (fun _ => k) (fun h => absurd hc h)) (kt hc)
  · exact zgo (fun p e R s m args below meth c H ls locs cells slots Q hF hL k => lv_icmp_le hF.1 hF.2.1 hd ht (fun h => absurd h hc) (fun _ => k)) (kf hc)
theorem z_if_ne {x : Int32} {off : Int} {tgt : Nat} (hd : decode t.2.1 pc = .ok (.ifCond .ne off, 3)) (ht : (pc : Int) + off = (tgt : Int)) (kt : ¬ (x = 0) → zW g t tgt L r M rv M2) (kf : x = 0 → zW g t (pc + 3) L r M rv M2) : zW g t pc L (.int x :: r) M rv M2 := by
  by_cases hc : x = 0
  · exact zgo (fun p e R s m args below meth c H ls locs cells slots Q hF hL k => lv_if_ne hF.1 hF.2.1 hd ht (fun h => absurd hc h) (fun _ => k)) (kf hc)
  · exact zgo (fun p e R s m args below meth c H ls locs cells slots Q hF hL k => lv_if_ne hF.1 hF.2.1 hd ht (fun _ => k) (fun h => absurd h hc)) (kt hc)
theorem z_icmp_ne {x y : Int32} {off : Int} {tgt : Nat} (hd : decode t.2.1 pc = .ok (.if_icmp .ne off, 3)) (ht : (pc : Int) + off = (tgt : Int)) (kt : ¬ (x = y) → zW g t tgt L r M rv M2) (kf : x = y → zW g t (pc + 3) L r M rv M2) : zW g t pc L (.int y :: .int x :: r) M rv M2 := by
  by_cases hc : x = y
  · exact zgo (fun p e R s m args below meth c H ls locs cells slots Q hF hL k => lv_icmp_ne hF.1 hF.2.1 hd ht (fun h => absurd hc h) (fun _ => k)) (kf hc)
  · exact zgo (fun p e R s m args below meth c H ls locs cells slots Q hF hL k => lv_icmp_ne hF.1 hF.2.1 hd ht (fun _ => k) (fun h => absurd h hc)) (kt hc)
theorem z_lcmp {x y : Int64} (hd : decode t.2.1 pc = .ok (.lcmp, 1)) (k : zW g t (pc + 1) L (.int (lg_cmp x y) :: r) M rv M2) : zW g t pc L (.long y :: .long x :: r) M rv M2 :=
  zgo (fun p e R s m args below meth c H ls locs cells slots Q hF hL k => W.lcmp hF.1 hF.2.1 hd k) k
theorem z_ifnull {x : Nat} {off : Int} (hd : decode t.2.1 pc = .ok (.ifnull off, 3)) (k : zW g t (pc + 3) L r M rv M2) : zW g t pc L (.ref x :: r) M rv M2 :=
  zgo (fun p e R s m args below meth c H ls locs cells slots Q hF hL k => lv_ifnull hF.1 hF.2.1 hd k) k
theorem z_ifnullN {off : Int} {tgt : Nat} (hd : decode t.2.1 pc = .ok (.ifnull off, 3)) (ht : (pc : Int) + off = (tgt : Int)) (k : zW g t tgt L r M rv M2) : zW g t pc L (.null :: r) M rv M2 :=
  zgo (fun p e R s m args below meth c H ls locs cells slots Q hF hL k => lv_ifnullN hF.1 hF.2.1 hd ht k) k
theorem z_ifnonnull {x : Nat} {off : Int} {tgt : Nat} (hd : decode t.2.1 pc = .ok (.ifnonnull off, 3)) (ht : (pc : Int) + off = (tgt : Int)) (k : zW g t tgt L r M rv M2) : zW g t pc L (.ref x :: r) M rv M2 :=
  zgo (fun p e R s m args below meth c H ls locs cells slots Q hF hL k => lv_ifnonnull hF.1 hF.2.1 hd ht k) k
theorem z_ifnonnullN {off : Int} (hd : decode t.2.1 pc = .ok (.ifnonnull off, 3)) (k : zW g t (pc + 3) L r M rv M2) : zW g t pc L (.null :: r) M rv M2 :=
  zgo (fun p e R s m args below meth c H ls locs cells slots Q hF hL k => lv_ifnonnullN hF.1 hF.2.1 hd k) k
/-- a good word of the tables, inside a method -/
theorem zw_at (hC : zC g) {p : Program} {R : Room} {s : State} {m : MethodId} {meth : Method} {c : Code} (hF : zF g t p R s m meth c) {w : Cond} (hw : w ∈ lw_tbl) (hg : goodWord w = true) (a : Array Value) : w.before a s = true := word_at hF.2.2.2.2.2.1 (good_of_word hg) (hC.1 w hw)
theorem z_ldc (hC : zC g) {n : Nat} {v : Int32} (hd : decode t.2.1 pc = .ok (.ldc n, 2)) (hw : Cond.constant t.1 n v ∈ lw_tbl) (k : zW g t (pc + 2) L (.int v :: r) M rv M2) : zW g t pc L r M rv M2 :=
  zgo (fun p e R s m args below meth c H ls locs cells slots Q hF hL k => lv_ldc hF.1 hF.2.1 hF.2.2.2.1 (zw_at hC hF hw rfl args) hd k) k
theorem z_ldc_w (hC : zC g) {n : Nat} {v : Int32} (hd : decode t.2.1 pc = .ok (.ldc_w n, 3)) (hw : Cond.constant t.1 n v ∈ lw_tbl) (k : zW g t (pc + 3) L (.int v :: r) M rv M2) : zW g t pc L r M rv M2 :=
  zgo (fun p e R s m args below meth c H ls locs cells slots Q hF hL k => lv_ldcw hF.1 hF.2.1 hF.2.2.2.1 (zw_at hC hF hw rfl args) hd k) k
theorem z_ldc2 (hC : zC g) {n : Nat} {v : Int64} (hd : decode t.2.1 pc = .ok (.ldc2_w n, 3)) (hw : Cond.constantLong t.1 n v ∈ lw_tbl) (k : zW g t (pc + 3) L (.long v :: r) M rv M2) : zW g t pc L r M rv M2 :=
  zgo (fun p e R s m args below meth c H ls locs cells slots Q hF hL k => lv_ldc2 hF.1 hF.2.1 hF.2.2.2.1 (zw_at hC hF hw rfl args) hd k) k
theorem z_objInit (hC : zC g) {a n : Nat} (hd : decode t.2.1 pc = .ok (.invokespecial n, 3)) (hw : Cond.methodLink t.1 n Lib.objectInit ∈ lw_tbl) (hw1 : Cond.instanceMethod Lib.objectInit ∈ lw_tbl) (hw2 : Cond.code Lib.objectInit ⟨#[0xb1]⟩ 1 none ∈ lw_tbl) (hfr : 1 ≤ t.2.2.2.2.2.1) (hlo : (r.map fun v => v.category).sum + 12 ≤ t.2.2.2.2.2.2) (k : zW g t (pc + 3) L r M rv M2) : zW g t pc L (.ref a :: r) M rv M2 :=
  zgo (fun p e R s m args below meth c H ls locs cells slots Q hF hL k => W.objInit hF.1 hF.2.1 hF.2.2.2.1 (zw_at hC hF hw rfl args) (zw_at hC hF hw1 rfl args) (zw_at hC hF hw2 rfl args) rfl (by rw [hF.2.2.1]; exact hL.1) rfl hd (Nat.le_trans hfr hF.2.2.2.2.2.2.1) (by
    have h1 : (F0 m pc ls (.ref a :: r)).monitorRoom = 0 := rfl
    rw [h1]
    have := hF.2.2.2.2.2.2.2
    omega) k) k
theorem z_iret {x : Int32} (hr : zRok t.2.2.2.1 (some (.int x))) (hd : decode t.2.1 pc = .ok (.ireturn, 1)) : zW g t pc L [.int x] M (some (.int x)) M :=
  ⟨Nat.le_refl _, Nat.le_refl _, fun p e R s m args below meth c H ls locs cells slots Q hF hR hL hl hc hs hQ => hQ pc ls H locs cells slots hR hl (by omega) (by omega) hd hr⟩
theorem z_lret {x : Int64} (hr : zRok t.2.2.2.1 (some (.long x))) (hd : decode t.2.1 pc = .ok (.lreturn, 1)) : zW g t pc L [.long x] M (some (.long x)) M :=
  ⟨Nat.le_refl _, Nat.le_refl _, fun p e R s m args below meth c H ls locs cells slots Q hF hR hL hl hc hs hQ => hQ pc ls H locs cells slots hR hl (by omega) (by omega) hd hr⟩
theorem z_aret {x : Option Nat} {a : FieldType} (hr : t.2.2.2.1 = some a) (ha : (∃ n, a = .object n) ∨ ∃ u, a = .array u) (hd : decode t.2.1 pc = .ok (.areturn, 1)) : zW g t pc L [va_rf x] M (some (va_rf x)) M :=
  ⟨Nat.le_refl _, Nat.le_refl _, fun p e R s m args below meth c H ls locs cells slots Q hF hR hL hl hc hs hQ => hQ pc ls H locs cells slots hR hl (by omega) (by omega) (by cases x <;> exact hd) (by cases x <;> exact ⟨a, hr, ha⟩)⟩
theorem z_ret (hr : t.2.2.2.1 = none) (hd : decode t.2.1 pc = .ok (.return_, 1)) : zW g t pc L [] M none M :=
  ⟨Nat.le_refl _, Nat.le_refl _, fun p e R s m args below meth c H ls locs cells slots Q hF hR hL hl hc hs hQ => hQ pc ls H locs cells slots hR hl (by omega) (by omega) hd hr⟩
theorem z_nameI {x : Int32} (k : ∀ y : Int32, y = x → zW g t pc L (.int y :: r) M rv M2) : zW g t pc L (.int x :: r) M rv M2 := k x rfl
theorem z_nameL {x : Int64} (k : ∀ y : Int64, y = x → zW g t pc L (.long y :: r) M rv M2) : zW g t pc L (.long x :: r) M rv M2 := k x rfl
theorem z_tabIn {dflt hi : Int} {offs : Array Int} {len : Nat} {x : Int32} {off : Int} {tgt : Nat} (j : Nat) (hd : decode t.2.1 pc = .ok (.tableswitch dflt 0 hi offs, len)) (hx : x = Int32.ofNat j) (hj : j < 1000) (h2 : (j : Int) ≤ hi) (ho : offs[j]? = some off) (ht : (pc : Int) + off = (tgt : Int)) (k : zW g t tgt L r M rv M2) : zW g t pc L (.int x :: r) M rv M2 :=
  zgo (fun p e R s m args below meth c H ls locs cells slots Q hF hL k => by
    have hxi : x.toInt = (j : Int) := by rw [hx]; exact nI_toInt (by omega)
    exact lv_tableIn hF.1 hF.2.1 hd (by omega) (by omega) (by rw [hxi]; simpa using ho) ht k) k
theorem z_tabOut {dflt hi : Int} {offs : Array Int} {len : Nat} {x : Int32} {tgt : Nat} (n : Nat) (hd : decode t.2.1 pc = .ok (.tableswitch dflt 0 hi offs, len)) (hn : (n : Int) = hi) (hn2 : n < 1000) (hx : ∀ j, j ≤ n → ¬ x = Int32.ofNat j) (ht : (pc : Int) + dflt = (tgt : Int)) (k : zW g t tgt L r M rv M2) : zW g t pc L (.int x :: r) M rv M2 :=
  zgo (fun p e R s m args below meth c H ls locs cells slots Q hF hL k => by
    refine lv_tableOut hF.1 hF.2.1 hd ?_ ht k
    by_cases h0 : x.toInt < 0
    · exact Or.inl h0
    · right
      refine Int.not_le.mp fun h1 => hx x.toInt.toNat (by omega) ?_
      refine Int32.toInt_inj.mp ?_
      have := nI_toInt (n := x.toInt.toNat) (by omega)
      unfold nI at this
      rw [this]
      omega) k
end ZR
