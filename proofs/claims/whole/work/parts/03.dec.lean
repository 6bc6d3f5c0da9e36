/-! decoding in bulk: what bytes an instruction is, checked against the code's bytes; 'decode' follows by a lemma an opcode -/
def by1 (c : ByteArray) (p b : Nat) : Prop := ∃ h : p < c.size, c[p].toNat = b
theorem u1_at {c : ByteArray} {p b : Nat} (h : by1 c p b) : (Reader.u1 : Decoder Nat) c p = .ok (b, p + 1) := by
  obtain ⟨h1, h2⟩ := h
  show (if h : p < c.size then _ else _ : Decoder Nat) c p = _
  rw [dif_pos h1, ← h2]
  rfl
theorem bd_u1 {α : Type} {K : Nat → Decoder α} {c : ByteArray} {p b : Nat} {r : Except DecodeError (α × Nat)} (h : by1 c p b) (hk : K b c (p + 1) = r) : (Reader.u1 >>= K : Decoder α) c p = r := by
  show ((Reader.u1 : Decoder Nat) c p).bind (fun x => K x.1 c x.2) = r
  rw [u1_at h]
  exact hk
theorem bd_u2 {α : Type} {K : Nat → Decoder α} {c : ByteArray} {p a b : Nat} {r : Except DecodeError (α × Nat)} (h : by1 c p a) (h2 : by1 c (p + 1) b) (hk : K (a * 256 + b) c (p + 2) = r) : (Reader.u2 >>= K : Decoder α) c p = r := by
  have e : (Reader.u2 : Decoder Nat) c p = .ok (a * 256 + b, p + 2) := bd_u1 h (bd_u1 h2 rfl)
  show ((Reader.u2 : Decoder Nat) c p).bind (fun x => K x.1 c x.2) = r
  rw [e]
  exact hk
theorem bd_s1 {α : Type} {K : Int → Decoder α} {c : ByteArray} {p b : Nat} {z : Int} {r : Except DecodeError (α × Nat)} (h : by1 c p b) (hz : Reader.signed 8 b = z) (hk : K z c (p + 1) = r) : (Reader.s1 >>= K : Decoder α) c p = r := by
  have e : (Reader.s1 : Decoder Int) c p = .ok (z, p + 1) := by
    show ((Reader.u1 : Decoder Nat) c p).bind (fun x => .ok (Reader.signed 8 x.1, x.2)) = _
    rw [u1_at h, ← hz]
    rfl
  show ((Reader.s1 : Decoder Int) c p).bind (fun x => K x.1 c x.2) = r
  rw [e]
  exact hk
theorem bd_s2 {α : Type} {K : Int → Decoder α} {c : ByteArray} {p a b : Nat} {z : Int} {r : Except DecodeError (α × Nat)} (h : by1 c p a) (h2 : by1 c (p + 1) b) (hz : Reader.signed 16 (a * 256 + b) = z) (hk : K z c (p + 2) = r) : (Reader.s2 >>= K : Decoder α) c p = r := by
  have e : (Reader.s2 : Decoder Int) c p = .ok (z, p + 2) := by
    have e2 : (Reader.u2 : Decoder Nat) c p = .ok (a * 256 + b, p + 2) := bd_u1 h (bd_u1 h2 rfl)
    show ((Reader.u2 : Decoder Nat) c p).bind (fun x => .ok (Reader.signed 16 x.1, x.2)) = _
    rw [e2, ← hz]
    rfl
  show ((Reader.s2 : Decoder Int) c p).bind (fun x => K x.1 c x.2) = r
  rw [e]
  exact hk
theorem dec_of {c : ByteArray} {pc q n : Nat} {i : Instr} (h : Decoder.instr pc c pc = .ok (i, q)) (hn : q - pc = n) : decode c pc = .ok (i, n) := by
  show ((Decoder.instr pc c pc).bind (fun x => Except.ok (x.1, x.2 - pc))) = _
  rw [h, ← hn]
  rfl
theorem sg8 {z : Int} (h1 : -128 ≤ z) (h2 : z < 128) : Reader.signed 8 (z % 256).toNat = z := by
  unfold Reader.signed
  split <;> rename_i h <;> simp at h ⊢ <;> omega
theorem sg16 {z : Int} (h1 : -32768 ≤ z) (h2 : z < 32768) : Reader.signed 16 ((z % 65536).toNat / 256 * 256 + (z % 65536).toNat % 256) = z := by
  unfold Reader.signed
  split <;> rename_i h <;> simp at h ⊢ <;> omega
def s2b (op : Nat) (z : Int) : Option (List Nat) := if -32768 ≤ z ∧ z < 32768 then some [op, (z % 65536).toNat / 256, (z % 65536).toNat % 256] else none
def bys (c : ByteArray) : Nat → List Nat → Prop
  | _, [] => True
  | p, b :: L => by1 c p b ∧ bys c (p + 1) L
theorem ek_aconst_null {c : ByteArray} {pc : Nat} (h : bys c pc [1]) : decode c pc = .ok (.aconst_null, 1) := dec_of (bd_u1 h.1 rfl) (by omega)
theorem ek_iaload {c : ByteArray} {pc : Nat} (h : bys c pc [46]) : decode c pc = .ok (.iaload, 1) := dec_of (bd_u1 h.1 rfl) (by omega)
theorem ek_laload {c : ByteArray} {pc : Nat} (h : bys c pc [47]) : decode c pc = .ok (.laload, 1) := dec_of (bd_u1 h.1 rfl) (by omega)
theorem ek_aaload {c : ByteArray} {pc : Nat} (h : bys c pc [50]) : decode c pc = .ok (.aaload, 1) := dec_of (bd_u1 h.1 rfl) (by omega)
theorem ek_baload {c : ByteArray} {pc : Nat} (h : bys c pc [51]) : decode c pc = .ok (.baload, 1) := dec_of (bd_u1 h.1 rfl) (by omega)
theorem ek_iastore {c : ByteArray} {pc : Nat} (h : bys c pc [79]) : decode c pc = .ok (.iastore, 1) := dec_of (bd_u1 h.1 rfl) (by omega)
theorem ek_lastore {c : ByteArray} {pc : Nat} (h : bys c pc [80]) : decode c pc = .ok (.lastore, 1) := dec_of (bd_u1 h.1 rfl) (by omega)
theorem ek_aastore {c : ByteArray} {pc : Nat} (h : bys c pc [83]) : decode c pc = .ok (.aastore, 1) := dec_of (bd_u1 h.1 rfl) (by omega)
theorem ek_bastore {c : ByteArray} {pc : Nat} (h : bys c pc [84]) : decode c pc = .ok (.bastore, 1) := dec_of (bd_u1 h.1 rfl) (by omega)
theorem ek_pop {c : ByteArray} {pc : Nat} (h : bys c pc [87]) : decode c pc = .ok (.pop, 1) := dec_of (bd_u1 h.1 rfl) (by omega)
theorem ek_dup {c : ByteArray} {pc : Nat} (h : bys c pc [89]) : decode c pc = .ok (.dup, 1) := dec_of (bd_u1 h.1 rfl) (by omega)
theorem ek_dup2 {c : ByteArray} {pc : Nat} (h : bys c pc [92]) : decode c pc = .ok (.dup2, 1) := dec_of (bd_u1 h.1 rfl) (by omega)
theorem ek_iadd {c : ByteArray} {pc : Nat} (h : bys c pc [96]) : decode c pc = .ok (.iadd, 1) := dec_of (bd_u1 h.1 rfl) (by omega)
theorem ek_ladd {c : ByteArray} {pc : Nat} (h : bys c pc [97]) : decode c pc = .ok (.ladd, 1) := dec_of (bd_u1 h.1 rfl) (by omega)
theorem ek_isub {c : ByteArray} {pc : Nat} (h : bys c pc [100]) : decode c pc = .ok (.isub, 1) := dec_of (bd_u1 h.1 rfl) (by omega)
theorem ek_lsub {c : ByteArray} {pc : Nat} (h : bys c pc [101]) : decode c pc = .ok (.lsub, 1) := dec_of (bd_u1 h.1 rfl) (by omega)
theorem ek_imul {c : ByteArray} {pc : Nat} (h : bys c pc [104]) : decode c pc = .ok (.imul, 1) := dec_of (bd_u1 h.1 rfl) (by omega)
theorem ek_lmul {c : ByteArray} {pc : Nat} (h : bys c pc [105]) : decode c pc = .ok (.lmul, 1) := dec_of (bd_u1 h.1 rfl) (by omega)
theorem ek_idiv {c : ByteArray} {pc : Nat} (h : bys c pc [108]) : decode c pc = .ok (.idiv, 1) := dec_of (bd_u1 h.1 rfl) (by omega)
theorem ek_ldiv {c : ByteArray} {pc : Nat} (h : bys c pc [109]) : decode c pc = .ok (.ldiv, 1) := dec_of (bd_u1 h.1 rfl) (by omega)
theorem ek_irem {c : ByteArray} {pc : Nat} (h : bys c pc [112]) : decode c pc = .ok (.irem, 1) := dec_of (bd_u1 h.1 rfl) (by omega)
theorem ek_lrem {c : ByteArray} {pc : Nat} (h : bys c pc [113]) : decode c pc = .ok (.lrem, 1) := dec_of (bd_u1 h.1 rfl) (by omega)
theorem ek_ineg {c : ByteArray} {pc : Nat} (h : bys c pc [116]) : decode c pc = .ok (.ineg, 1) := dec_of (bd_u1 h.1 rfl) (by omega)
theorem ek_ishl {c : ByteArray} {pc : Nat} (h : bys c pc [120]) : decode c pc = .ok (.ishl, 1) := dec_of (bd_u1 h.1 rfl) (by omega)
theorem ek_lshl {c : ByteArray} {pc : Nat} (h : bys c pc [121]) : decode c pc = .ok (.lshl, 1) := dec_of (bd_u1 h.1 rfl) (by omega)
theorem ek_ishr {c : ByteArray} {pc : Nat} (h : bys c pc [122]) : decode c pc = .ok (.ishr, 1) := dec_of (bd_u1 h.1 rfl) (by omega)
theorem ek_lshr {c : ByteArray} {pc : Nat} (h : bys c pc [123]) : decode c pc = .ok (.lshr, 1) := dec_of (bd_u1 h.1 rfl) (by omega)
theorem ek_iushr {c : ByteArray} {pc : Nat} (h : bys c pc [124]) : decode c pc = .ok (.iushr, 1) := dec_of (bd_u1 h.1 rfl) (by omega)
theorem ek_iand {c : ByteArray} {pc : Nat} (h : bys c pc [126]) : decode c pc = .ok (.iand, 1) := dec_of (bd_u1 h.1 rfl) (by omega)
theorem ek_land {c : ByteArray} {pc : Nat} (h : bys c pc [127]) : decode c pc = .ok (.land, 1) := dec_of (bd_u1 h.1 rfl) (by omega)
theorem ek_ior {c : ByteArray} {pc : Nat} (h : bys c pc [128]) : decode c pc = .ok (.ior, 1) := dec_of (bd_u1 h.1 rfl) (by omega)
theorem ek_lor {c : ByteArray} {pc : Nat} (h : bys c pc [129]) : decode c pc = .ok (.lor, 1) := dec_of (bd_u1 h.1 rfl) (by omega)
theorem ek_ixor {c : ByteArray} {pc : Nat} (h : bys c pc [130]) : decode c pc = .ok (.ixor, 1) := dec_of (bd_u1 h.1 rfl) (by omega)
theorem ek_i2l {c : ByteArray} {pc : Nat} (h : bys c pc [133]) : decode c pc = .ok (.i2l, 1) := dec_of (bd_u1 h.1 rfl) (by omega)
theorem ek_l2i {c : ByteArray} {pc : Nat} (h : bys c pc [136]) : decode c pc = .ok (.l2i, 1) := dec_of (bd_u1 h.1 rfl) (by omega)
theorem ek_i2b {c : ByteArray} {pc : Nat} (h : bys c pc [145]) : decode c pc = .ok (.i2b, 1) := dec_of (bd_u1 h.1 rfl) (by omega)
theorem ek_i2c {c : ByteArray} {pc : Nat} (h : bys c pc [146]) : decode c pc = .ok (.i2c, 1) := dec_of (bd_u1 h.1 rfl) (by omega)
theorem ek_i2s {c : ByteArray} {pc : Nat} (h : bys c pc [147]) : decode c pc = .ok (.i2s, 1) := dec_of (bd_u1 h.1 rfl) (by omega)
theorem ek_lcmp {c : ByteArray} {pc : Nat} (h : bys c pc [148]) : decode c pc = .ok (.lcmp, 1) := dec_of (bd_u1 h.1 rfl) (by omega)
theorem ek_ireturn {c : ByteArray} {pc : Nat} (h : bys c pc [172]) : decode c pc = .ok (.ireturn, 1) := dec_of (bd_u1 h.1 rfl) (by omega)
theorem ek_lreturn {c : ByteArray} {pc : Nat} (h : bys c pc [173]) : decode c pc = .ok (.lreturn, 1) := dec_of (bd_u1 h.1 rfl) (by omega)
theorem ek_areturn {c : ByteArray} {pc : Nat} (h : bys c pc [176]) : decode c pc = .ok (.areturn, 1) := dec_of (bd_u1 h.1 rfl) (by omega)
theorem ek_return_ {c : ByteArray} {pc : Nat} (h : bys c pc [177]) : decode c pc = .ok (.return_, 1) := dec_of (bd_u1 h.1 rfl) (by omega)
theorem ek_arraylength {c : ByteArray} {pc : Nat} (h : bys c pc [190]) : decode c pc = .ok (.arraylength, 1) := dec_of (bd_u1 h.1 rfl) (by omega)
theorem ek_athrow {c : ByteArray} {pc : Nat} (h : bys c pc [191]) : decode c pc = .ok (.athrow, 1) := dec_of (bd_u1 h.1 rfl) (by omega)
theorem ek_iload_n0 {c : ByteArray} {pc : Nat} (h : bys c pc [26]) : decode c pc = .ok (.iload_n 0, 1) := dec_of (bd_u1 h.1 rfl) (by omega)
theorem ek_iload_n1 {c : ByteArray} {pc : Nat} (h : bys c pc [27]) : decode c pc = .ok (.iload_n 1, 1) := dec_of (bd_u1 h.1 rfl) (by omega)
theorem ek_iload_n2 {c : ByteArray} {pc : Nat} (h : bys c pc [28]) : decode c pc = .ok (.iload_n 2, 1) := dec_of (bd_u1 h.1 rfl) (by omega)
theorem ek_iload_n3 {c : ByteArray} {pc : Nat} (h : bys c pc [29]) : decode c pc = .ok (.iload_n 3, 1) := dec_of (bd_u1 h.1 rfl) (by omega)
theorem ek_lload_n0 {c : ByteArray} {pc : Nat} (h : bys c pc [30]) : decode c pc = .ok (.lload_n 0, 1) := dec_of (bd_u1 h.1 rfl) (by omega)
theorem ek_lload_n1 {c : ByteArray} {pc : Nat} (h : bys c pc [31]) : decode c pc = .ok (.lload_n 1, 1) := dec_of (bd_u1 h.1 rfl) (by omega)
theorem ek_lload_n2 {c : ByteArray} {pc : Nat} (h : bys c pc [32]) : decode c pc = .ok (.lload_n 2, 1) := dec_of (bd_u1 h.1 rfl) (by omega)
theorem ek_lload_n3 {c : ByteArray} {pc : Nat} (h : bys c pc [33]) : decode c pc = .ok (.lload_n 3, 1) := dec_of (bd_u1 h.1 rfl) (by omega)
theorem ek_aload_n0 {c : ByteArray} {pc : Nat} (h : bys c pc [42]) : decode c pc = .ok (.aload_n 0, 1) := dec_of (bd_u1 h.1 rfl) (by omega)
theorem ek_aload_n1 {c : ByteArray} {pc : Nat} (h : bys c pc [43]) : decode c pc = .ok (.aload_n 1, 1) := dec_of (bd_u1 h.1 rfl) (by omega)
theorem ek_aload_n2 {c : ByteArray} {pc : Nat} (h : bys c pc [44]) : decode c pc = .ok (.aload_n 2, 1) := dec_of (bd_u1 h.1 rfl) (by omega)
theorem ek_aload_n3 {c : ByteArray} {pc : Nat} (h : bys c pc [45]) : decode c pc = .ok (.aload_n 3, 1) := dec_of (bd_u1 h.1 rfl) (by omega)
theorem ek_istore_n0 {c : ByteArray} {pc : Nat} (h : bys c pc [59]) : decode c pc = .ok (.istore_n 0, 1) := dec_of (bd_u1 h.1 rfl) (by omega)
theorem ek_istore_n1 {c : ByteArray} {pc : Nat} (h : bys c pc [60]) : decode c pc = .ok (.istore_n 1, 1) := dec_of (bd_u1 h.1 rfl) (by omega)
theorem ek_istore_n2 {c : ByteArray} {pc : Nat} (h : bys c pc [61]) : decode c pc = .ok (.istore_n 2, 1) := dec_of (bd_u1 h.1 rfl) (by omega)
theorem ek_istore_n3 {c : ByteArray} {pc : Nat} (h : bys c pc [62]) : decode c pc = .ok (.istore_n 3, 1) := dec_of (bd_u1 h.1 rfl) (by omega)
theorem ek_lstore_n0 {c : ByteArray} {pc : Nat} (h : bys c pc [63]) : decode c pc = .ok (.lstore_n 0, 1) := dec_of (bd_u1 h.1 rfl) (by omega)
theorem ek_lstore_n1 {c : ByteArray} {pc : Nat} (h : bys c pc [64]) : decode c pc = .ok (.lstore_n 1, 1) := dec_of (bd_u1 h.1 rfl) (by omega)
theorem ek_lstore_n2 {c : ByteArray} {pc : Nat} (h : bys c pc [65]) : decode c pc = .ok (.lstore_n 2, 1) := dec_of (bd_u1 h.1 rfl) (by omega)
theorem ek_lstore_n3 {c : ByteArray} {pc : Nat} (h : bys c pc [66]) : decode c pc = .ok (.lstore_n 3, 1) := dec_of (bd_u1 h.1 rfl) (by omega)
theorem ek_astore_n0 {c : ByteArray} {pc : Nat} (h : bys c pc [75]) : decode c pc = .ok (.astore_n 0, 1) := dec_of (bd_u1 h.1 rfl) (by omega)
theorem ek_astore_n1 {c : ByteArray} {pc : Nat} (h : bys c pc [76]) : decode c pc = .ok (.astore_n 1, 1) := dec_of (bd_u1 h.1 rfl) (by omega)
theorem ek_astore_n2 {c : ByteArray} {pc : Nat} (h : bys c pc [77]) : decode c pc = .ok (.astore_n 2, 1) := dec_of (bd_u1 h.1 rfl) (by omega)
theorem ek_astore_n3 {c : ByteArray} {pc : Nat} (h : bys c pc [78]) : decode c pc = .ok (.astore_n 3, 1) := dec_of (bd_u1 h.1 rfl) (by omega)
theorem ek_iconstm1 {c : ByteArray} {pc : Nat} (h : bys c pc [2]) : decode c pc = .ok (.iconst (-1), 1) := dec_of (bd_u1 h.1 rfl) (by omega)
theorem ek_iconst0 {c : ByteArray} {pc : Nat} (h : bys c pc [3]) : decode c pc = .ok (.iconst 0, 1) := dec_of (bd_u1 h.1 rfl) (by omega)
theorem ek_iconst1 {c : ByteArray} {pc : Nat} (h : bys c pc [4]) : decode c pc = .ok (.iconst 1, 1) := dec_of (bd_u1 h.1 rfl) (by omega)
theorem ek_iconst2 {c : ByteArray} {pc : Nat} (h : bys c pc [5]) : decode c pc = .ok (.iconst 2, 1) := dec_of (bd_u1 h.1 rfl) (by omega)
theorem ek_iconst3 {c : ByteArray} {pc : Nat} (h : bys c pc [6]) : decode c pc = .ok (.iconst 3, 1) := dec_of (bd_u1 h.1 rfl) (by omega)
theorem ek_iconst4 {c : ByteArray} {pc : Nat} (h : bys c pc [7]) : decode c pc = .ok (.iconst 4, 1) := dec_of (bd_u1 h.1 rfl) (by omega)
theorem ek_iconst5 {c : ByteArray} {pc : Nat} (h : bys c pc [8]) : decode c pc = .ok (.iconst 5, 1) := dec_of (bd_u1 h.1 rfl) (by omega)
theorem ek_lconst0 {c : ByteArray} {pc : Nat} (h : bys c pc [9]) : decode c pc = .ok (.lconst 0, 1) := dec_of (bd_u1 h.1 rfl) (by omega)
theorem ek_lconst1 {c : ByteArray} {pc : Nat} (h : bys c pc [10]) : decode c pc = .ok (.lconst 1, 1) := dec_of (bd_u1 h.1 rfl) (by omega)
theorem ek_ldc {c : ByteArray} {pc x : Nat} (h : bys c pc [18, x]) : decode c pc = .ok (.ldc x, 2) := dec_of (bd_u1 h.1 (bd_u1 h.2.1 rfl)) (by omega)
theorem ek_iload {c : ByteArray} {pc x : Nat} (h : bys c pc [21, x]) : decode c pc = .ok (.iload x, 2) := dec_of (bd_u1 h.1 (bd_u1 h.2.1 rfl)) (by omega)
theorem ek_lload {c : ByteArray} {pc x : Nat} (h : bys c pc [22, x]) : decode c pc = .ok (.lload x, 2) := dec_of (bd_u1 h.1 (bd_u1 h.2.1 rfl)) (by omega)
theorem ek_aload {c : ByteArray} {pc x : Nat} (h : bys c pc [25, x]) : decode c pc = .ok (.aload x, 2) := dec_of (bd_u1 h.1 (bd_u1 h.2.1 rfl)) (by omega)
theorem ek_istore {c : ByteArray} {pc x : Nat} (h : bys c pc [54, x]) : decode c pc = .ok (.istore x, 2) := dec_of (bd_u1 h.1 (bd_u1 h.2.1 rfl)) (by omega)
theorem ek_lstore {c : ByteArray} {pc x : Nat} (h : bys c pc [55, x]) : decode c pc = .ok (.lstore x, 2) := dec_of (bd_u1 h.1 (bd_u1 h.2.1 rfl)) (by omega)
theorem ek_astore {c : ByteArray} {pc x : Nat} (h : bys c pc [58, x]) : decode c pc = .ok (.astore x, 2) := dec_of (bd_u1 h.1 (bd_u1 h.2.1 rfl)) (by omega)
theorem ek_ldc_w {c : ByteArray} {pc x : Nat} (h : bys c pc [19, x / 256, x % 256]) : decode c pc = .ok (.ldc_w x, 3) := by
  have e : x / 256 * 256 + x % 256 = x := by omega
  exact dec_of (bd_u1 h.1 (bd_u2 h.2.1 h.2.2.1 (by rw [e]; rfl))) (by omega)
theorem ek_ldc2_w {c : ByteArray} {pc x : Nat} (h : bys c pc [20, x / 256, x % 256]) : decode c pc = .ok (.ldc2_w x, 3) := by
  have e : x / 256 * 256 + x % 256 = x := by omega
  exact dec_of (bd_u1 h.1 (bd_u2 h.2.1 h.2.2.1 (by rw [e]; rfl))) (by omega)
theorem ek_getstatic {c : ByteArray} {pc x : Nat} (h : bys c pc [178, x / 256, x % 256]) : decode c pc = .ok (.getstatic x, 3) := by
  have e : x / 256 * 256 + x % 256 = x := by omega
  exact dec_of (bd_u1 h.1 (bd_u2 h.2.1 h.2.2.1 (by rw [e]; rfl))) (by omega)
theorem ek_getfield {c : ByteArray} {pc x : Nat} (h : bys c pc [180, x / 256, x % 256]) : decode c pc = .ok (.getfield x, 3) := by
  have e : x / 256 * 256 + x % 256 = x := by omega
  exact dec_of (bd_u1 h.1 (bd_u2 h.2.1 h.2.2.1 (by rw [e]; rfl))) (by omega)
theorem ek_putfield {c : ByteArray} {pc x : Nat} (h : bys c pc [181, x / 256, x % 256]) : decode c pc = .ok (.putfield x, 3) := by
  have e : x / 256 * 256 + x % 256 = x := by omega
  exact dec_of (bd_u1 h.1 (bd_u2 h.2.1 h.2.2.1 (by rw [e]; rfl))) (by omega)
theorem ek_invokevirtual {c : ByteArray} {pc x : Nat} (h : bys c pc [182, x / 256, x % 256]) : decode c pc = .ok (.invokevirtual x, 3) := by
  have e : x / 256 * 256 + x % 256 = x := by omega
  exact dec_of (bd_u1 h.1 (bd_u2 h.2.1 h.2.2.1 (by rw [e]; rfl))) (by omega)
theorem ek_invokespecial {c : ByteArray} {pc x : Nat} (h : bys c pc [183, x / 256, x % 256]) : decode c pc = .ok (.invokespecial x, 3) := by
  have e : x / 256 * 256 + x % 256 = x := by omega
  exact dec_of (bd_u1 h.1 (bd_u2 h.2.1 h.2.2.1 (by rw [e]; rfl))) (by omega)
theorem ek_invokestatic {c : ByteArray} {pc x : Nat} (h : bys c pc [184, x / 256, x % 256]) : decode c pc = .ok (.invokestatic x, 3) := by
  have e : x / 256 * 256 + x % 256 = x := by omega
  exact dec_of (bd_u1 h.1 (bd_u2 h.2.1 h.2.2.1 (by rw [e]; rfl))) (by omega)
theorem ek_new {c : ByteArray} {pc x : Nat} (h : bys c pc [187, x / 256, x % 256]) : decode c pc = .ok (.new x, 3) := by
  have e : x / 256 * 256 + x % 256 = x := by omega
  exact dec_of (bd_u1 h.1 (bd_u2 h.2.1 h.2.2.1 (by rw [e]; rfl))) (by omega)
theorem ek_anewarray {c : ByteArray} {pc x : Nat} (h : bys c pc [189, x / 256, x % 256]) : decode c pc = .ok (.anewarray x, 3) := by
  have e : x / 256 * 256 + x % 256 = x := by omega
  exact dec_of (bd_u1 h.1 (bd_u2 h.2.1 h.2.2.1 (by rw [e]; rfl))) (by omega)
theorem ek_goto {c : ByteArray} {pc : Nat} {z : Int} {L : List Nat} (hL : s2b 167 z = some L) (h : bys c pc L) : decode c pc = .ok (.goto z, 3) := by
  unfold s2b at hL
  split at hL
  · rename_i hz
    cases hL
    exact dec_of (bd_u1 h.1 (bd_s2 h.2.1 h.2.2.1 (sg16 hz.1 hz.2) rfl)) (by omega)
  · cases hL
theorem ek_ifnull {c : ByteArray} {pc : Nat} {z : Int} {L : List Nat} (hL : s2b 198 z = some L) (h : bys c pc L) : decode c pc = .ok (.ifnull z, 3) := by
  unfold s2b at hL
  split at hL
  · rename_i hz
    cases hL
    exact dec_of (bd_u1 h.1 (bd_s2 h.2.1 h.2.2.1 (sg16 hz.1 hz.2) rfl)) (by omega)
  · cases hL
theorem ek_ifnonnull {c : ByteArray} {pc : Nat} {z : Int} {L : List Nat} (hL : s2b 199 z = some L) (h : bys c pc L) : decode c pc = .ok (.ifnonnull z, 3) := by
  unfold s2b at hL
  split at hL
  · rename_i hz
    cases hL
    exact dec_of (bd_u1 h.1 (bd_s2 h.2.1 h.2.2.1 (sg16 hz.1 hz.2) rfl)) (by omega)
  · cases hL
theorem ek_if_icmp_eq {c : ByteArray} {pc : Nat} {z : Int} {L : List Nat} (hL : s2b 159 z = some L) (h : bys c pc L) : decode c pc = .ok (.if_icmp .eq z, 3) := by
  unfold s2b at hL
  split at hL
  · rename_i hz
    cases hL
    exact dec_of (bd_u1 h.1 (bd_s2 h.2.1 h.2.2.1 (sg16 hz.1 hz.2) rfl)) (by omega)
  · cases hL
theorem ek_if_icmp_ne {c : ByteArray} {pc : Nat} {z : Int} {L : List Nat} (hL : s2b 160 z = some L) (h : bys c pc L) : decode c pc = .ok (.if_icmp .ne z, 3) := by
  unfold s2b at hL
  split at hL
  · rename_i hz
    cases hL
    exact dec_of (bd_u1 h.1 (bd_s2 h.2.1 h.2.2.1 (sg16 hz.1 hz.2) rfl)) (by omega)
  · cases hL
theorem ek_if_icmp_lt {c : ByteArray} {pc : Nat} {z : Int} {L : List Nat} (hL : s2b 161 z = some L) (h : bys c pc L) : decode c pc = .ok (.if_icmp .lt z, 3) := by
  unfold s2b at hL
  split at hL
  · rename_i hz
    cases hL
    exact dec_of (bd_u1 h.1 (bd_s2 h.2.1 h.2.2.1 (sg16 hz.1 hz.2) rfl)) (by omega)
  · cases hL
theorem ek_if_icmp_ge {c : ByteArray} {pc : Nat} {z : Int} {L : List Nat} (hL : s2b 162 z = some L) (h : bys c pc L) : decode c pc = .ok (.if_icmp .ge z, 3) := by
  unfold s2b at hL
  split at hL
  · rename_i hz
    cases hL
    exact dec_of (bd_u1 h.1 (bd_s2 h.2.1 h.2.2.1 (sg16 hz.1 hz.2) rfl)) (by omega)
  · cases hL
theorem ek_if_icmp_gt {c : ByteArray} {pc : Nat} {z : Int} {L : List Nat} (hL : s2b 163 z = some L) (h : bys c pc L) : decode c pc = .ok (.if_icmp .gt z, 3) := by
  unfold s2b at hL
  split at hL
  · rename_i hz
    cases hL
    exact dec_of (bd_u1 h.1 (bd_s2 h.2.1 h.2.2.1 (sg16 hz.1 hz.2) rfl)) (by omega)
  · cases hL
theorem ek_if_icmp_le {c : ByteArray} {pc : Nat} {z : Int} {L : List Nat} (hL : s2b 164 z = some L) (h : bys c pc L) : decode c pc = .ok (.if_icmp .le z, 3) := by
  unfold s2b at hL
  split at hL
  · rename_i hz
    cases hL
    exact dec_of (bd_u1 h.1 (bd_s2 h.2.1 h.2.2.1 (sg16 hz.1 hz.2) rfl)) (by omega)
  · cases hL
theorem ek_ifCond_eq {c : ByteArray} {pc : Nat} {z : Int} {L : List Nat} (hL : s2b 153 z = some L) (h : bys c pc L) : decode c pc = .ok (.ifCond .eq z, 3) := by
  unfold s2b at hL
  split at hL
  · rename_i hz
    cases hL
    exact dec_of (bd_u1 h.1 (bd_s2 h.2.1 h.2.2.1 (sg16 hz.1 hz.2) rfl)) (by omega)
  · cases hL
theorem ek_ifCond_ne {c : ByteArray} {pc : Nat} {z : Int} {L : List Nat} (hL : s2b 154 z = some L) (h : bys c pc L) : decode c pc = .ok (.ifCond .ne z, 3) := by
  unfold s2b at hL
  split at hL
  · rename_i hz
    cases hL
    exact dec_of (bd_u1 h.1 (bd_s2 h.2.1 h.2.2.1 (sg16 hz.1 hz.2) rfl)) (by omega)
  · cases hL
theorem ek_ifCond_lt {c : ByteArray} {pc : Nat} {z : Int} {L : List Nat} (hL : s2b 155 z = some L) (h : bys c pc L) : decode c pc = .ok (.ifCond .lt z, 3) := by
  unfold s2b at hL
  split at hL
  · rename_i hz
    cases hL
    exact dec_of (bd_u1 h.1 (bd_s2 h.2.1 h.2.2.1 (sg16 hz.1 hz.2) rfl)) (by omega)
  · cases hL
theorem ek_ifCond_ge {c : ByteArray} {pc : Nat} {z : Int} {L : List Nat} (hL : s2b 156 z = some L) (h : bys c pc L) : decode c pc = .ok (.ifCond .ge z, 3) := by
  unfold s2b at hL
  split at hL
  · rename_i hz
    cases hL
    exact dec_of (bd_u1 h.1 (bd_s2 h.2.1 h.2.2.1 (sg16 hz.1 hz.2) rfl)) (by omega)
  · cases hL
theorem ek_ifCond_gt {c : ByteArray} {pc : Nat} {z : Int} {L : List Nat} (hL : s2b 157 z = some L) (h : bys c pc L) : decode c pc = .ok (.ifCond .gt z, 3) := by
  unfold s2b at hL
  split at hL
  · rename_i hz
    cases hL
    exact dec_of (bd_u1 h.1 (bd_s2 h.2.1 h.2.2.1 (sg16 hz.1 hz.2) rfl)) (by omega)
  · cases hL
theorem ek_ifCond_le {c : ByteArray} {pc : Nat} {z : Int} {L : List Nat} (hL : s2b 158 z = some L) (h : bys c pc L) : decode c pc = .ok (.ifCond .le z, 3) := by
  unfold s2b at hL
  split at hL
  · rename_i hz
    cases hL
    exact dec_of (bd_u1 h.1 (bd_s2 h.2.1 h.2.2.1 (sg16 hz.1 hz.2) rfl)) (by omega)
  · cases hL
theorem ek_sipush {c : ByteArray} {pc : Nat} {z : Int} {L : List Nat} (hL : s2b 17 z = some L) (h : bys c pc L) : decode c pc = .ok (.sipush z, 3) := by
  unfold s2b at hL
  split at hL
  · rename_i hz
    cases hL
    exact dec_of (bd_u1 h.1 (bd_s2 h.2.1 h.2.2.1 (sg16 hz.1 hz.2) rfl)) (by omega)
  · cases hL
theorem ek_bipush {c : ByteArray} {pc : Nat} {z : Int} (h1 : -128 ≤ z) (h2 : z < 128) (h : bys c pc [16, (z % 256).toNat]) : decode c pc = .ok (.bipush z, 2) := dec_of (bd_u1 h.1 (bd_s1 h.2.1 (sg8 h1 h2) rfl)) (by omega)
theorem ek_iinc {c : ByteArray} {pc x : Nat} {z : Int} (h1 : -128 ≤ z) (h2 : z < 128) (h : bys c pc [132, x, (z % 256).toNat]) : decode c pc = .ok (.iinc x z, 3) := dec_of (bd_u1 h.1 (bd_u1 h.2.1 (bd_s1 h.2.2.1 (sg8 h1 h2) rfl))) (by omega)
theorem ek_newarray_boolean {c : ByteArray} {pc : Nat} (h : bys c pc [188, 4]) : decode c pc = .ok (.newarray .boolean, 2) := dec_of (bd_u1 h.1 (bd_u1 h.2.1 rfl)) (by omega)
theorem ek_newarray_byte {c : ByteArray} {pc : Nat} (h : bys c pc [188, 8]) : decode c pc = .ok (.newarray .byte, 2) := dec_of (bd_u1 h.1 (bd_u1 h.2.1 rfl)) (by omega)
theorem ek_newarray_int {c : ByteArray} {pc : Nat} (h : bys c pc [188, 10]) : decode c pc = .ok (.newarray .int, 2) := dec_of (bd_u1 h.1 (bd_u1 h.2.1 rfl)) (by omega)
theorem ek_newarray_long {c : ByteArray} {pc : Nat} (h : bys c pc [188, 11]) : decode c pc = .ok (.newarray .long, 2) := dec_of (bd_u1 h.1 (bd_u1 h.2.1 rfl)) (by omega)
theorem s2b_len {op : Nat} {z : Int} {L : List Nat} (h : s2b op z = some L) : L.length = 3 := by
  unfold s2b at h
  split at h
  · cases h; rfl
  · cases h
def enc (i : Instr) : Option (List Nat) := match i with
  | .aconst_null => some [1]
  | .iaload => some [46]
  | .laload => some [47]
  | .aaload => some [50]
  | .baload => some [51]
  | .iastore => some [79]
  | .lastore => some [80]
  | .aastore => some [83]
  | .bastore => some [84]
  | .pop => some [87]
  | .dup => some [89]
  | .dup2 => some [92]
  | .iadd => some [96]
  | .ladd => some [97]
  | .isub => some [100]
  | .lsub => some [101]
  | .imul => some [104]
  | .lmul => some [105]
  | .idiv => some [108]
  | .ldiv => some [109]
  | .irem => some [112]
  | .lrem => some [113]
  | .ineg => some [116]
  | .ishl => some [120]
  | .lshl => some [121]
  | .ishr => some [122]
  | .lshr => some [123]
  | .iushr => some [124]
  | .iand => some [126]
  | .land => some [127]
  | .ior => some [128]
  | .lor => some [129]
  | .ixor => some [130]
  | .i2l => some [133]
  | .l2i => some [136]
  | .i2b => some [145]
  | .i2c => some [146]
  | .i2s => some [147]
  | .lcmp => some [148]
  | .ireturn => some [172]
  | .lreturn => some [173]
  | .areturn => some [176]
  | .return_ => some [177]
  | .arraylength => some [190]
  | .athrow => some [191]
  | .iload_n x => some [26 + x.val]
  | .lload_n x => some [30 + x.val]
  | .aload_n x => some [42 + x.val]
  | .istore_n x => some [59 + x.val]
  | .lstore_n x => some [63 + x.val]
  | .astore_n x => some [75 + x.val]
  | .lconst x => some [9 + x.val]
  | .iconst (-1) => some [2]
  | .iconst 0 => some [3]
  | .iconst 1 => some [4]
  | .iconst 2 => some [5]
  | .iconst 3 => some [6]
  | .iconst 4 => some [7]
  | .iconst 5 => some [8]
  | .ldc x => some [18, x]
  | .iload x => some [21, x]
  | .lload x => some [22, x]
  | .aload x => some [25, x]
  | .istore x => some [54, x]
  | .lstore x => some [55, x]
  | .astore x => some [58, x]
  | .ldc_w x => some [19, x / 256, x % 256]
  | .ldc2_w x => some [20, x / 256, x % 256]
  | .getstatic x => some [178, x / 256, x % 256]
  | .getfield x => some [180, x / 256, x % 256]
  | .putfield x => some [181, x / 256, x % 256]
  | .invokevirtual x => some [182, x / 256, x % 256]
  | .invokespecial x => some [183, x / 256, x % 256]
  | .invokestatic x => some [184, x / 256, x % 256]
  | .new x => some [187, x / 256, x % 256]
  | .anewarray x => some [189, x / 256, x % 256]
  | .goto z => s2b 167 z
  | .ifnull z => s2b 198 z
  | .ifnonnull z => s2b 199 z
  | .if_icmp .eq z => s2b 159 z
  | .if_icmp .ne z => s2b 160 z
  | .if_icmp .lt z => s2b 161 z
  | .if_icmp .ge z => s2b 162 z
  | .if_icmp .gt z => s2b 163 z
  | .if_icmp .le z => s2b 164 z
  | .ifCond .eq z => s2b 153 z
  | .ifCond .ne z => s2b 154 z
  | .ifCond .lt z => s2b 155 z
  | .ifCond .ge z => s2b 156 z
  | .ifCond .gt z => s2b 157 z
  | .ifCond .le z => s2b 158 z
  | .sipush z => s2b 17 z
  | .bipush z => if -128 ≤ z ∧ z < 128 then some [16, (z % 256).toNat] else none
  | .iinc x z => if -128 ≤ z ∧ z < 128 then some [132, x, (z % 256).toNat] else none
  | .newarray .boolean => some [188, 4]
  | .newarray .byte => some [188, 8]
  | .newarray .int => some [188, 10]
  | .newarray .long => some [188, 11]
  | _ => none
set_option maxHeartbeats 4000000 in
theorem enc_ok {c : ByteArray} {pc : Nat} {i : Instr} {L : List Nat} (hL : enc i = some L) (h : bys c pc L) : decode c pc = .ok (i, L.length) := by
  unfold enc at hL
  split at hL
  · cases hL; exact ek_aconst_null h
  · cases hL; exact ek_iaload h
  · cases hL; exact ek_laload h
  · cases hL; exact ek_aaload h
  · cases hL; exact ek_baload h
  · cases hL; exact ek_iastore h
  · cases hL; exact ek_lastore h
  · cases hL; exact ek_aastore h
  · cases hL; exact ek_bastore h
  · cases hL; exact ek_pop h
  · cases hL; exact ek_dup h
  · cases hL; exact ek_dup2 h
  · cases hL; exact ek_iadd h
  · cases hL; exact ek_ladd h
  · cases hL; exact ek_isub h
  · cases hL; exact ek_lsub h
  · cases hL; exact ek_imul h
  · cases hL; exact ek_lmul h
  · cases hL; exact ek_idiv h
  · cases hL; exact ek_ldiv h
  · cases hL; exact ek_irem h
  · cases hL; exact ek_lrem h
  · cases hL; exact ek_ineg h
  · cases hL; exact ek_ishl h
  · cases hL; exact ek_lshl h
  · cases hL; exact ek_ishr h
  · cases hL; exact ek_lshr h
  · cases hL; exact ek_iushr h
  · cases hL; exact ek_iand h
  · cases hL; exact ek_land h
  · cases hL; exact ek_ior h
  · cases hL; exact ek_lor h
  · cases hL; exact ek_ixor h
  · cases hL; exact ek_i2l h
  · cases hL; exact ek_l2i h
  · cases hL; exact ek_i2b h
  · cases hL; exact ek_i2c h
  · cases hL; exact ek_i2s h
  · cases hL; exact ek_lcmp h
  · cases hL; exact ek_ireturn h
  · cases hL; exact ek_lreturn h
  · cases hL; exact ek_areturn h
  · cases hL; exact ek_return_ h
  · cases hL; exact ek_arraylength h
  · cases hL; exact ek_athrow h
  · cases hL; rename_i x; obtain ⟨x, hx⟩ := x; rcases (show x = 0 ∨ x = 1 ∨ x = 2 ∨ x = 3 by omega) with rfl | rfl | rfl | rfl; exact ek_iload_n0 h; exact ek_iload_n1 h; exact ek_iload_n2 h; exact ek_iload_n3 h
  · cases hL; rename_i x; obtain ⟨x, hx⟩ := x; rcases (show x = 0 ∨ x = 1 ∨ x = 2 ∨ x = 3 by omega) with rfl | rfl | rfl | rfl; exact ek_lload_n0 h; exact ek_lload_n1 h; exact ek_lload_n2 h; exact ek_lload_n3 h
  · cases hL; rename_i x; obtain ⟨x, hx⟩ := x; rcases (show x = 0 ∨ x = 1 ∨ x = 2 ∨ x = 3 by omega) with rfl | rfl | rfl | rfl; exact ek_aload_n0 h; exact ek_aload_n1 h; exact ek_aload_n2 h; exact ek_aload_n3 h
  · cases hL; rename_i x; obtain ⟨x, hx⟩ := x; rcases (show x = 0 ∨ x = 1 ∨ x = 2 ∨ x = 3 by omega) with rfl | rfl | rfl | rfl; exact ek_istore_n0 h; exact ek_istore_n1 h; exact ek_istore_n2 h; exact ek_istore_n3 h
  · cases hL; rename_i x; obtain ⟨x, hx⟩ := x; rcases (show x = 0 ∨ x = 1 ∨ x = 2 ∨ x = 3 by omega) with rfl | rfl | rfl | rfl; exact ek_lstore_n0 h; exact ek_lstore_n1 h; exact ek_lstore_n2 h; exact ek_lstore_n3 h
  · cases hL; rename_i x; obtain ⟨x, hx⟩ := x; rcases (show x = 0 ∨ x = 1 ∨ x = 2 ∨ x = 3 by omega) with rfl | rfl | rfl | rfl; exact ek_astore_n0 h; exact ek_astore_n1 h; exact ek_astore_n2 h; exact ek_astore_n3 h
  · cases hL; rename_i x; obtain ⟨x, hx⟩ := x; rcases (show x = 0 ∨ x = 1 by omega) with rfl | rfl; exact ek_lconst0 h; exact ek_lconst1 h
  · cases hL; exact ek_iconstm1 h
  · cases hL; exact ek_iconst0 h
  · cases hL; exact ek_iconst1 h
  · cases hL; exact ek_iconst2 h
  · cases hL; exact ek_iconst3 h
  · cases hL; exact ek_iconst4 h
  · cases hL; exact ek_iconst5 h
  · cases hL; exact ek_ldc h
  · cases hL; exact ek_iload h
  · cases hL; exact ek_lload h
  · cases hL; exact ek_aload h
  · cases hL; exact ek_istore h
  · cases hL; exact ek_lstore h
  · cases hL; exact ek_astore h
  · cases hL; exact ek_ldc_w h
  · cases hL; exact ek_ldc2_w h
  · cases hL; exact ek_getstatic h
  · cases hL; exact ek_getfield h
  · cases hL; exact ek_putfield h
  · cases hL; exact ek_invokevirtual h
  · cases hL; exact ek_invokespecial h
  · cases hL; exact ek_invokestatic h
  · cases hL; exact ek_new h
  · cases hL; exact ek_anewarray h
  · have hl := s2b_len hL; rw [hl]; exact ek_goto hL h
  · have hl := s2b_len hL; rw [hl]; exact ek_ifnull hL h
  · have hl := s2b_len hL; rw [hl]; exact ek_ifnonnull hL h
  · have hl := s2b_len hL; rw [hl]; exact ek_if_icmp_eq hL h
  · have hl := s2b_len hL; rw [hl]; exact ek_if_icmp_ne hL h
  · have hl := s2b_len hL; rw [hl]; exact ek_if_icmp_lt hL h
  · have hl := s2b_len hL; rw [hl]; exact ek_if_icmp_ge hL h
  · have hl := s2b_len hL; rw [hl]; exact ek_if_icmp_gt hL h
  · have hl := s2b_len hL; rw [hl]; exact ek_if_icmp_le hL h
  · have hl := s2b_len hL; rw [hl]; exact ek_ifCond_eq hL h
  · have hl := s2b_len hL; rw [hl]; exact ek_ifCond_ne hL h
  · have hl := s2b_len hL; rw [hl]; exact ek_ifCond_lt hL h
  · have hl := s2b_len hL; rw [hl]; exact ek_ifCond_ge hL h
  · have hl := s2b_len hL; rw [hl]; exact ek_ifCond_gt hL h
  · have hl := s2b_len hL; rw [hl]; exact ek_ifCond_le hL h
  · have hl := s2b_len hL; rw [hl]; exact ek_sipush hL h
  · split at hL; rename_i hz; cases hL; exact ek_bipush hz.1 hz.2 h; cases hL
  · split at hL; rename_i hz; cases hL; exact ek_iinc hz.1 hz.2 h; cases hL
  · cases hL; exact ek_newarray_boolean h
  · cases hL; exact ek_newarray_byte h
  · cases hL; exact ek_newarray_int h
  · cases hL; exact ek_newarray_long h
  · cases hL
def stw : List UInt8 → List Nat → Bool
  | _, [] => true
  | a :: x, b :: y => Nat.beq a.toNat b && stw x y
  | [], _ :: _ => false
def chk : List UInt8 → List (Instr × Nat) → Bool
  | _, [] => true
  | bs, e :: r => (match enc e.1 with | some L => Nat.beq L.length e.2 && stw bs L | none => false) && chk (bs.drop e.2) r
/-- the k-th of instructions that follow each other from pc on -/
def nth : List (Instr × Nat) → Nat → Nat → Option (Nat × Instr × Nat)
  | [], _, _ => none
  | e :: _, 0, pc => some (pc, e.1, e.2)
  | e :: r, k + 1, pc => nth r k (pc + e.2)
theorem stw_ok {c : ByteArray} : ∀ {L : List Nat} {p : Nat}, stw (c.data.toList.drop p) L = true → bys c p L
  | [], _, _ => trivial
  | b :: L, p, h => by
    cases hd : c.data.toList.drop p with
    | nil => rw [hd] at h; cases h
    | cons a x =>
      rw [hd] at h
      simp only [stw, Bool.and_eq_true] at h
      have hlt : p < c.data.toList.length := by
        rcases Nat.lt_or_ge p c.data.toList.length with q | q
        · exact q
        · rw [List.drop_eq_nil_of_le q] at hd; cases hd
      have h3 := List.drop_eq_getElem_cons hlt
      rw [hd] at h3
      injection h3 with h4 h5
      refine ⟨⟨by simpa using hlt, ?_⟩, stw_ok (L := L) (p := p + 1) (by rw [← h5]; exact h.2)⟩
      have h6 := Nat.eq_of_beq_eq_true h.1
      rw [← h6, h4]
      rfl
theorem chk_nth {c : ByteArray} : ∀ {L : List (Instr × Nat)} {p k pc n : Nat} {i : Instr}, chk (c.data.toList.drop p) L = true → nth L k p = some (pc, i, n) → decode c pc = .ok (i, n)
  | [], _, _, _, _, _, _, h => by cases h
  | e :: r, p, 0, pc, n, i, hc, h => by
    simp only [nth, Option.some.injEq, Prod.mk.injEq] at h
    obtain ⟨rfl, rfl, rfl⟩ := h
    simp only [chk, Bool.and_eq_true] at hc
    have h1 := hc.1
    split at h1
    · rename_i L hL
      simp only [Bool.and_eq_true] at h1
      rw [← Nat.eq_of_beq_eq_true h1.1]
      exact enc_ok hL (stw_ok h1.2)
    · cases h1
  | e :: r, p, k + 1, pc, n, i, hc, h => by
    simp only [chk, Bool.and_eq_true, List.drop_drop] at hc
    exact chk_nth (p := p + e.2) hc.2 h
