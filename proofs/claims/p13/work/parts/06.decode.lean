/-! bytes of a code, read by windows -/
def zby (c : ByteArray) (p : Nat) (b : UInt8) : Prop := ∃ h : p < c.size, c[p] = b
theorem zby_w {c : ByteArray} {n : Nat} {ch : List UInt8} (h : (c.data.toList.drop n).take 36 = ch) (r : Nat) {b : UInt8} (hr : ch[r]? = some b) : zby c (n + r) b := by
  rw [← h] at hr
  have h36 : r < 36 := by
    have := (List.getElem?_eq_some_iff.mp hr).1
    rw [List.length_take] at this
    omega
  rw [List.getElem?_take_of_lt h36, List.getElem?_drop] at hr
  rcases c with ⟨⟨l⟩⟩
  obtain ⟨h1, h2⟩ := List.getElem?_eq_some_iff.mp hr
  exact ⟨h1, h2⟩
theorem zby_u {c : ByteArray} {p : Nat} {b : UInt8} (h : zby c p b) : (Jvm.ClassFile.Reader.u1 : Jvm.ClassFile.Decoder Nat) c p = .ok (b.toNat, p + 1) := by
  obtain ⟨h1, h2⟩ := h
  show (dite (p < c.size) (fun h => (set (p + 1) >>= fun _ => pure c[p].toNat : Jvm.ClassFile.Decoder Nat)) (fun _ => throw (Jvm.ClassFile.DecodeError.truncated p))) c p = _
  rw [dif_pos h1, h2]
  rfl
theorem zbnd {α β : Type} {r : Jvm.ClassFile.Decoder α} {f : α → Jvm.ClassFile.Decoder β} {c : ByteArray} {p q : Nat} {a : α} (h : r c p = .ok (a, q)) : (r >>= f) c p = f a c q := by
  have e : (r >>= f) c p = Except.bind (r c p) (fun x => f x.1 c x.2) := rfl
  rw [e, h]
  rfl
theorem zdec {c : ByteArray} {p n : Nat} {i : Jvm.ClassFile.Instr} (h : Jvm.ClassFile.Decoder.instr p c p = .ok (i, p + n)) : decode c p = .ok (i, n) := by
  have e : decode c p = Except.bind (Jvm.ClassFile.Decoder.instr p c p) (fun x => .ok (x.1, x.2 - p)) := rfl
  rw [e, h]
  show Except.ok (i, p + n - p) = _
  rw [Nat.add_sub_cancel_left]
theorem zmap {α β : Type} {r : Jvm.ClassFile.Decoder α} {f : α → β} {c : ByteArray} {p q : Nat} {a : α} (h : r c p = .ok (a, q)) : (f <$> r : Jvm.ClassFile.Decoder β) c p = .ok (f a, q) := by
  have e : (f <$> r : Jvm.ClassFile.Decoder β) c p = Except.bind (r c p) (fun x => .ok (f x.1, x.2)) := rfl
  rw [e, h]
  rfl
theorem zby_s1 {c : ByteArray} {p : Nat} {a : UInt8} (h : zby c p a) : (Jvm.ClassFile.Reader.s1 : Jvm.ClassFile.Decoder Int) c p = .ok (Jvm.ClassFile.Reader.signed 8 a.toNat, p + 1) := zmap (zby_u h)
theorem zby_u2 {c : ByteArray} {p : Nat} {a b : UInt8} (h : zby c p a) (h2 : zby c (p + 1) b) : (Jvm.ClassFile.Reader.u2 : Jvm.ClassFile.Decoder Nat) c p = .ok (a.toNat * 256 + b.toNat, p + 1 + 1) := by
  unfold Jvm.ClassFile.Reader.u2
  rw [zbnd (zby_u h), zbnd (zby_u h2)]
  rfl
theorem zby_s2 {c : ByteArray} {p : Nat} {a b : UInt8} (h : zby c p a) (h2 : zby c (p + 1) b) : (Jvm.ClassFile.Reader.s2 : Jvm.ClassFile.Decoder Int) c p = .ok (Jvm.ClassFile.Reader.signed 16 (a.toNat * 256 + b.toNat), p + 1 + 1) := zmap (zby_u2 h h2)
set_option maxRecDepth 100000 in
theorem zo_2 {c : ByteArray} {p : Nat} (h : zby c p 2) : decode c p = .ok (.iconst (-1), 1) := by
  refine zdec ?_
  unfold Jvm.ClassFile.Decoder.instr
  rw [zbnd (zby_u h)]
  rfl
set_option maxRecDepth 100000 in
theorem zo_3 {c : ByteArray} {p : Nat} (h : zby c p 3) : decode c p = .ok (.iconst 0, 1) := by
  refine zdec ?_
  unfold Jvm.ClassFile.Decoder.instr
  rw [zbnd (zby_u h)]
  rfl
set_option maxRecDepth 100000 in
theorem zo_4 {c : ByteArray} {p : Nat} (h : zby c p 4) : decode c p = .ok (.iconst 1, 1) := by
  refine zdec ?_
  unfold Jvm.ClassFile.Decoder.instr
  rw [zbnd (zby_u h)]
  rfl
set_option maxRecDepth 100000 in
theorem zo_5 {c : ByteArray} {p : Nat} (h : zby c p 5) : decode c p = .ok (.iconst 2, 1) := by
  refine zdec ?_
  unfold Jvm.ClassFile.Decoder.instr
  rw [zbnd (zby_u h)]
  rfl
set_option maxRecDepth 100000 in
theorem zo_6 {c : ByteArray} {p : Nat} (h : zby c p 6) : decode c p = .ok (.iconst 3, 1) := by
  refine zdec ?_
  unfold Jvm.ClassFile.Decoder.instr
  rw [zbnd (zby_u h)]
  rfl
set_option maxRecDepth 100000 in
theorem zo_7 {c : ByteArray} {p : Nat} (h : zby c p 7) : decode c p = .ok (.iconst 4, 1) := by
  refine zdec ?_
  unfold Jvm.ClassFile.Decoder.instr
  rw [zbnd (zby_u h)]
  rfl
set_option maxRecDepth 100000 in
theorem zo_8 {c : ByteArray} {p : Nat} (h : zby c p 8) : decode c p = .ok (.iconst 5, 1) := by
  refine zdec ?_
  unfold Jvm.ClassFile.Decoder.instr
  rw [zbnd (zby_u h)]
  rfl
set_option maxRecDepth 100000 in
theorem zo_9 {c : ByteArray} {p : Nat} (h : zby c p 9) : decode c p = .ok (.lconst 0, 1) := by
  refine zdec ?_
  unfold Jvm.ClassFile.Decoder.instr
  rw [zbnd (zby_u h)]
  rfl
set_option maxRecDepth 100000 in
theorem zo_10 {c : ByteArray} {p : Nat} (h : zby c p 10) : decode c p = .ok (.lconst 1, 1) := by
  refine zdec ?_
  unfold Jvm.ClassFile.Decoder.instr
  rw [zbnd (zby_u h)]
  rfl
set_option maxRecDepth 100000 in
theorem zo_16 {c : ByteArray} {p : Nat} (h : zby c p 16) {a : UInt8} (h1 : zby c (p + 1) a) {k : Int} (hk : Jvm.ClassFile.Reader.signed 8 a.toNat = k) : decode c p = .ok (Jvm.ClassFile.Instr.bipush k, 2) := by
  refine zdec ?_
  unfold Jvm.ClassFile.Decoder.instr
  rw [zbnd (zby_u h), ← hk]
  show ((Jvm.ClassFile.Reader.s1 : Jvm.ClassFile.Decoder Int) >>= fun x => pure (Jvm.ClassFile.Instr.bipush x)) c (p + 1) = _
  rw [zbnd (zby_s1 h1)]
  rfl
set_option maxRecDepth 100000 in
theorem zo_17 {c : ByteArray} {p : Nat} (h : zby c p 17) {a b : UInt8} (h1 : zby c (p + 1) a) (h2 : zby c (p + 1 + 1) b) {k : Int} (hk : Jvm.ClassFile.Reader.signed 16 (a.toNat * 256 + b.toNat) = k) : decode c p = .ok (Jvm.ClassFile.Instr.sipush k, 3) := by
  refine zdec ?_
  unfold Jvm.ClassFile.Decoder.instr
  rw [zbnd (zby_u h), ← hk]
  show ((Jvm.ClassFile.Reader.s2 : Jvm.ClassFile.Decoder Int) >>= fun x => pure (Jvm.ClassFile.Instr.sipush x)) c (p + 1) = _
  rw [zbnd (zby_s2 h1 h2)]
  rfl
set_option maxRecDepth 100000 in
theorem zo_18 {c : ByteArray} {p : Nat} (h : zby c p 18) {a : UInt8} (h1 : zby c (p + 1) a) {k : Nat} (hk : a.toNat = k) : decode c p = .ok (Jvm.ClassFile.Instr.ldc k, 2) := by
  refine zdec ?_
  unfold Jvm.ClassFile.Decoder.instr
  rw [zbnd (zby_u h), ← hk]
  show ((Jvm.ClassFile.Reader.u1 : Jvm.ClassFile.Decoder Nat) >>= fun x => pure (Jvm.ClassFile.Instr.ldc x)) c (p + 1) = _
  rw [zbnd (zby_u h1)]
  rfl
set_option maxRecDepth 100000 in
theorem zo_19 {c : ByteArray} {p : Nat} (h : zby c p 19) {a b : UInt8} (h1 : zby c (p + 1) a) (h2 : zby c (p + 1 + 1) b) {k : Nat} (hk : a.toNat * 256 + b.toNat = k) : decode c p = .ok (Jvm.ClassFile.Instr.ldc_w k, 3) := by
  refine zdec ?_
  unfold Jvm.ClassFile.Decoder.instr
  rw [zbnd (zby_u h), ← hk]
  show ((Jvm.ClassFile.Reader.u2 : Jvm.ClassFile.Decoder Nat) >>= fun x => pure (Jvm.ClassFile.Instr.ldc_w x)) c (p + 1) = _
  rw [zbnd (zby_u2 h1 h2)]
  rfl
set_option maxRecDepth 100000 in
theorem zo_20 {c : ByteArray} {p : Nat} (h : zby c p 20) {a b : UInt8} (h1 : zby c (p + 1) a) (h2 : zby c (p + 1 + 1) b) {k : Nat} (hk : a.toNat * 256 + b.toNat = k) : decode c p = .ok (Jvm.ClassFile.Instr.ldc2_w k, 3) := by
  refine zdec ?_
  unfold Jvm.ClassFile.Decoder.instr
  rw [zbnd (zby_u h), ← hk]
  show ((Jvm.ClassFile.Reader.u2 : Jvm.ClassFile.Decoder Nat) >>= fun x => pure (Jvm.ClassFile.Instr.ldc2_w x)) c (p + 1) = _
  rw [zbnd (zby_u2 h1 h2)]
  rfl
set_option maxRecDepth 100000 in
theorem zo_21 {c : ByteArray} {p : Nat} (h : zby c p 21) {a : UInt8} (h1 : zby c (p + 1) a) {k : Nat} (hk : a.toNat = k) : decode c p = .ok (Jvm.ClassFile.Instr.iload k, 2) := by
  refine zdec ?_
  unfold Jvm.ClassFile.Decoder.instr
  rw [zbnd (zby_u h), ← hk]
  show ((Jvm.ClassFile.Reader.u1 : Jvm.ClassFile.Decoder Nat) >>= fun x => pure (Jvm.ClassFile.Instr.iload x)) c (p + 1) = _
  rw [zbnd (zby_u h1)]
  rfl
set_option maxRecDepth 100000 in
theorem zo_22 {c : ByteArray} {p : Nat} (h : zby c p 22) {a : UInt8} (h1 : zby c (p + 1) a) {k : Nat} (hk : a.toNat = k) : decode c p = .ok (Jvm.ClassFile.Instr.lload k, 2) := by
  refine zdec ?_
  unfold Jvm.ClassFile.Decoder.instr
  rw [zbnd (zby_u h), ← hk]
  show ((Jvm.ClassFile.Reader.u1 : Jvm.ClassFile.Decoder Nat) >>= fun x => pure (Jvm.ClassFile.Instr.lload x)) c (p + 1) = _
  rw [zbnd (zby_u h1)]
  rfl
set_option maxRecDepth 100000 in
theorem zo_25 {c : ByteArray} {p : Nat} (h : zby c p 25) {a : UInt8} (h1 : zby c (p + 1) a) {k : Nat} (hk : a.toNat = k) : decode c p = .ok (Jvm.ClassFile.Instr.aload k, 2) := by
  refine zdec ?_
  unfold Jvm.ClassFile.Decoder.instr
  rw [zbnd (zby_u h), ← hk]
  show ((Jvm.ClassFile.Reader.u1 : Jvm.ClassFile.Decoder Nat) >>= fun x => pure (Jvm.ClassFile.Instr.aload x)) c (p + 1) = _
  rw [zbnd (zby_u h1)]
  rfl
set_option maxRecDepth 100000 in
theorem zo_26 {c : ByteArray} {p : Nat} (h : zby c p 26) : decode c p = .ok (.iload_n 0, 1) := by
  refine zdec ?_
  unfold Jvm.ClassFile.Decoder.instr
  rw [zbnd (zby_u h)]
  rfl
set_option maxRecDepth 100000 in
theorem zo_27 {c : ByteArray} {p : Nat} (h : zby c p 27) : decode c p = .ok (.iload_n 1, 1) := by
  refine zdec ?_
  unfold Jvm.ClassFile.Decoder.instr
  rw [zbnd (zby_u h)]
  rfl
set_option maxRecDepth 100000 in
theorem zo_28 {c : ByteArray} {p : Nat} (h : zby c p 28) : decode c p = .ok (.iload_n 2, 1) := by
  refine zdec ?_
  unfold Jvm.ClassFile.Decoder.instr
  rw [zbnd (zby_u h)]
  rfl
set_option maxRecDepth 100000 in
theorem zo_29 {c : ByteArray} {p : Nat} (h : zby c p 29) : decode c p = .ok (.iload_n 3, 1) := by
  refine zdec ?_
  unfold Jvm.ClassFile.Decoder.instr
  rw [zbnd (zby_u h)]
  rfl
set_option maxRecDepth 100000 in
theorem zo_30 {c : ByteArray} {p : Nat} (h : zby c p 30) : decode c p = .ok (.lload_n 0, 1) := by
  refine zdec ?_
  unfold Jvm.ClassFile.Decoder.instr
  rw [zbnd (zby_u h)]
  rfl
set_option maxRecDepth 100000 in
theorem zo_31 {c : ByteArray} {p : Nat} (h : zby c p 31) : decode c p = .ok (.lload_n 1, 1) := by
  refine zdec ?_
  unfold Jvm.ClassFile.Decoder.instr
  rw [zbnd (zby_u h)]
  rfl
set_option maxRecDepth 100000 in
theorem zo_32 {c : ByteArray} {p : Nat} (h : zby c p 32) : decode c p = .ok (.lload_n 2, 1) := by
  refine zdec ?_
  unfold Jvm.ClassFile.Decoder.instr
  rw [zbnd (zby_u h)]
  rfl
set_option maxRecDepth 100000 in
theorem zo_42 {c : ByteArray} {p : Nat} (h : zby c p 42) : decode c p = .ok (.aload_n 0, 1) := by
  refine zdec ?_
  unfold Jvm.ClassFile.Decoder.instr
  rw [zbnd (zby_u h)]
  rfl
set_option maxRecDepth 100000 in
theorem zo_43 {c : ByteArray} {p : Nat} (h : zby c p 43) : decode c p = .ok (.aload_n 1, 1) := by
  refine zdec ?_
  unfold Jvm.ClassFile.Decoder.instr
  rw [zbnd (zby_u h)]
  rfl
set_option maxRecDepth 100000 in
theorem zo_44 {c : ByteArray} {p : Nat} (h : zby c p 44) : decode c p = .ok (.aload_n 2, 1) := by
  refine zdec ?_
  unfold Jvm.ClassFile.Decoder.instr
  rw [zbnd (zby_u h)]
  rfl
set_option maxRecDepth 100000 in
theorem zo_45 {c : ByteArray} {p : Nat} (h : zby c p 45) : decode c p = .ok (.aload_n 3, 1) := by
  refine zdec ?_
  unfold Jvm.ClassFile.Decoder.instr
  rw [zbnd (zby_u h)]
  rfl
set_option maxRecDepth 100000 in
theorem zo_46 {c : ByteArray} {p : Nat} (h : zby c p 46) : decode c p = .ok (.iaload, 1) := by
  refine zdec ?_
  unfold Jvm.ClassFile.Decoder.instr
  rw [zbnd (zby_u h)]
  rfl
set_option maxRecDepth 100000 in
theorem zo_47 {c : ByteArray} {p : Nat} (h : zby c p 47) : decode c p = .ok (.laload, 1) := by
  refine zdec ?_
  unfold Jvm.ClassFile.Decoder.instr
  rw [zbnd (zby_u h)]
  rfl
set_option maxRecDepth 100000 in
theorem zo_51 {c : ByteArray} {p : Nat} (h : zby c p 51) : decode c p = .ok (.baload, 1) := by
  refine zdec ?_
  unfold Jvm.ClassFile.Decoder.instr
  rw [zbnd (zby_u h)]
  rfl
set_option maxRecDepth 100000 in
theorem zo_54 {c : ByteArray} {p : Nat} (h : zby c p 54) {a : UInt8} (h1 : zby c (p + 1) a) {k : Nat} (hk : a.toNat = k) : decode c p = .ok (Jvm.ClassFile.Instr.istore k, 2) := by
  refine zdec ?_
  unfold Jvm.ClassFile.Decoder.instr
  rw [zbnd (zby_u h), ← hk]
  show ((Jvm.ClassFile.Reader.u1 : Jvm.ClassFile.Decoder Nat) >>= fun x => pure (Jvm.ClassFile.Instr.istore x)) c (p + 1) = _
  rw [zbnd (zby_u h1)]
  rfl
set_option maxRecDepth 100000 in
theorem zo_55 {c : ByteArray} {p : Nat} (h : zby c p 55) {a : UInt8} (h1 : zby c (p + 1) a) {k : Nat} (hk : a.toNat = k) : decode c p = .ok (Jvm.ClassFile.Instr.lstore k, 2) := by
  refine zdec ?_
  unfold Jvm.ClassFile.Decoder.instr
  rw [zbnd (zby_u h), ← hk]
  show ((Jvm.ClassFile.Reader.u1 : Jvm.ClassFile.Decoder Nat) >>= fun x => pure (Jvm.ClassFile.Instr.lstore x)) c (p + 1) = _
  rw [zbnd (zby_u h1)]
  rfl
set_option maxRecDepth 100000 in
theorem zo_58 {c : ByteArray} {p : Nat} (h : zby c p 58) {a : UInt8} (h1 : zby c (p + 1) a) {k : Nat} (hk : a.toNat = k) : decode c p = .ok (Jvm.ClassFile.Instr.astore k, 2) := by
  refine zdec ?_
  unfold Jvm.ClassFile.Decoder.instr
  rw [zbnd (zby_u h), ← hk]
  show ((Jvm.ClassFile.Reader.u1 : Jvm.ClassFile.Decoder Nat) >>= fun x => pure (Jvm.ClassFile.Instr.astore x)) c (p + 1) = _
  rw [zbnd (zby_u h1)]
  rfl
set_option maxRecDepth 100000 in
theorem zo_59 {c : ByteArray} {p : Nat} (h : zby c p 59) : decode c p = .ok (.istore_n 0, 1) := by
  refine zdec ?_
  unfold Jvm.ClassFile.Decoder.instr
  rw [zbnd (zby_u h)]
  rfl
set_option maxRecDepth 100000 in
theorem zo_60 {c : ByteArray} {p : Nat} (h : zby c p 60) : decode c p = .ok (.istore_n 1, 1) := by
  refine zdec ?_
  unfold Jvm.ClassFile.Decoder.instr
  rw [zbnd (zby_u h)]
  rfl
set_option maxRecDepth 100000 in
theorem zo_61 {c : ByteArray} {p : Nat} (h : zby c p 61) : decode c p = .ok (.istore_n 2, 1) := by
  refine zdec ?_
  unfold Jvm.ClassFile.Decoder.instr
  rw [zbnd (zby_u h)]
  rfl
set_option maxRecDepth 100000 in
theorem zo_62 {c : ByteArray} {p : Nat} (h : zby c p 62) : decode c p = .ok (.istore_n 3, 1) := by
  refine zdec ?_
  unfold Jvm.ClassFile.Decoder.instr
  rw [zbnd (zby_u h)]
  rfl
set_option maxRecDepth 100000 in
theorem zo_64 {c : ByteArray} {p : Nat} (h : zby c p 64) : decode c p = .ok (.lstore_n 1, 1) := by
  refine zdec ?_
  unfold Jvm.ClassFile.Decoder.instr
  rw [zbnd (zby_u h)]
  rfl
set_option maxRecDepth 100000 in
theorem zo_65 {c : ByteArray} {p : Nat} (h : zby c p 65) : decode c p = .ok (.lstore_n 2, 1) := by
  refine zdec ?_
  unfold Jvm.ClassFile.Decoder.instr
  rw [zbnd (zby_u h)]
  rfl
set_option maxRecDepth 100000 in
theorem zo_76 {c : ByteArray} {p : Nat} (h : zby c p 76) : decode c p = .ok (.astore_n 1, 1) := by
  refine zdec ?_
  unfold Jvm.ClassFile.Decoder.instr
  rw [zbnd (zby_u h)]
  rfl
set_option maxRecDepth 100000 in
theorem zo_77 {c : ByteArray} {p : Nat} (h : zby c p 77) : decode c p = .ok (.astore_n 2, 1) := by
  refine zdec ?_
  unfold Jvm.ClassFile.Decoder.instr
  rw [zbnd (zby_u h)]
  rfl
set_option maxRecDepth 100000 in
theorem zo_78 {c : ByteArray} {p : Nat} (h : zby c p 78) : decode c p = .ok (.astore_n 3, 1) := by
  refine zdec ?_
  unfold Jvm.ClassFile.Decoder.instr
  rw [zbnd (zby_u h)]
  rfl
set_option maxRecDepth 100000 in
theorem zo_79 {c : ByteArray} {p : Nat} (h : zby c p 79) : decode c p = .ok (.iastore, 1) := by
  refine zdec ?_
  unfold Jvm.ClassFile.Decoder.instr
  rw [zbnd (zby_u h)]
  rfl
set_option maxRecDepth 100000 in
theorem zo_80 {c : ByteArray} {p : Nat} (h : zby c p 80) : decode c p = .ok (.lastore, 1) := by
  refine zdec ?_
  unfold Jvm.ClassFile.Decoder.instr
  rw [zbnd (zby_u h)]
  rfl
set_option maxRecDepth 100000 in
theorem zo_84 {c : ByteArray} {p : Nat} (h : zby c p 84) : decode c p = .ok (.bastore, 1) := by
  refine zdec ?_
  unfold Jvm.ClassFile.Decoder.instr
  rw [zbnd (zby_u h)]
  rfl
set_option maxRecDepth 100000 in
theorem zo_87 {c : ByteArray} {p : Nat} (h : zby c p 87) : decode c p = .ok (.pop, 1) := by
  refine zdec ?_
  unfold Jvm.ClassFile.Decoder.instr
  rw [zbnd (zby_u h)]
  rfl
set_option maxRecDepth 100000 in
theorem zo_88 {c : ByteArray} {p : Nat} (h : zby c p 88) : decode c p = .ok (.pop2, 1) := by
  refine zdec ?_
  unfold Jvm.ClassFile.Decoder.instr
  rw [zbnd (zby_u h)]
  rfl
set_option maxRecDepth 100000 in
theorem zo_89 {c : ByteArray} {p : Nat} (h : zby c p 89) : decode c p = .ok (.dup, 1) := by
  refine zdec ?_
  unfold Jvm.ClassFile.Decoder.instr
  rw [zbnd (zby_u h)]
  rfl
set_option maxRecDepth 100000 in
theorem zo_92 {c : ByteArray} {p : Nat} (h : zby c p 92) : decode c p = .ok (.dup2, 1) := by
  refine zdec ?_
  unfold Jvm.ClassFile.Decoder.instr
  rw [zbnd (zby_u h)]
  rfl
set_option maxRecDepth 100000 in
theorem zo_96 {c : ByteArray} {p : Nat} (h : zby c p 96) : decode c p = .ok (.iadd, 1) := by
  refine zdec ?_
  unfold Jvm.ClassFile.Decoder.instr
  rw [zbnd (zby_u h)]
  rfl
set_option maxRecDepth 100000 in
theorem zo_97 {c : ByteArray} {p : Nat} (h : zby c p 97) : decode c p = .ok (.ladd, 1) := by
  refine zdec ?_
  unfold Jvm.ClassFile.Decoder.instr
  rw [zbnd (zby_u h)]
  rfl
set_option maxRecDepth 100000 in
theorem zo_100 {c : ByteArray} {p : Nat} (h : zby c p 100) : decode c p = .ok (.isub, 1) := by
  refine zdec ?_
  unfold Jvm.ClassFile.Decoder.instr
  rw [zbnd (zby_u h)]
  rfl
set_option maxRecDepth 100000 in
theorem zo_104 {c : ByteArray} {p : Nat} (h : zby c p 104) : decode c p = .ok (.imul, 1) := by
  refine zdec ?_
  unfold Jvm.ClassFile.Decoder.instr
  rw [zbnd (zby_u h)]
  rfl
set_option maxRecDepth 100000 in
theorem zo_105 {c : ByteArray} {p : Nat} (h : zby c p 105) : decode c p = .ok (.lmul, 1) := by
  refine zdec ?_
  unfold Jvm.ClassFile.Decoder.instr
  rw [zbnd (zby_u h)]
  rfl
set_option maxRecDepth 100000 in
theorem zo_108 {c : ByteArray} {p : Nat} (h : zby c p 108) : decode c p = .ok (.idiv, 1) := by
  refine zdec ?_
  unfold Jvm.ClassFile.Decoder.instr
  rw [zbnd (zby_u h)]
  rfl
set_option maxRecDepth 100000 in
theorem zo_109 {c : ByteArray} {p : Nat} (h : zby c p 109) : decode c p = .ok (.ldiv, 1) := by
  refine zdec ?_
  unfold Jvm.ClassFile.Decoder.instr
  rw [zbnd (zby_u h)]
  rfl
set_option maxRecDepth 100000 in
theorem zo_112 {c : ByteArray} {p : Nat} (h : zby c p 112) : decode c p = .ok (.irem, 1) := by
  refine zdec ?_
  unfold Jvm.ClassFile.Decoder.instr
  rw [zbnd (zby_u h)]
  rfl
set_option maxRecDepth 100000 in
theorem zo_113 {c : ByteArray} {p : Nat} (h : zby c p 113) : decode c p = .ok (.lrem, 1) := by
  refine zdec ?_
  unfold Jvm.ClassFile.Decoder.instr
  rw [zbnd (zby_u h)]
  rfl
set_option maxRecDepth 100000 in
theorem zo_120 {c : ByteArray} {p : Nat} (h : zby c p 120) : decode c p = .ok (.ishl, 1) := by
  refine zdec ?_
  unfold Jvm.ClassFile.Decoder.instr
  rw [zbnd (zby_u h)]
  rfl
set_option maxRecDepth 100000 in
theorem zo_121 {c : ByteArray} {p : Nat} (h : zby c p 121) : decode c p = .ok (.lshl, 1) := by
  refine zdec ?_
  unfold Jvm.ClassFile.Decoder.instr
  rw [zbnd (zby_u h)]
  rfl
set_option maxRecDepth 100000 in
theorem zo_122 {c : ByteArray} {p : Nat} (h : zby c p 122) : decode c p = .ok (.ishr, 1) := by
  refine zdec ?_
  unfold Jvm.ClassFile.Decoder.instr
  rw [zbnd (zby_u h)]
  rfl
set_option maxRecDepth 100000 in
theorem zo_123 {c : ByteArray} {p : Nat} (h : zby c p 123) : decode c p = .ok (.lshr, 1) := by
  refine zdec ?_
  unfold Jvm.ClassFile.Decoder.instr
  rw [zbnd (zby_u h)]
  rfl
set_option maxRecDepth 100000 in
theorem zo_124 {c : ByteArray} {p : Nat} (h : zby c p 124) : decode c p = .ok (.iushr, 1) := by
  refine zdec ?_
  unfold Jvm.ClassFile.Decoder.instr
  rw [zbnd (zby_u h)]
  rfl
set_option maxRecDepth 100000 in
theorem zo_126 {c : ByteArray} {p : Nat} (h : zby c p 126) : decode c p = .ok (.iand, 1) := by
  refine zdec ?_
  unfold Jvm.ClassFile.Decoder.instr
  rw [zbnd (zby_u h)]
  rfl
set_option maxRecDepth 100000 in
theorem zo_128 {c : ByteArray} {p : Nat} (h : zby c p 128) : decode c p = .ok (.ior, 1) := by
  refine zdec ?_
  unfold Jvm.ClassFile.Decoder.instr
  rw [zbnd (zby_u h)]
  rfl
set_option maxRecDepth 100000 in
theorem zo_130 {c : ByteArray} {p : Nat} (h : zby c p 130) : decode c p = .ok (.ixor, 1) := by
  refine zdec ?_
  unfold Jvm.ClassFile.Decoder.instr
  rw [zbnd (zby_u h)]
  rfl
set_option maxRecDepth 100000 in
theorem zo_133 {c : ByteArray} {p : Nat} (h : zby c p 133) : decode c p = .ok (.i2l, 1) := by
  refine zdec ?_
  unfold Jvm.ClassFile.Decoder.instr
  rw [zbnd (zby_u h)]
  rfl
set_option maxRecDepth 100000 in
theorem zo_136 {c : ByteArray} {p : Nat} (h : zby c p 136) : decode c p = .ok (.l2i, 1) := by
  refine zdec ?_
  unfold Jvm.ClassFile.Decoder.instr
  rw [zbnd (zby_u h)]
  rfl
set_option maxRecDepth 100000 in
theorem zo_148 {c : ByteArray} {p : Nat} (h : zby c p 148) : decode c p = .ok (.lcmp, 1) := by
  refine zdec ?_
  unfold Jvm.ClassFile.Decoder.instr
  rw [zbnd (zby_u h)]
  rfl
set_option maxRecDepth 100000 in
theorem zo_153 {c : ByteArray} {p : Nat} (h : zby c p 153) {a b : UInt8} (h1 : zby c (p + 1) a) (h2 : zby c (p + 1 + 1) b) {k : Int} (hk : Jvm.ClassFile.Reader.signed 16 (a.toNat * 256 + b.toNat) = k) : decode c p = .ok (Jvm.ClassFile.Instr.ifCond .eq k, 3) := by
  refine zdec ?_
  unfold Jvm.ClassFile.Decoder.instr
  rw [zbnd (zby_u h), ← hk]
  show ((Jvm.ClassFile.Reader.s2 : Jvm.ClassFile.Decoder Int) >>= fun x => pure (Jvm.ClassFile.Instr.ifCond .eq x)) c (p + 1) = _
  rw [zbnd (zby_s2 h1 h2)]
  rfl
set_option maxRecDepth 100000 in
theorem zo_154 {c : ByteArray} {p : Nat} (h : zby c p 154) {a b : UInt8} (h1 : zby c (p + 1) a) (h2 : zby c (p + 1 + 1) b) {k : Int} (hk : Jvm.ClassFile.Reader.signed 16 (a.toNat * 256 + b.toNat) = k) : decode c p = .ok (Jvm.ClassFile.Instr.ifCond .ne k, 3) := by
  refine zdec ?_
  unfold Jvm.ClassFile.Decoder.instr
  rw [zbnd (zby_u h), ← hk]
  show ((Jvm.ClassFile.Reader.s2 : Jvm.ClassFile.Decoder Int) >>= fun x => pure (Jvm.ClassFile.Instr.ifCond .ne x)) c (p + 1) = _
  rw [zbnd (zby_s2 h1 h2)]
  rfl
set_option maxRecDepth 100000 in
theorem zo_155 {c : ByteArray} {p : Nat} (h : zby c p 155) {a b : UInt8} (h1 : zby c (p + 1) a) (h2 : zby c (p + 1 + 1) b) {k : Int} (hk : Jvm.ClassFile.Reader.signed 16 (a.toNat * 256 + b.toNat) = k) : decode c p = .ok (Jvm.ClassFile.Instr.ifCond .lt k, 3) := by
  refine zdec ?_
  unfold Jvm.ClassFile.Decoder.instr
  rw [zbnd (zby_u h), ← hk]
  show ((Jvm.ClassFile.Reader.s2 : Jvm.ClassFile.Decoder Int) >>= fun x => pure (Jvm.ClassFile.Instr.ifCond .lt x)) c (p + 1) = _
  rw [zbnd (zby_s2 h1 h2)]
  rfl
set_option maxRecDepth 100000 in
theorem zo_156 {c : ByteArray} {p : Nat} (h : zby c p 156) {a b : UInt8} (h1 : zby c (p + 1) a) (h2 : zby c (p + 1 + 1) b) {k : Int} (hk : Jvm.ClassFile.Reader.signed 16 (a.toNat * 256 + b.toNat) = k) : decode c p = .ok (Jvm.ClassFile.Instr.ifCond .ge k, 3) := by
  refine zdec ?_
  unfold Jvm.ClassFile.Decoder.instr
  rw [zbnd (zby_u h), ← hk]
  show ((Jvm.ClassFile.Reader.s2 : Jvm.ClassFile.Decoder Int) >>= fun x => pure (Jvm.ClassFile.Instr.ifCond .ge x)) c (p + 1) = _
  rw [zbnd (zby_s2 h1 h2)]
  rfl
set_option maxRecDepth 100000 in
theorem zo_157 {c : ByteArray} {p : Nat} (h : zby c p 157) {a b : UInt8} (h1 : zby c (p + 1) a) (h2 : zby c (p + 1 + 1) b) {k : Int} (hk : Jvm.ClassFile.Reader.signed 16 (a.toNat * 256 + b.toNat) = k) : decode c p = .ok (Jvm.ClassFile.Instr.ifCond .gt k, 3) := by
  refine zdec ?_
  unfold Jvm.ClassFile.Decoder.instr
  rw [zbnd (zby_u h), ← hk]
  show ((Jvm.ClassFile.Reader.s2 : Jvm.ClassFile.Decoder Int) >>= fun x => pure (Jvm.ClassFile.Instr.ifCond .gt x)) c (p + 1) = _
  rw [zbnd (zby_s2 h1 h2)]
  rfl
set_option maxRecDepth 100000 in
theorem zo_158 {c : ByteArray} {p : Nat} (h : zby c p 158) {a b : UInt8} (h1 : zby c (p + 1) a) (h2 : zby c (p + 1 + 1) b) {k : Int} (hk : Jvm.ClassFile.Reader.signed 16 (a.toNat * 256 + b.toNat) = k) : decode c p = .ok (Jvm.ClassFile.Instr.ifCond .le k, 3) := by
  refine zdec ?_
  unfold Jvm.ClassFile.Decoder.instr
  rw [zbnd (zby_u h), ← hk]
  show ((Jvm.ClassFile.Reader.s2 : Jvm.ClassFile.Decoder Int) >>= fun x => pure (Jvm.ClassFile.Instr.ifCond .le x)) c (p + 1) = _
  rw [zbnd (zby_s2 h1 h2)]
  rfl
set_option maxRecDepth 100000 in
theorem zo_159 {c : ByteArray} {p : Nat} (h : zby c p 159) {a b : UInt8} (h1 : zby c (p + 1) a) (h2 : zby c (p + 1 + 1) b) {k : Int} (hk : Jvm.ClassFile.Reader.signed 16 (a.toNat * 256 + b.toNat) = k) : decode c p = .ok (Jvm.ClassFile.Instr.if_icmp .eq k, 3) := by
  refine zdec ?_
  unfold Jvm.ClassFile.Decoder.instr
  rw [zbnd (zby_u h), ← hk]
  show ((Jvm.ClassFile.Reader.s2 : Jvm.ClassFile.Decoder Int) >>= fun x => pure (Jvm.ClassFile.Instr.if_icmp .eq x)) c (p + 1) = _
  rw [zbnd (zby_s2 h1 h2)]
  rfl
set_option maxRecDepth 100000 in
theorem zo_160 {c : ByteArray} {p : Nat} (h : zby c p 160) {a b : UInt8} (h1 : zby c (p + 1) a) (h2 : zby c (p + 1 + 1) b) {k : Int} (hk : Jvm.ClassFile.Reader.signed 16 (a.toNat * 256 + b.toNat) = k) : decode c p = .ok (Jvm.ClassFile.Instr.if_icmp .ne k, 3) := by
  refine zdec ?_
  unfold Jvm.ClassFile.Decoder.instr
  rw [zbnd (zby_u h), ← hk]
  show ((Jvm.ClassFile.Reader.s2 : Jvm.ClassFile.Decoder Int) >>= fun x => pure (Jvm.ClassFile.Instr.if_icmp .ne x)) c (p + 1) = _
  rw [zbnd (zby_s2 h1 h2)]
  rfl
set_option maxRecDepth 100000 in
theorem zo_161 {c : ByteArray} {p : Nat} (h : zby c p 161) {a b : UInt8} (h1 : zby c (p + 1) a) (h2 : zby c (p + 1 + 1) b) {k : Int} (hk : Jvm.ClassFile.Reader.signed 16 (a.toNat * 256 + b.toNat) = k) : decode c p = .ok (Jvm.ClassFile.Instr.if_icmp .lt k, 3) := by
  refine zdec ?_
  unfold Jvm.ClassFile.Decoder.instr
  rw [zbnd (zby_u h), ← hk]
  show ((Jvm.ClassFile.Reader.s2 : Jvm.ClassFile.Decoder Int) >>= fun x => pure (Jvm.ClassFile.Instr.if_icmp .lt x)) c (p + 1) = _
  rw [zbnd (zby_s2 h1 h2)]
  rfl
set_option maxRecDepth 100000 in
theorem zo_162 {c : ByteArray} {p : Nat} (h : zby c p 162) {a b : UInt8} (h1 : zby c (p + 1) a) (h2 : zby c (p + 1 + 1) b) {k : Int} (hk : Jvm.ClassFile.Reader.signed 16 (a.toNat * 256 + b.toNat) = k) : decode c p = .ok (Jvm.ClassFile.Instr.if_icmp .ge k, 3) := by
  refine zdec ?_
  unfold Jvm.ClassFile.Decoder.instr
  rw [zbnd (zby_u h), ← hk]
  show ((Jvm.ClassFile.Reader.s2 : Jvm.ClassFile.Decoder Int) >>= fun x => pure (Jvm.ClassFile.Instr.if_icmp .ge x)) c (p + 1) = _
  rw [zbnd (zby_s2 h1 h2)]
  rfl
set_option maxRecDepth 100000 in
theorem zo_163 {c : ByteArray} {p : Nat} (h : zby c p 163) {a b : UInt8} (h1 : zby c (p + 1) a) (h2 : zby c (p + 1 + 1) b) {k : Int} (hk : Jvm.ClassFile.Reader.signed 16 (a.toNat * 256 + b.toNat) = k) : decode c p = .ok (Jvm.ClassFile.Instr.if_icmp .gt k, 3) := by
  refine zdec ?_
  unfold Jvm.ClassFile.Decoder.instr
  rw [zbnd (zby_u h), ← hk]
  show ((Jvm.ClassFile.Reader.s2 : Jvm.ClassFile.Decoder Int) >>= fun x => pure (Jvm.ClassFile.Instr.if_icmp .gt x)) c (p + 1) = _
  rw [zbnd (zby_s2 h1 h2)]
  rfl
set_option maxRecDepth 100000 in
theorem zo_164 {c : ByteArray} {p : Nat} (h : zby c p 164) {a b : UInt8} (h1 : zby c (p + 1) a) (h2 : zby c (p + 1 + 1) b) {k : Int} (hk : Jvm.ClassFile.Reader.signed 16 (a.toNat * 256 + b.toNat) = k) : decode c p = .ok (Jvm.ClassFile.Instr.if_icmp .le k, 3) := by
  refine zdec ?_
  unfold Jvm.ClassFile.Decoder.instr
  rw [zbnd (zby_u h), ← hk]
  show ((Jvm.ClassFile.Reader.s2 : Jvm.ClassFile.Decoder Int) >>= fun x => pure (Jvm.ClassFile.Instr.if_icmp .le x)) c (p + 1) = _
  rw [zbnd (zby_s2 h1 h2)]
  rfl
set_option maxRecDepth 100000 in
theorem zo_167 {c : ByteArray} {p : Nat} (h : zby c p 167) {a b : UInt8} (h1 : zby c (p + 1) a) (h2 : zby c (p + 1 + 1) b) {k : Int} (hk : Jvm.ClassFile.Reader.signed 16 (a.toNat * 256 + b.toNat) = k) : decode c p = .ok (Jvm.ClassFile.Instr.goto k, 3) := by
  refine zdec ?_
  unfold Jvm.ClassFile.Decoder.instr
  rw [zbnd (zby_u h), ← hk]
  show ((Jvm.ClassFile.Reader.s2 : Jvm.ClassFile.Decoder Int) >>= fun x => pure (Jvm.ClassFile.Instr.goto x)) c (p + 1) = _
  rw [zbnd (zby_s2 h1 h2)]
  rfl
set_option maxRecDepth 100000 in
theorem zo_172 {c : ByteArray} {p : Nat} (h : zby c p 172) : decode c p = .ok (.ireturn, 1) := by
  refine zdec ?_
  unfold Jvm.ClassFile.Decoder.instr
  rw [zbnd (zby_u h)]
  rfl
set_option maxRecDepth 100000 in
theorem zo_173 {c : ByteArray} {p : Nat} (h : zby c p 173) : decode c p = .ok (.lreturn, 1) := by
  refine zdec ?_
  unfold Jvm.ClassFile.Decoder.instr
  rw [zbnd (zby_u h)]
  rfl
set_option maxRecDepth 100000 in
theorem zo_176 {c : ByteArray} {p : Nat} (h : zby c p 176) : decode c p = .ok (.areturn, 1) := by
  refine zdec ?_
  unfold Jvm.ClassFile.Decoder.instr
  rw [zbnd (zby_u h)]
  rfl
set_option maxRecDepth 100000 in
theorem zo_177 {c : ByteArray} {p : Nat} (h : zby c p 177) : decode c p = .ok (.return_, 1) := by
  refine zdec ?_
  unfold Jvm.ClassFile.Decoder.instr
  rw [zbnd (zby_u h)]
  rfl
set_option maxRecDepth 100000 in
theorem zo_178 {c : ByteArray} {p : Nat} (h : zby c p 178) {a b : UInt8} (h1 : zby c (p + 1) a) (h2 : zby c (p + 1 + 1) b) {k : Nat} (hk : a.toNat * 256 + b.toNat = k) : decode c p = .ok (Jvm.ClassFile.Instr.getstatic k, 3) := by
  refine zdec ?_
  unfold Jvm.ClassFile.Decoder.instr
  rw [zbnd (zby_u h), ← hk]
  show ((Jvm.ClassFile.Reader.u2 : Jvm.ClassFile.Decoder Nat) >>= fun x => pure (Jvm.ClassFile.Instr.getstatic x)) c (p + 1) = _
  rw [zbnd (zby_u2 h1 h2)]
  rfl
set_option maxRecDepth 100000 in
theorem zo_180 {c : ByteArray} {p : Nat} (h : zby c p 180) {a b : UInt8} (h1 : zby c (p + 1) a) (h2 : zby c (p + 1 + 1) b) {k : Nat} (hk : a.toNat * 256 + b.toNat = k) : decode c p = .ok (Jvm.ClassFile.Instr.getfield k, 3) := by
  refine zdec ?_
  unfold Jvm.ClassFile.Decoder.instr
  rw [zbnd (zby_u h), ← hk]
  show ((Jvm.ClassFile.Reader.u2 : Jvm.ClassFile.Decoder Nat) >>= fun x => pure (Jvm.ClassFile.Instr.getfield x)) c (p + 1) = _
  rw [zbnd (zby_u2 h1 h2)]
  rfl
set_option maxRecDepth 100000 in
theorem zo_181 {c : ByteArray} {p : Nat} (h : zby c p 181) {a b : UInt8} (h1 : zby c (p + 1) a) (h2 : zby c (p + 1 + 1) b) {k : Nat} (hk : a.toNat * 256 + b.toNat = k) : decode c p = .ok (Jvm.ClassFile.Instr.putfield k, 3) := by
  refine zdec ?_
  unfold Jvm.ClassFile.Decoder.instr
  rw [zbnd (zby_u h), ← hk]
  show ((Jvm.ClassFile.Reader.u2 : Jvm.ClassFile.Decoder Nat) >>= fun x => pure (Jvm.ClassFile.Instr.putfield x)) c (p + 1) = _
  rw [zbnd (zby_u2 h1 h2)]
  rfl
set_option maxRecDepth 100000 in
theorem zo_182 {c : ByteArray} {p : Nat} (h : zby c p 182) {a b : UInt8} (h1 : zby c (p + 1) a) (h2 : zby c (p + 1 + 1) b) {k : Nat} (hk : a.toNat * 256 + b.toNat = k) : decode c p = .ok (Jvm.ClassFile.Instr.invokevirtual k, 3) := by
  refine zdec ?_
  unfold Jvm.ClassFile.Decoder.instr
  rw [zbnd (zby_u h), ← hk]
  show ((Jvm.ClassFile.Reader.u2 : Jvm.ClassFile.Decoder Nat) >>= fun x => pure (Jvm.ClassFile.Instr.invokevirtual x)) c (p + 1) = _
  rw [zbnd (zby_u2 h1 h2)]
  rfl
set_option maxRecDepth 100000 in
theorem zo_183 {c : ByteArray} {p : Nat} (h : zby c p 183) {a b : UInt8} (h1 : zby c (p + 1) a) (h2 : zby c (p + 1 + 1) b) {k : Nat} (hk : a.toNat * 256 + b.toNat = k) : decode c p = .ok (Jvm.ClassFile.Instr.invokespecial k, 3) := by
  refine zdec ?_
  unfold Jvm.ClassFile.Decoder.instr
  rw [zbnd (zby_u h), ← hk]
  show ((Jvm.ClassFile.Reader.u2 : Jvm.ClassFile.Decoder Nat) >>= fun x => pure (Jvm.ClassFile.Instr.invokespecial x)) c (p + 1) = _
  rw [zbnd (zby_u2 h1 h2)]
  rfl
set_option maxRecDepth 100000 in
theorem zo_184 {c : ByteArray} {p : Nat} (h : zby c p 184) {a b : UInt8} (h1 : zby c (p + 1) a) (h2 : zby c (p + 1 + 1) b) {k : Nat} (hk : a.toNat * 256 + b.toNat = k) : decode c p = .ok (Jvm.ClassFile.Instr.invokestatic k, 3) := by
  refine zdec ?_
  unfold Jvm.ClassFile.Decoder.instr
  rw [zbnd (zby_u h), ← hk]
  show ((Jvm.ClassFile.Reader.u2 : Jvm.ClassFile.Decoder Nat) >>= fun x => pure (Jvm.ClassFile.Instr.invokestatic x)) c (p + 1) = _
  rw [zbnd (zby_u2 h1 h2)]
  rfl
set_option maxRecDepth 100000 in
theorem zo_187 {c : ByteArray} {p : Nat} (h : zby c p 187) {a b : UInt8} (h1 : zby c (p + 1) a) (h2 : zby c (p + 1 + 1) b) {k : Nat} (hk : a.toNat * 256 + b.toNat = k) : decode c p = .ok (Jvm.ClassFile.Instr.new k, 3) := by
  refine zdec ?_
  unfold Jvm.ClassFile.Decoder.instr
  rw [zbnd (zby_u h), ← hk]
  show ((Jvm.ClassFile.Reader.u2 : Jvm.ClassFile.Decoder Nat) >>= fun x => pure (Jvm.ClassFile.Instr.new x)) c (p + 1) = _
  rw [zbnd (zby_u2 h1 h2)]
  rfl
set_option maxRecDepth 100000 in
theorem zo_190 {c : ByteArray} {p : Nat} (h : zby c p 190) : decode c p = .ok (.arraylength, 1) := by
  refine zdec ?_
  unfold Jvm.ClassFile.Decoder.instr
  rw [zbnd (zby_u h)]
  rfl
def zchJ6_bitCount_0f7a4_0 : List UInt8 := [26, 26, 4, 124, 19, 1, 9, 126, 100, 59, 26, 19, 1, 10, 126, 26, 5, 124, 19, 1, 10, 126, 96, 59, 26, 26, 7, 124, 96, 19, 1, 11, 126, 59, 26, 26]
theorem zwJ6_bitCount_0f7a4_0 : (cJ6_bitCount_0f7a4.data.toList.drop 0).take 36 = zchJ6_bitCount_0f7a4_0 := by decide +kernel
def zchJ6_bitCount_0f7a4_1 : List UInt8 := [126, 59, 26, 26, 16, 8, 124, 96, 59, 26, 26, 16, 16, 124, 96, 59, 26, 16, 63, 126, 172]
theorem zwJ6_bitCount_0f7a4_1 : (cJ6_bitCount_0f7a4.data.toList.drop 32).take 36 = zchJ6_bitCount_0f7a4_1 := by decide +kernel
def zchX0_become_0 : List UInt8 := [42, 180, 0, 10, 43, 180, 0, 10, 182, 0, 37, 42, 180, 0, 19, 43, 180, 0, 19, 182, 0, 41, 42, 180, 0, 26, 43, 180, 0, 26, 182, 0, 44, 42, 180, 0]
theorem zwX0_become_0 : (cX0_become.data.toList.drop 0).take 36 = zchX0_become_0 := by decide +kernel
def zchX0_become_1 : List UInt8 := [44, 42, 180, 0, 33, 43, 180, 0, 33, 182, 0, 47, 177]
theorem zwX0_become_1 : (cX0_become.data.toList.drop 32).take 36 = zchX0_become_1 := by decide +kernel
def zchX1_become_0 : List UInt8 := [42, 43, 180, 0, 9, 181, 0, 9, 43, 180, 0, 15, 3, 42, 180, 0, 15, 3, 16, 8, 184, 0, 19, 177]
theorem zwX1_become_0 : (cX1_become.data.toList.drop 0).take 36 = zchX1_become_0 := by decide +kernel
def zchX1_countDrawn_0 : List UInt8 := [3, 62, 3, 54, 4, 21, 4, 16, 8, 162, 0, 36, 42, 21, 4, 182, 0, 29, 153, 0, 21, 42, 180, 0, 15, 21, 4, 46, 27, 28, 184, 0, 25, 153, 0, 6]
theorem zwX1_countDrawn_0 : (cX1_countDrawn.data.toList.drop 0).take 36 = zchX1_countDrawn_0 := by decide +kernel
def zchX1_countDrawn_1 : List UInt8 := [25, 153, 0, 6, 132, 3, 1, 132, 4, 1, 167, 255, 219, 29, 172]
theorem zwX1_countDrawn_1 : (cX1_countDrawn.data.toList.drop 32).take 36 = zchX1_countDrawn_1 := by decide +kernel
def zchX1_has_0 : List UInt8 := [27, 3, 16, 7, 184, 0, 25, 153, 0, 19, 42, 180, 0, 9, 27, 122, 4, 126, 4, 160, 0, 7, 4, 167, 0, 4, 3, 172]
theorem zwX1_has_0 : (cX1_has.data.toList.drop 0).take 36 = zchX1_has_0 := by decide +kernel
def zchX2_commonSide_0 : List UInt8 := [3, 60, 4, 61, 28, 6, 162, 0, 24, 42, 28, 182, 0, 77, 42, 27, 182, 0, 77, 162, 0, 5, 28, 60, 132, 2, 1, 167, 255, 233, 27, 172]
theorem zwX2_commonSide_0 : (cX2_commonSide.data.toList.drop 0).take 36 = zchX2_commonSide_0 := by decide +kernel
def zchX2_drawLine_0 : List UInt8 := [42, 180, 0, 26, 3, 9, 80, 4, 60, 3, 61, 28, 42, 180, 0, 15, 162, 0, 18, 42, 27, 28, 6, 104, 182, 0, 59, 60, 132, 2, 1, 167, 255, 236, 27, 172]
theorem zwX2_drawLine_0 : (cX2_drawLine.data.toList.drop 0).take 36 = zchX2_drawLine_0 := by decide +kernel
def zchX2_drawLine_1 : List UInt8 := [255, 236, 27, 172]
theorem zwX2_drawLine_1 : (cX2_drawLine.data.toList.drop 32).take 36 = zchX2_drawLine_1 := by decide +kernel
def zchX2_gather_0 : List UInt8 := [42, 3, 181, 0, 15, 3, 62, 29, 16, 6, 162, 0, 92, 43, 29, 182, 0, 32, 153, 0, 78, 42, 180, 0, 9, 42, 180, 0, 15, 29, 79, 3, 54, 4, 21, 4]
theorem zwX2_gather_0 : (cX2_gather.data.toList.drop 0).take 36 = zchX2_gather_0 := by decide +kernel
def zchX2_gather_1 : List UInt8 := [54, 4, 21, 4, 6, 162, 0, 49, 43, 29, 21, 4, 28, 182, 0, 37, 133, 55, 5, 42, 180, 0, 19, 42, 180, 0, 15, 6, 104, 21, 4, 96, 22, 5, 16, 32]
theorem zwX2_gather_1 : (cX2_gather.data.toList.drop 32).take 36 = zchX2_gather_1 := by decide +kernel
def zchX2_gather_2 : List UInt8 := [22, 5, 16, 32, 121, 43, 29, 21, 4, 28, 182, 0, 41, 133, 97, 80, 132, 4, 1, 167, 255, 207, 42, 89, 180, 0, 15, 4, 96, 181, 0, 15, 132, 3, 1, 167]
theorem zwX2_gather_2 : (cX2_gather.data.toList.drop 64).take 36 = zchX2_gather_2 := by decide +kernel
def zchX2_gather_3 : List UInt8 := [132, 3, 1, 167, 255, 164, 177]
theorem zwX2_gather_3 : (cX2_gather.data.toList.drop 96).take 36 = zchX2_gather_3 := by decide +kernel
def zchX2_leastWithin_0 : List UInt8 := [42, 182, 0, 44, 61, 16, 250, 62, 3, 54, 4, 21, 4, 28, 162, 0, 54, 42, 180, 0, 23, 21, 4, 47, 184, 0, 48, 27, 163, 0, 34, 29, 16, 250, 159, 0]
theorem zwX2_leastWithin_0 : (cX2_leastWithin.data.toList.drop 0).take 36 = zchX2_leastWithin_0 := by decide +kernel
def zchX2_leastWithin_1 : List UInt8 := [16, 250, 159, 0, 25, 42, 180, 0, 23, 21, 4, 47, 184, 0, 52, 42, 180, 0, 23, 29, 47, 184, 0, 52, 162, 0, 6, 21, 4, 62, 132, 4, 1, 167, 255, 202]
theorem zwX2_leastWithin_1 : (cX2_leastWithin.data.toList.drop 32).take 36 = zchX2_leastWithin_1 := by decide +kernel
def zchX2_leastWithin_2 : List UInt8 := [1, 167, 255, 202, 29, 172]
theorem zwX2_leastWithin_2 : (cX2_leastWithin.data.toList.drop 64).take 36 = zchX2_leastWithin_2 := by decide +kernel
def zchX2_meanIn_0 : List UInt8 := [30, 16, 32, 123, 136, 172]
theorem zwX2_meanIn_0 : (cX2_meanIn.data.toList.drop 0).take 36 = zchX2_meanIn_0 := by decide +kernel
def zchX2_meanOfAllBy_0 : List UInt8 := [3, 61, 3, 62, 29, 42, 180, 0, 15, 162, 0, 25, 28, 42, 180, 0, 19, 29, 6, 104, 27, 96, 47, 184, 0, 52, 96, 61, 132, 3, 1, 167, 255, 229, 28, 172]
theorem zwX2_meanOfAllBy_0 : (cX2_meanOfAllBy.data.toList.drop 0).take 36 = zchX2_meanOfAllBy_0 := by decide +kernel
def zchX2_meanOfAllBy_1 : List UInt8 := [255, 229, 28, 172]
theorem zwX2_meanOfAllBy_1 : (cX2_meanOfAllBy.data.toList.drop 32).take 36 = zchX2_meanOfAllBy_1 := by decide +kernel
def zchX2_meanOfChoice_0 : List UInt8 := [27, 3, 17, 2, 216, 184, 0, 55, 153, 0, 15, 42, 180, 0, 23, 27, 47, 184, 0, 52, 167, 0, 5, 16, 250, 172]
theorem zwX2_meanOfChoice_0 : (cX2_meanOfChoice.data.toList.drop 0).take 36 = zchX2_meanOfChoice_0 := by decide +kernel
def zchX2_onLine_0 : List UInt8 := [27, 3, 17, 2, 216, 184, 0, 55, 154, 0, 6, 16, 250, 172, 28, 154, 0, 15, 42, 180, 0, 26, 27, 47, 184, 0, 52, 167, 0, 12, 42, 180, 0, 26, 27, 47]
theorem zwX2_onLine_0 : (cX2_onLine.data.toList.drop 0).take 36 = zchX2_onLine_0 := by decide +kernel
def zchX2_onLine_1 : List UInt8 := [0, 26, 27, 47, 184, 0, 48, 172]
theorem zwX2_onLine_1 : (cX2_onLine.data.toList.drop 32).take 36 = zchX2_onLine_1 := by decide +kernel
def zchX2_sideInChoice_0 : List UInt8 := [27, 62, 42, 180, 0, 15, 4, 100, 54, 4, 21, 4, 155, 0, 28, 42, 180, 0, 9, 21, 4, 46, 28, 160, 0, 7, 29, 6, 112, 172, 29, 6, 108, 62, 132, 4]
theorem zwX2_sideInChoice_0 : (cX2_sideInChoice.data.toList.drop 0).take 36 = zchX2_sideInChoice_0 := by decide +kernel
def zchX2_sideInChoice_1 : List UInt8 := [108, 62, 132, 4, 255, 167, 255, 229, 16, 250, 172]
theorem zwX2_sideInChoice_1 : (cX2_sideInChoice.data.toList.drop 32).take 36 = zchX2_sideInChoice_1 := by decide +kernel
def zchX2_spreadChoices_0 : List UInt8 := [42, 180, 0, 23, 3, 9, 80, 4, 60, 3, 61, 28, 42, 180, 0, 15, 162, 0, 84, 27, 6, 104, 17, 2, 217, 163, 0, 75, 27, 4, 100, 62, 29, 155, 0, 57]
theorem zwX2_spreadChoices_0 : (cX2_spreadChoices.data.toList.drop 0).take 36 = zchX2_spreadChoices_0 := by decide +kernel
def zchX2_spreadChoices_1 : List UInt8 := [29, 155, 0, 57, 42, 180, 0, 23, 29, 47, 55, 4, 3, 54, 6, 21, 6, 6, 162, 0, 34, 42, 180, 0, 23, 29, 6, 104, 21, 6, 96, 22, 4, 42, 180, 0]
theorem zwX2_spreadChoices_1 : (cX2_spreadChoices.data.toList.drop 32).take 36 = zchX2_spreadChoices_1 := by decide +kernel
def zchX2_spreadChoices_2 : List UInt8 := [4, 42, 180, 0, 19, 28, 6, 104, 21, 6, 96, 47, 97, 80, 132, 6, 1, 167, 255, 222, 132, 3, 255, 167, 255, 201, 27, 6, 104, 60, 132, 2, 1, 167, 255, 170]
theorem zwX2_spreadChoices_2 : (cX2_spreadChoices.data.toList.drop 64).take 36 = zchX2_spreadChoices_2 := by decide +kernel
def zchX2_spreadChoices_3 : List UInt8 := [1, 167, 255, 170, 27, 172]
theorem zwX2_spreadChoices_3 : (cX2_spreadChoices.data.toList.drop 96).take 36 = zchX2_spreadChoices_3 := by decide +kernel
def zchX2_widenFront_0 : List UInt8 := [3, 62, 3, 54, 4, 3, 54, 5, 3, 54, 6, 3, 54, 7, 21, 7, 6, 27, 104, 162, 0, 185, 29, 27, 162, 0, 19, 42, 180, 0, 26, 29, 47, 42, 180, 0]
theorem zwX2_widenFront_0 : (cX2_widenFront.data.toList.drop 0).take 36 = zchX2_widenFront_0 := by decide +kernel
def zchX2_widenFront_1 : List UInt8 := [47, 42, 180, 0, 19, 28, 47, 97, 167, 0, 6, 20, 0, 63, 55, 8, 21, 4, 27, 162, 0, 22, 42, 180, 0, 26, 21, 4, 47, 42, 180, 0, 19, 28, 4, 96]
theorem zwX2_widenFront_1 : (cX2_widenFront.data.toList.drop 32).take 36 = zchX2_widenFront_1 := by decide +kernel
def zchX2_widenFront_2 : List UInt8 := [19, 28, 4, 96, 47, 97, 167, 0, 6, 20, 0, 63, 55, 10, 21, 5, 27, 162, 0, 22, 42, 180, 0, 26, 21, 5, 47, 42, 180, 0, 19, 28, 5, 96, 47, 97]
theorem zwX2_widenFront_2 : (cX2_widenFront.data.toList.drop 64).take 36 = zchX2_widenFront_2 := by decide +kernel
def zchX2_widenFront_3 : List UInt8 := [5, 96, 47, 97, 167, 0, 6, 20, 0, 63, 55, 12, 22, 8, 22, 10, 22, 12, 184, 0, 65, 184, 0, 65, 55, 14, 22, 14, 22, 8, 148, 154, 0, 9, 132, 3]
theorem zwX2_widenFront_3 : (cX2_widenFront.data.toList.drop 96).take 36 = zchX2_widenFront_3 := by decide +kernel
def zchX2_widenFront_4 : List UInt8 := [0, 9, 132, 3, 1, 167, 0, 20, 22, 14, 22, 10, 148, 154, 0, 9, 132, 4, 1, 167, 0, 6, 132, 5, 1, 21, 6, 17, 2, 217, 162, 0, 40, 21, 6, 153]
theorem zwX2_widenFront_4 : (cX2_widenFront.data.toList.drop 128).take 36 = zchX2_widenFront_4 := by decide +kernel
def zchX2_widenFront_5 : List UInt8 := [40, 21, 6, 153, 0, 23, 22, 14, 184, 0, 48, 42, 180, 0, 29, 21, 6, 4, 100, 47, 184, 0, 48, 162, 0, 15, 42, 180, 0, 29, 21, 6, 22, 14, 80, 132]
theorem zwX2_widenFront_5 : (cX2_widenFront.data.toList.drop 160).take 36 = zchX2_widenFront_5 := by decide +kernel
def zchX2_widenFront_6 : List UInt8 := [22, 14, 80, 132, 6, 1, 132, 7, 1, 167, 255, 69, 42, 180, 0, 29, 3, 42, 180, 0, 26, 3, 21, 6, 184, 0, 71, 21, 6, 172]
theorem zwX2_widenFront_6 : (cX2_widenFront.data.toList.drop 192).take 36 = zchX2_widenFront_6 := by decide +kernel
def zchX2_worstIn_0 : List UInt8 := [30, 136, 172]
theorem zwX2_worstIn_0 : (cX2_worstIn.data.toList.drop 0).take 36 = zchX2_worstIn_0 := by decide +kernel
def zchX3_become_0 : List UInt8 := [42, 43, 180, 0, 9, 181, 0, 9, 43, 180, 0, 15, 3, 42, 180, 0, 15, 3, 7, 184, 0, 22, 43, 180, 0, 19, 3, 42, 180, 0, 19, 3, 7, 184, 0, 22]
theorem zwX3_become_0 : (cX3_become.data.toList.drop 0).take 36 = zchX3_become_0 := by decide +kernel
def zchX3_become_1 : List UInt8 := [7, 184, 0, 22, 177]
theorem zwX3_become_1 : (cX3_become.data.toList.drop 32).take 36 = zchX3_become_1 := by decide +kernel
def zchX3_paysOf_0 : List UInt8 := [27, 42, 180, 0, 19, 184, 0, 28, 172]
theorem zwX3_paysOf_0 : (cX3_paysOf.data.toList.drop 0).take 36 = zchX3_paysOf_0 := by decide +kernel
def zchX3_premiumsOf_0 : List UInt8 := [27, 42, 180, 0, 15, 184, 0, 28, 172]
theorem zwX3_premiumsOf_0 : (cX3_premiumsOf.data.toList.drop 0).take 36 = zchX3_premiumsOf_0 := by decide +kernel
def zchX3_sumOver_0 : List UInt8 := [3, 61, 3, 62, 29, 7, 162, 0, 30, 29, 43, 190, 162, 0, 24, 26, 29, 122, 4, 126, 4, 160, 0, 9, 28, 43, 29, 46, 96, 61, 132, 3, 1, 167, 255, 227]
theorem zwX3_sumOver_0 : (cX3_sumOver.data.toList.drop 0).take 36 = zchX3_sumOver_0 := by decide +kernel
def zchX3_sumOver_1 : List UInt8 := [1, 167, 255, 227, 28, 172]
theorem zwX3_sumOver_1 : (cX3_sumOver.data.toList.drop 32).take 36 = zchX3_sumOver_1 := by decide +kernel
def zchX3_worthTaking_0 : List UInt8 := [3, 61, 3, 62, 29, 7, 162, 0, 47, 42, 180, 0, 9, 29, 122, 4, 126, 4, 160, 0, 29, 16, 10, 42, 180, 0, 15, 29, 46, 104, 27, 42, 180, 0, 19, 29]
theorem zwX3_worthTaking_0 : (cX3_worthTaking.data.toList.drop 0).take 36 = zchX3_worthTaking_0 := by decide +kernel
def zchX3_worthTaking_1 : List UInt8 := [180, 0, 19, 29, 46, 104, 162, 0, 9, 28, 4, 29, 120, 128, 61, 132, 3, 1, 167, 255, 210, 28, 172]
theorem zwX3_worthTaking_1 : (cX3_worthTaking.data.toList.drop 32).take 36 = zchX3_worthTaking_1 := by decide +kernel
def zchX4_clear_0 : List UInt8 := [42, 180, 0, 15, 60, 42, 3, 181, 0, 15, 27, 172]
theorem zwX4_clear_0 : (cX4_clear.data.toList.drop 0).take 36 = zchX4_clear_0 := by decide +kernel
def zchX4_faultAsSeason_0 : List UInt8 := [3, 60, 3, 61, 28, 42, 180, 0, 15, 162, 0, 85, 28, 16, 60, 162, 0, 79, 27, 153, 0, 21, 42, 28, 182, 0, 23, 16, 250, 159, 0, 7, 4, 167, 0, 30]
theorem zwX4_faultAsSeason_0 : (cX4_faultAsSeason.data.toList.drop 0).take 36 = zchX4_faultAsSeason_0 := by decide +kernel
def zchX4_faultAsSeason_1 : List UInt8 := [4, 167, 0, 30, 3, 167, 0, 26, 42, 28, 182, 0, 27, 154, 0, 13, 42, 28, 182, 0, 31, 16, 250, 159, 0, 7, 4, 167, 0, 4, 3, 62, 29, 154, 0, 5]
theorem zwX4_faultAsSeason_1 : (cX4_faultAsSeason.data.toList.drop 32).take 36 = zchX4_faultAsSeason_1 := by decide +kernel
def zchX4_faultAsSeason_2 : List UInt8 := [29, 154, 0, 5, 28, 172, 27, 154, 0, 15, 42, 28, 182, 0, 27, 154, 0, 7, 4, 167, 0, 4, 3, 60, 132, 2, 1, 167, 255, 169, 27, 153, 0, 10, 42, 180]
theorem zwX4_faultAsSeason_2 : (cX4_faultAsSeason.data.toList.drop 64).take 36 = zchX4_faultAsSeason_2 := by decide +kernel
def zchX4_faultAsSeason_3 : List UInt8 := [0, 10, 42, 180, 0, 15, 167, 0, 5, 16, 250, 172]
theorem zwX4_faultAsSeason_3 : (cX4_faultAsSeason.data.toList.drop 96).take 36 = zchX4_faultAsSeason_3 := by decide +kernel
def zchX4_faultAsTide_0 : List UInt8 := [3, 60, 27, 42, 180, 0, 15, 162, 0, 39, 27, 16, 60, 162, 0, 33, 27, 16, 24, 162, 0, 19, 42, 180, 0, 9, 27, 46, 16, 48, 16, 57, 184, 0, 19, 154]
theorem zwX4_faultAsTide_0 : (cX4_faultAsTide.data.toList.drop 0).take 36 = zchX4_faultAsTide_0 := by decide +kernel
def zchX4_faultAsTide_1 : List UInt8 := [184, 0, 19, 154, 0, 5, 27, 172, 132, 1, 1, 167, 255, 215, 42, 180, 0, 15, 154, 0, 7, 3, 167, 0, 5, 16, 250, 172]
theorem zwX4_faultAsTide_1 : (cX4_faultAsTide.data.toList.drop 32).take 36 = zchX4_faultAsTide_1 := by decide +kernel
def zchX4_holds_0 : List UInt8 := [27, 155, 0, 21, 27, 42, 180, 0, 15, 162, 0, 13, 27, 16, 60, 162, 0, 7, 4, 167, 0, 4, 3, 172]
theorem zwX4_holds_0 : (cX4_holds.data.toList.drop 0).take 36 = zchX4_holds_0 := by decide +kernel
def zchX4_hourPassesAt_0 : List UInt8 := [42, 27, 182, 0, 34, 153, 0, 18, 42, 180, 0, 9, 27, 46, 16, 46, 160, 0, 7, 4, 167, 0, 4, 3, 172]
theorem zwX4_hourPassesAt_0 : (cX4_hourPassesAt.data.toList.drop 0).take 36 = zchX4_hourPassesAt_0 := by decide +kernel
def zchX4_shipAt_0 : List UInt8 := [42, 27, 182, 0, 34, 153, 0, 31, 42, 180, 0, 9, 27, 46, 16, 65, 16, 70, 184, 0, 19, 153, 0, 15, 42, 180, 0, 9, 27, 46, 16, 65, 100, 167, 0, 5]
theorem zwX4_shipAt_0 : (cX4_shipAt.data.toList.drop 0).take 36 = zchX4_shipAt_0 := by decide +kernel
def zchX4_shipAt_1 : List UInt8 := [100, 167, 0, 5, 16, 250, 172]
theorem zwX4_shipAt_1 : (cX4_shipAt.data.toList.drop 32).take 36 = zchX4_shipAt_1 := by decide +kernel
def zchX4_sideAt_0 : List UInt8 := [42, 27, 182, 0, 34, 154, 0, 6, 16, 250, 172, 42, 180, 0, 9, 27, 46, 171, 0, 0, 0, 0, 0, 41, 0, 0, 0, 3, 0, 0, 0, 67, 0, 0, 0, 39]
theorem zwX4_sideAt_0 : (cX4_sideAt.data.toList.drop 0).take 36 = zchX4_sideAt_0 := by decide +kernel
def zchX4_sideAt_1 : List UInt8 := [0, 0, 0, 39, 0, 0, 0, 84, 0, 0, 0, 35, 0, 0, 0, 87, 0, 0, 0, 37, 3, 172, 4, 172, 5, 172, 16, 250, 172]
theorem zwX4_sideAt_1 : (cX4_sideAt.data.toList.drop 32).take 36 = zchX4_sideAt_1 := by decide +kernel
def zchX5_become_0 : List UInt8 := [42, 43, 180, 0, 9, 181, 0, 9, 43, 180, 0, 15, 3, 42, 180, 0, 15, 3, 16, 6, 184, 0, 22, 43, 180, 0, 19, 3, 42, 180, 0, 19, 3, 16, 6, 184]
theorem zwX5_become_0 : (cX5_become.data.toList.drop 0).take 36 = zchX5_become_0 := by decide +kernel
def zchX5_become_1 : List UInt8 := [3, 16, 6, 184, 0, 22, 177]
theorem zwX5_become_1 : (cX5_become.data.toList.drop 32).take 36 = zchX5_become_1 := by decide +kernel
def zchX5_namesOnTwo_0 : List UInt8 := [3, 61, 3, 62, 29, 16, 8, 162, 0, 25, 42, 29, 27, 182, 0, 28, 5, 161, 0, 9, 28, 4, 29, 120, 128, 61, 132, 3, 1, 167, 255, 231, 28, 172]
theorem zwX5_namesOnTwo_0 : (cX5_namesOnTwo.data.toList.drop 0).take 36 = zchX5_namesOnTwo_0 := by decide +kernel
def zchX5_namesOnTwo_1 : List UInt8 := [28, 172]
theorem zwX5_namesOnTwo_1 : (cX5_namesOnTwo.data.toList.drop 32).take 36 = zchX5_namesOnTwo_1 := by decide +kernel
def zchX5_rollsWith_0 : List UInt8 := [3, 62, 3, 54, 4, 21, 4, 42, 180, 0, 9, 162, 0, 48, 21, 4, 16, 6, 162, 0, 41, 42, 180, 0, 15, 21, 4, 46, 27, 122, 4, 126, 4, 159, 0, 17]
theorem zwX5_rollsWith_0 : (cX5_rollsWith.data.toList.drop 0).take 36 = zchX5_rollsWith_0 := by decide +kernel
def zchX5_rollsWith_1 : List UInt8 := [4, 159, 0, 17, 28, 153, 0, 16, 42, 180, 0, 19, 21, 4, 46, 158, 0, 6, 132, 3, 1, 132, 4, 1, 167, 255, 205, 29, 172]
theorem zwX5_rollsWith_1 : (cX5_rollsWith.data.toList.drop 32).take 36 = zchX5_rollsWith_1 := by decide +kernel
def zchX6_become_0 : List UInt8 := [42, 43, 180, 0, 9, 181, 0, 9, 43, 180, 0, 15, 3, 42, 180, 0, 15, 3, 16, 6, 184, 0, 48, 43, 180, 0, 19, 3, 42, 180, 0, 19, 3, 16, 6, 184]
theorem zwX6_become_0 : (cX6_become.data.toList.drop 0).take 36 = zchX6_become_0 := by decide +kernel
def zchX6_become_1 : List UInt8 := [3, 16, 6, 184, 0, 48, 43, 180, 0, 22, 3, 42, 180, 0, 22, 3, 16, 6, 184, 0, 48, 43, 180, 0, 25, 3, 42, 180, 0, 25, 3, 16, 6, 184, 0, 48]
theorem zwX6_become_1 : (cX6_become.data.toList.drop 32).take 36 = zchX6_become_1 := by decide +kernel
def zchX6_become_2 : List UInt8 := [6, 184, 0, 48, 43, 180, 0, 36, 3, 42, 180, 0, 36, 3, 16, 8, 184, 0, 48, 43, 180, 0, 39, 3, 42, 180, 0, 39, 3, 16, 24, 184, 0, 48, 42, 43]
theorem zwX6_become_2 : (cX6_become.data.toList.drop 64).take 36 = zchX6_become_2 := by decide +kernel
def zchX6_become_3 : List UInt8 := [0, 48, 42, 43, 180, 0, 42, 181, 0, 42, 43, 180, 0, 45, 3, 42, 180, 0, 45, 3, 6, 184, 0, 48, 177]
theorem zwX6_become_3 : (cX6_become.data.toList.drop 96).take 36 = zchX6_become_3 := by decide +kernel
def zchX6_captainGets_0 : List UInt8 := [28, 154, 0, 25, 16, 10, 42, 42, 180, 0, 19, 27, 46, 42, 27, 182, 0, 77, 100, 21, 4, 182, 0, 115, 104, 172, 42, 42, 180, 0, 19, 27, 46, 21, 4, 182]
theorem zwX6_captainGets_0 : (cX6_captainGets.data.toList.drop 0).take 36 = zchX6_captainGets_0 := by decide +kernel
def zchX6_captainGets_1 : List UInt8 := [46, 21, 4, 182, 0, 115, 54, 5, 28, 4, 160, 0, 17, 16, 10, 42, 29, 182, 0, 92, 100, 21, 5, 104, 167, 0, 15, 16, 10, 21, 5, 42, 180, 0, 36, 6]
theorem zwX6_captainGets_1 : (cX6_captainGets.data.toList.drop 32).take 36 = zchX6_captainGets_1 := by decide +kernel
def zchX6_captainGets_2 : List UInt8 := [180, 0, 36, 6, 46, 100, 104, 172]
theorem zwX6_captainGets_2 : (cX6_captainGets.data.toList.drop 64).take 36 = zchX6_captainGets_2 := by decide +kernel
def zchX6_captainsSide_0 : List UInt8 := [3, 54, 4, 4, 54, 5, 21, 5, 6, 162, 0, 34, 42, 27, 21, 5, 28, 29, 182, 0, 111, 42, 27, 21, 4, 28, 29, 182, 0, 111, 164, 0, 7, 21, 5, 54]
theorem zwX6_captainsSide_0 : (cX6_captainsSide.data.toList.drop 0).take 36 = zchX6_captainsSide_0 := by decide +kernel
def zchX6_captainsSide_1 : List UInt8 := [7, 21, 5, 54, 4, 132, 5, 1, 167, 255, 222, 21, 4, 172]
theorem zwX6_captainsSide_1 : (cX6_captainsSide.data.toList.drop 32).take 36 = zchX6_captainsSide_1 := by decide +kernel
def zchX6_digitAt_0 : List UInt8 := [27, 155, 0, 16, 42, 180, 0, 42, 4, 16, 24, 184, 0, 54, 154, 0, 5, 3, 172, 42, 180, 0, 39, 27, 42, 180, 0, 42, 112, 46, 172]
theorem zwX6_digitAt_0 : (cX6_digitAt.data.toList.drop 0).take 36 = zchX6_digitAt_0 := by decide +kernel
def zchX6_fare_0 : List UInt8 := [42, 180, 0, 36, 5, 46, 42, 180, 0, 36, 6, 46, 104, 42, 180, 0, 19, 27, 46, 104, 172]
theorem zwX6_fare_0 : (cX6_fare.data.toList.drop 0).take 36 = zchX6_fare_0 := by decide +kernel
def zchX6_has_0 : List UInt8 := [27, 3, 8, 184, 0, 54, 153, 0, 19, 42, 180, 0, 9, 27, 122, 4, 126, 4, 160, 0, 7, 4, 167, 0, 4, 3, 172]
theorem zwX6_has_0 : (cX6_has.data.toList.drop 0).take 36 = zchX6_has_0 := by decide +kernel
def zchX6_leastMean_0 : List UInt8 := [42, 27, 42, 27, 28, 182, 0, 108, 28, 182, 0, 104, 172]
theorem zwX6_leastMean_0 : (cX6_leastMean.data.toList.drop 0).take 36 = zchX6_leastMean_0 := by decide +kernel
def zchX6_look_0 : List UInt8 := [28, 154, 0, 10, 42, 180, 0, 15, 27, 46, 172, 28, 4, 160, 0, 12, 42, 180, 0, 19, 27, 46, 167, 0, 9, 42, 180, 0, 22, 27, 46, 172]
theorem zwX6_look_0 : (cX6_look.data.toList.drop 0).take 36 = zchX6_look_0 := by decide +kernel
def zchX6_lose_0 : List UInt8 := [42, 180, 0, 45, 3, 92, 46, 42, 180, 0, 19, 27, 46, 96, 79, 42, 180, 0, 45, 4, 92, 46, 42, 180, 0, 25, 27, 46, 96, 79, 42, 180, 0, 15, 27, 5]
theorem zwX6_lose_0 : (cX6_lose.data.toList.drop 0).take 36 = zchX6_lose_0 := by decide +kernel
def zchX6_lose_1 : List UInt8 := [0, 15, 27, 5, 79, 42, 180, 0, 19, 27, 3, 79, 42, 180, 0, 22, 27, 3, 79, 42, 180, 0, 25, 27, 3, 79, 177]
theorem zwX6_lose_1 : (cX6_lose.data.toList.drop 32).take 36 = zchX6_lose_1 := by decide +kernel
def zchX6_lostToTeeth_0 : List UInt8 := [42, 27, 182, 0, 77, 61, 42, 180, 0, 36, 4, 46, 28, 104, 28, 42, 180, 0, 19, 27, 46, 160, 0, 12, 42, 180, 0, 25, 27, 46, 167, 0, 4, 3, 96, 172]
theorem zwX6_lostToTeeth_0 : (cX6_lostToTeeth.data.toList.drop 0).take 36 = zchX6_lostToTeeth_0 := by decide +kernel
def zchX6_lostToTeeth_1 : List UInt8 := [4, 3, 96, 172]
theorem zwX6_lostToTeeth_1 : (cX6_lostToTeeth.data.toList.drop 32).take 36 = zchX6_lostToTeeth_1 := by decide +kernel
def zchX6_meanBy_0 : List UInt8 := [28, 4, 160, 0, 15, 42, 29, 182, 0, 92, 42, 27, 182, 0, 98, 104, 172, 16, 10, 28, 154, 0, 11, 42, 27, 182, 0, 101, 167, 0, 8, 42, 27, 182, 0, 73]
theorem zwX6_meanBy_0 : (cX6_meanBy.data.toList.drop 0).take 36 = zchX6_meanBy_0 := by decide +kernel
def zchX6_meanBy_1 : List UInt8 := [27, 182, 0, 73, 104, 172]
theorem zwX6_meanBy_1 : (cX6_meanBy.data.toList.drop 32).take 36 = zchX6_meanBy_1 := by decide +kernel
def zchX6_menToTeeth_0 : List UInt8 := [42, 180, 0, 19, 27, 46, 3, 42, 180, 0, 36, 3, 46, 42, 180, 0, 22, 27, 46, 100, 184, 0, 80, 184, 0, 95, 172]
theorem zwX6_menToTeeth_0 : (cX6_menToTeeth.data.toList.drop 0).take 36 = zchX6_menToTeeth_0 := by decide +kernel
def zchX6_moored_0 : List UInt8 := [42, 27, 182, 0, 58, 153, 0, 16, 42, 180, 0, 15, 27, 46, 154, 0, 7, 4, 167, 0, 4, 3, 172]
theorem zwX6_moored_0 : (cX6_moored.data.toList.drop 0).take 36 = zchX6_moored_0 := by decide +kernel
def zchX6_ownersSide_0 : List UInt8 := [3, 62, 4, 54, 4, 21, 4, 6, 162, 0, 30, 42, 27, 21, 4, 28, 182, 0, 104, 42, 27, 29, 28, 182, 0, 104, 162, 0, 6, 21, 4, 62, 132, 4, 1, 167]
theorem zwX6_ownersSide_0 : (cX6_ownersSide.data.toList.drop 0).take 36 = zchX6_ownersSide_0 := by decide +kernel
def zchX6_ownersSide_1 : List UInt8 := [132, 4, 1, 167, 255, 226, 29, 172]
theorem zwX6_ownersSide_1 : (cX6_ownersSide.data.toList.drop 32).take 36 = zchX6_ownersSide_1 := by decide +kernel
def zchX6_rewardFor_0 : List UInt8 := [27, 154, 0, 7, 3, 167, 0, 13, 42, 180, 0, 36, 8, 46, 28, 27, 104, 96, 172]
theorem zwX6_rewardFor_0 : (cX6_rewardFor.data.toList.drop 0).take 36 = zchX6_rewardFor_0 := by decide +kernel
def zchX6_send_0 : List UInt8 := [42, 27, 182, 0, 62, 154, 0, 4, 177, 42, 180, 0, 15, 27, 4, 79, 28, 154, 0, 11, 42, 27, 182, 0, 65, 167, 0, 31, 28, 4, 160, 0, 12, 42, 27, 29]
theorem zwX6_send_0 : (cX6_send.data.toList.drop 0).take 36 = zchX6_send_0 := by decide +kernel
def zchX6_send_1 : List UInt8 := [12, 42, 27, 29, 182, 0, 69, 167, 0, 17, 42, 180, 0, 45, 5, 92, 46, 42, 27, 182, 0, 73, 96, 79, 177]
theorem zwX6_send_1 : (cX6_send.data.toList.drop 32).take 36 = zchX6_send_1 := by decide +kernel
def zchX6_sendByTeeth_0 : List UInt8 := [42, 27, 182, 0, 77, 61, 42, 180, 0, 22, 27, 3, 42, 180, 0, 22, 27, 46, 42, 180, 0, 36, 3, 46, 100, 184, 0, 80, 79, 42, 180, 0, 19, 27, 92, 46]
theorem zwX6_sendByTeeth_0 : (cX6_sendByTeeth.data.toList.drop 0).take 36 = zchX6_sendByTeeth_0 := by decide +kernel
def zchX6_sendByTeeth_1 : List UInt8 := [19, 27, 92, 46, 28, 100, 79, 42, 180, 0, 45, 3, 92, 46, 28, 96, 79, 42, 180, 0, 19, 27, 46, 154, 0, 8, 42, 27, 182, 0, 86, 177]
theorem zwX6_sendByTeeth_1 : (cX6_sendByTeeth.data.toList.drop 32).take 36 = zchX6_sendByTeeth_1 := by decide +kernel
def zchX6_sendByWhirl_0 : List UInt8 := [42, 180, 0, 36, 16, 7, 42, 180, 0, 36, 16, 7, 46, 184, 0, 89, 79, 42, 180, 0, 36, 16, 7, 46, 16, 10, 112, 42, 28, 182, 0, 92, 162, 0, 8, 42]
theorem zwX6_sendByWhirl_0 : (cX6_sendByWhirl.data.toList.drop 0).take 36 = zchX6_sendByWhirl_0 := by decide +kernel
def zchX6_sendByWhirl_1 : List UInt8 := [162, 0, 8, 42, 27, 182, 0, 86, 177]
theorem zwX6_sendByWhirl_1 : (cX6_sendByWhirl.data.toList.drop 32).take 36 = zchX6_sendByWhirl_1 := by decide +kernel
def zchX6_whole_0 : List UInt8 := [42, 180, 0, 36, 4, 46, 42, 180, 0, 19, 27, 46, 104, 42, 180, 0, 25, 27, 46, 96, 172]
theorem zwX6_whole_0 : (cX6_whole.data.toList.drop 0).take 36 = zchX6_whole_0 := by decide +kernel
def zchX6_whyNot_0 : List UInt8 := [42, 27, 182, 0, 58, 154, 0, 5, 4, 172, 42, 27, 182, 0, 62, 153, 0, 8, 16, 250, 167, 0, 4, 5, 172]
theorem zwX6_whyNot_0 : (cX6_whyNot.data.toList.drop 0).take 36 = zchX6_whyNot_0 := by decide +kernel
def zchX6_worstBy_0 : List UInt8 := [28, 4, 160, 0, 21, 42, 29, 182, 0, 92, 158, 0, 11, 42, 27, 182, 0, 98, 167, 0, 4, 3, 172, 28, 154, 0, 11, 42, 27, 182, 0, 101, 167, 0, 8, 42]
theorem zwX6_worstBy_0 : (cX6_worstBy.data.toList.drop 0).take 36 = zchX6_worstBy_0 := by decide +kernel
def zchX6_worstBy_1 : List UInt8 := [167, 0, 8, 42, 27, 182, 0, 73, 172]
theorem zwX6_worstBy_1 : (cX6_worstBy.data.toList.drop 32).take 36 = zchX6_worstBy_1 := by decide +kernel
def zchX7_tryOut_0 : List UInt8 := [42, 180, 0, 12, 44, 182, 0, 25, 42, 3, 181, 0, 18, 42, 16, 250, 181, 0, 22, 3, 62, 3, 54, 4, 21, 4, 43, 180, 0, 29, 162, 0, 84, 43, 21, 4]
theorem zwX7_tryOut_0 : (cX7_tryOut.data.toList.drop 0).take 36 = zchX7_tryOut_0 := by decide +kernel
def zchX7_tryOut_1 : List UInt8 := [84, 43, 21, 4, 182, 0, 34, 153, 0, 9, 132, 3, 1, 167, 0, 53, 43, 21, 4, 182, 0, 38, 54, 5, 42, 42, 180, 0, 12, 21, 5, 182, 0, 42, 181, 0]
theorem zwX7_tryOut_1 : (cX7_tryOut.data.toList.drop 32).take 36 = zchX7_tryOut_1 := by decide +kernel
def zchX7_tryOut_2 : List UInt8 := [0, 42, 181, 0, 22, 42, 180, 0, 22, 16, 250, 159, 0, 4, 177, 132, 4, 1, 42, 180, 0, 12, 21, 5, 43, 21, 4, 182, 0, 45, 29, 182, 0, 48, 42, 89]
theorem zwX7_tryOut_2 : (cX7_tryOut.data.toList.drop 64).take 36 = zchX7_tryOut_2 := by decide +kernel
def zchX7_tryOut_3 : List UInt8 := [0, 48, 42, 89, 180, 0, 18, 4, 96, 181, 0, 18, 132, 4, 1, 167, 255, 169, 177]
theorem zwX7_tryOut_3 : (cX7_tryOut.data.toList.drop 96).take 36 = zchX7_tryOut_3 := by decide +kernel
def zchX8_aboard_0 : List UInt8 := [27, 3, 16, 7, 184, 0, 47, 154, 0, 5, 2, 172, 28, 3, 16, 9, 184, 0, 47, 154, 0, 6, 16, 254, 172, 42, 180, 0, 10, 180, 0, 228, 89, 180, 0, 232]
theorem zwX8_aboard_0 : (cX8_aboard.data.toList.drop 0).take 36 = zchX8_aboard_0 := by decide +kernel
def zchX8_aboard_1 : List UInt8 := [89, 180, 0, 232, 4, 27, 120, 128, 181, 0, 232, 42, 180, 0, 10, 180, 0, 228, 180, 0, 235, 27, 28, 79, 42, 180, 0, 10, 180, 0, 228, 180, 0, 232, 184, 0]
theorem zwX8_aboard_1 : (cX8_aboard.data.toList.drop 32).take 36 = zchX8_aboard_1 := by decide +kernel
def zchX8_aboard_2 : List UInt8 := [0, 232, 184, 0, 73, 172]
theorem zwX8_aboard_2 : (cX8_aboard.data.toList.drop 64).take 36 = zchX8_aboard_2 := by decide +kernel
def zchX8_ashore_0 : List UInt8 := [42, 180, 0, 10, 180, 0, 228, 27, 182, 0, 238, 154, 0, 5, 2, 172, 42, 180, 0, 10, 180, 0, 228, 89, 180, 0, 232, 4, 27, 120, 2, 130, 126, 181, 0, 232]
theorem zwX8_ashore_0 : (cX8_ashore.data.toList.drop 0).take 36 = zchX8_ashore_0 := by decide +kernel
def zchX8_ashore_1 : List UInt8 := [126, 181, 0, 232, 42, 180, 0, 10, 180, 0, 228, 180, 0, 232, 184, 0, 73, 172]
theorem zwX8_ashore_1 : (cX8_ashore.data.toList.drop 32).take 36 = zchX8_ashore_1 := by decide +kernel
def zchX8_behind_0 : List UInt8 := [42, 180, 0, 10, 180, 0, 51, 27, 182, 0, 79, 154, 0, 5, 2, 172, 28, 3, 5, 184, 0, 47, 154, 0, 6, 16, 254, 172, 42, 182, 0, 133, 153, 0, 18, 42]
theorem zwX8_behind_0 : (cX8_behind.data.toList.drop 0).take 36 = zchX8_behind_0 := by decide +kernel
def zchX8_behind_1 : List UInt8 := [153, 0, 18, 42, 180, 0, 36, 180, 0, 137, 27, 28, 182, 0, 130, 167, 0, 5, 16, 251, 172]
theorem zwX8_behind_1 : (cX8_behind.data.toList.drop 32).take 36 = zchX8_behind_1 := by decide +kernel
def zchX8_bound_0 : List UInt8 := [29, 2, 159, 0, 19, 42, 180, 0, 10, 180, 0, 51, 29, 182, 0, 164, 154, 0, 5, 2, 172, 27, 184, 0, 145, 153, 0, 13, 28, 3, 18, 167, 184, 0, 47, 154]
theorem zwX8_bound_0 : (cX8_bound.data.toList.drop 0).take 36 = zchX8_bound_0 := by decide +kernel
def zchX8_bound_1 : List UInt8 := [184, 0, 47, 154, 0, 6, 16, 254, 172, 42, 180, 0, 43, 42, 180, 0, 10, 180, 0, 51, 27, 182, 0, 168, 42, 180, 0, 43, 28, 182, 0, 172, 54, 4, 21, 4]
theorem zwX8_bound_1 : (cX8_bound.data.toList.drop 32).take 36 = zchX8_bound_1 := by decide +kernel
def zchX8_bound_2 : List UInt8 := [54, 4, 21, 4, 16, 250, 160, 0, 6, 16, 250, 172, 29, 2, 160, 0, 15, 42, 180, 0, 43, 21, 4, 182, 0, 175, 167, 0, 13, 42, 180, 0, 43, 21, 4, 29]
theorem zwX8_bound_2 : (cX8_bound.data.toList.drop 64).take 36 = zchX8_bound_2 := by decide +kernel
def zchX8_bound_3 : List UInt8 := [43, 21, 4, 29, 182, 0, 178, 172]
theorem zwX8_bound_3 : (cX8_bound.data.toList.drop 96).take 36 = zchX8_bound_3 := by decide +kernel
def zchX8_burnt_0 : List UInt8 := [42, 180, 0, 10, 180, 1, 1, 76, 10, 65, 3, 54, 4, 21, 4, 43, 180, 1, 5, 162, 0, 42, 21, 4, 16, 6, 162, 0, 35, 32, 16, 8, 43, 180, 1, 8]
theorem zwX8_burnt_0 : (cX8_burnt.data.toList.drop 0).take 36 = zchX8_burnt_0 := by decide +kernel
def zchX8_burnt_1 : List UInt8 := [43, 180, 1, 8, 21, 4, 46, 184, 0, 73, 100, 43, 180, 1, 11, 21, 4, 46, 184, 0, 250, 105, 65, 132, 4, 1, 167, 255, 211, 32, 173]
theorem zwX8_burnt_1 : (cX8_burnt.data.toList.drop 32).take 36 = zchX8_burnt_1 := by decide +kernel
def zchX8_captain_0 : List UInt8 := [42, 27, 28, 182, 0, 155, 62, 29, 153, 0, 7, 29, 167, 0, 28, 42, 180, 0, 10, 180, 0, 51, 27, 28, 42, 180, 0, 10, 180, 0, 51, 180, 0, 89, 16, 6]
theorem zwX8_captain_0 : (cX8_captain.data.toList.drop 0).take 36 = zchX8_captain_0 := by decide +kernel
def zchX8_captain_1 : List UInt8 := [0, 89, 16, 6, 46, 182, 0, 193, 172]
theorem zwX8_captain_1 : (cX8_captain.data.toList.drop 32).take 36 = zchX8_captain_1 := by decide +kernel
def zchX8_choice_0 : List UInt8 := [42, 27, 28, 182, 0, 155, 62, 29, 153, 0, 7, 29, 167, 0, 15, 42, 180, 0, 10, 180, 0, 51, 27, 28, 182, 0, 158, 172]
theorem zwX8_choice_0 : (cX8_choice.data.toList.drop 0).take 36 = zchX8_choice_0 := by decide +kernel
def zchX8_commonDivisor_0 : List UInt8 := [30, 55, 4, 32, 55, 6, 3, 54, 8, 21, 8, 17, 0, 128, 162, 0, 31, 22, 6, 9, 148, 153, 0, 24, 22, 4, 22, 6, 113, 55, 9, 22, 6, 55, 4, 22]
theorem zwX8_commonDivisor_0 : (cX8_commonDivisor.data.toList.drop 0).take 36 = zchX8_commonDivisor_0 := by decide +kernel
def zchX8_commonDivisor_1 : List UInt8 := [6, 55, 4, 22, 9, 55, 6, 132, 8, 1, 167, 255, 223, 22, 4, 173]
theorem zwX8_commonDivisor_1 : (cX8_commonDivisor.data.toList.drop 32).take 36 = zchX8_commonDivisor_1 := by decide +kernel
def zchX8_convoy_0 : List UInt8 := [27, 184, 0, 145, 153, 0, 12, 28, 3, 4, 184, 0, 47, 154, 0, 6, 16, 254, 172, 42, 180, 0, 43, 42, 180, 0, 10, 180, 0, 51, 27, 182, 0, 168, 42, 180]
theorem zwX8_convoy_0 : (cX8_convoy.data.toList.drop 0).take 36 = zchX8_convoy_0 := by decide +kernel
def zchX8_convoy_1 : List UInt8 := [0, 168, 42, 180, 0, 43, 182, 0, 187, 62, 28, 154, 0, 7, 29, 167, 0, 11, 42, 180, 0, 43, 29, 182, 0, 190, 172]
theorem zwX8_convoy_1 : (cX8_convoy.data.toList.drop 32).take 36 = zchX8_convoy_1 := by decide +kernel
def zchX8_done_0 : List UInt8 := [42, 182, 0, 133, 154, 0, 6, 16, 251, 172, 42, 180, 0, 10, 180, 0, 51, 42, 180, 0, 36, 180, 0, 137, 182, 0, 138, 42, 180, 0, 29, 182, 0, 98, 87, 42]
theorem zwX8_done_0 : (cX8_done.data.toList.drop 0).take 36 = zchX8_done_0 := by decide +kernel
def zchX8_done_1 : List UInt8 := [0, 98, 87, 42, 180, 0, 36, 180, 0, 127, 172]
theorem zwX8_done_1 : (cX8_done.data.toList.drop 32).take 36 = zchX8_done_1 := by decide +kernel
def zchX8_drawAfter_0 : List UInt8 := [16, 75, 26, 104, 16, 74, 96, 19, 1, 31, 112, 172]
theorem zwX8_drawAfter_0 : (cX8_drawAfter.data.toList.drop 0).take 36 = zchX8_drawAfter_0 := by decide +kernel
def zchX8_fault_0 : List UInt8 := [27, 3, 4, 184, 0, 47, 154, 0, 6, 16, 254, 172, 27, 154, 0, 13, 42, 180, 0, 29, 182, 0, 102, 167, 0, 10, 42, 180, 0, 29, 182, 0, 105, 172]
theorem zwX8_fault_0 : (cX8_fault.data.toList.drop 0).take 36 = zchX8_fault_0 := by decide +kernel
def zchX8_fault_1 : List UInt8 := [105, 172]
theorem zwX8_fault_1 : (cX8_fault.data.toList.drop 32).take 36 = zchX8_fault_1 := by decide +kernel
def zchX8_forget_0 : List UInt8 := [42, 180, 0, 10, 180, 1, 1, 180, 1, 5, 60, 42, 180, 0, 10, 180, 1, 1, 3, 181, 1, 5, 27, 172]
theorem zwX8_forget_0 : (cX8_forget.data.toList.drop 0).take 36 = zchX8_forget_0 := by decide +kernel
def zchX8_held_0 : List UInt8 := [42, 180, 0, 10, 180, 0, 51, 58, 4, 25, 4, 27, 182, 0, 79, 154, 0, 5, 2, 172, 28, 3, 17, 3, 208, 184, 0, 47, 153, 0, 12, 29, 3, 5, 184, 0]
theorem zwX8_held_0 : (cX8_held.data.toList.drop 0).take 36 = zchX8_held_0 := by decide +kernel
def zchX8_held_1 : List UInt8 := [3, 5, 184, 0, 47, 154, 0, 6, 16, 254, 172, 28, 54, 5, 25, 4, 27, 28, 182, 0, 161, 54, 6, 4, 54, 7, 21, 7, 16, 24, 162, 0, 52, 25, 4, 27]
theorem zwX8_held_1 : (cX8_held.data.toList.drop 32).take 36 = zchX8_held_1 := by decide +kernel
def zchX8_held_2 : List UInt8 := [52, 25, 4, 27, 28, 21, 7, 96, 182, 0, 161, 16, 10, 25, 4, 180, 0, 89, 7, 46, 104, 21, 7, 104, 96, 54, 8, 21, 8, 21, 6, 162, 0, 13, 21, 8]
theorem zwX8_held_2 : (cX8_held.data.toList.drop 64).take 36 = zchX8_held_2 := by decide +kernel
def zchX8_held_3 : List UInt8 := [0, 13, 21, 8, 54, 6, 28, 21, 7, 96, 54, 5, 132, 7, 1, 167, 255, 203, 29, 154, 0, 6, 21, 5, 172, 29, 4, 160, 0, 8, 21, 6, 167, 0, 11, 25]
theorem zwX8_held_3 : (cX8_held.data.toList.drop 96).take 36 = zchX8_held_3 := by decide +kernel
def zchX8_held_4 : List UInt8 := [167, 0, 11, 25, 4, 27, 21, 5, 182, 0, 158, 172]
theorem zwX8_held_4 : (cX8_held.data.toList.drop 128).take 36 = zchX8_held_4 := by decide +kernel
def zchX8_image_0 : List UInt8 := [27, 3, 4, 184, 0, 47, 154, 0, 6, 16, 254, 172, 42, 27, 182, 1, 24, 42, 180, 0, 10, 182, 1, 28, 42, 89, 180, 0, 22, 4, 27, 120, 128, 181, 0, 22]
theorem zwX8_image_0 : (cX8_image.data.toList.drop 0).take 36 = zchX8_image_0 := by decide +kernel
def zchX8_image_1 : List UInt8 := [128, 181, 0, 22, 4, 172]
theorem zwX8_image_1 : (cX8_image.data.toList.drop 32).take 36 = zchX8_image_1 := by decide +kernel
def zchX8_imageBooks_0 : List UInt8 := [27, 154, 0, 10, 42, 180, 0, 16, 167, 0, 7, 42, 180, 0, 19, 176]
theorem zwX8_imageBooks_0 : (cX8_imageBooks.data.toList.drop 0).take 36 = zchX8_imageBooks_0 := by decide +kernel
def zchX8_insured_0 : List UInt8 := [42, 180, 0, 10, 180, 0, 51, 27, 182, 0, 79, 154, 0, 5, 2, 172, 28, 184, 0, 145, 153, 0, 12, 29, 3, 5, 184, 0, 47, 154, 0, 6, 16, 254, 172, 42]
theorem zwX8_insured_0 : (cX8_insured.data.toList.drop 0).take 36 = zchX8_insured_0 := by decide +kernel
def zchX8_insured_1 : List UInt8 := [16, 254, 172, 42, 180, 0, 10, 180, 0, 196, 58, 4, 42, 180, 0, 10, 180, 0, 51, 28, 182, 0, 209, 54, 5, 25, 4, 21, 5, 182, 0, 212, 54, 6, 29, 4]
theorem zwX8_insured_1 : (cX8_insured.data.toList.drop 32).take 36 = zchX8_insured_1 := by decide +kernel
def zchX8_insured_2 : List UInt8 := [54, 6, 29, 4, 160, 0, 6, 21, 6, 172, 25, 4, 21, 6, 182, 0, 215, 54, 7, 25, 4, 21, 6, 182, 0, 218, 54, 8, 42, 180, 0, 10, 180, 0, 51, 27]
theorem zwX8_insured_2 : (cX8_insured.data.toList.drop 64).take 36 = zchX8_insured_2 := by decide +kernel
def zchX8_insured_3 : List UInt8 := [180, 0, 51, 27, 182, 0, 221, 54, 9, 29, 154, 0, 21, 21, 5, 21, 9, 21, 8, 100, 104, 16, 10, 21, 7, 104, 96, 18, 224, 96, 172, 21, 5, 158, 0, 14]
theorem zwX8_insured_3 : (cX8_insured.data.toList.drop 96).take 36 = zchX8_insured_3 := by decide +kernel
def zchX8_insured_4 : List UInt8 := [5, 158, 0, 14, 21, 9, 21, 7, 96, 21, 8, 100, 167, 0, 4, 3, 54, 10, 21, 7, 21, 10, 184, 0, 225, 172]
theorem zwX8_insured_4 : (cX8_insured.data.toList.drop 128).take 36 = zchX8_insured_4 := by decide +kernel
def zchX8_isHour_0 : List UInt8 := [26, 3, 17, 3, 231, 184, 0, 47, 172]
theorem zwX8_isHour_0 : (cX8_isHour.data.toList.drop 0).take 36 = zchX8_isHour_0 := by decide +kernel
def zchX8_judge_0 : List UInt8 := [27, 3, 4, 184, 0, 47, 154, 0, 6, 16, 254, 172, 42, 180, 0, 29, 182, 0, 105, 16, 250, 159, 0, 6, 16, 251, 172, 42, 180, 0, 36, 42, 180, 0, 29, 42]
theorem zwX8_judge_0 : (cX8_judge.data.toList.drop 0).take 36 = zchX8_judge_0 := by decide +kernel
def zchX8_judge_1 : List UInt8 := [180, 0, 29, 42, 180, 0, 10, 180, 0, 51, 182, 0, 120, 42, 180, 0, 36, 180, 0, 124, 16, 250, 159, 0, 8, 27, 4, 160, 0, 13, 42, 180, 0, 36, 180, 0]
theorem zwX8_judge_1 : (cX8_judge.data.toList.drop 32).take 36 = zchX8_judge_1 := by decide +kernel
def zchX8_judge_2 : List UInt8 := [0, 36, 180, 0, 124, 167, 0, 10, 42, 180, 0, 36, 180, 0, 127, 172]
theorem zwX8_judge_2 : (cX8_judge.data.toList.drop 64).take 36 = zchX8_judge_2 := by decide +kernel
def zchX8_line_0 : List UInt8 := [27, 184, 0, 145, 153, 0, 17, 28, 2, 161, 0, 12, 29, 3, 4, 184, 0, 47, 154, 0, 6, 16, 254, 172, 42, 180, 0, 43, 42, 180, 0, 10, 180, 0, 51, 27]
theorem zwX8_line_0 : (cX8_line.data.toList.drop 0).take 36 = zchX8_line_0 := by decide +kernel
def zchX8_line_1 : List UInt8 := [180, 0, 51, 27, 182, 0, 168, 42, 180, 0, 43, 182, 0, 181, 54, 4, 28, 2, 160, 0, 6, 21, 4, 172, 28, 21, 4, 162, 0, 15, 42, 180, 0, 43, 28, 29]
theorem zwX8_line_1 : (cX8_line.data.toList.drop 32).take 36 = zchX8_line_1 := by decide +kernel
def zchX8_line_2 : List UInt8 := [0, 43, 28, 29, 182, 0, 184, 167, 0, 5, 16, 250, 172]
theorem zwX8_line_2 : (cX8_line.data.toList.drop 64).take 36 = zchX8_line_2 := by decide +kernel
def zchX8_lot_0 : List UInt8 := [42, 180, 0, 10, 180, 0, 228, 58, 4, 25, 4, 28, 182, 0, 238, 154, 0, 7, 20, 0, 239, 173, 27, 4, 25, 4, 180, 0, 232, 184, 0, 73, 184, 0, 47, 153]
theorem zwX8_lot_0 : (cX8_lot.data.toList.drop 0).take 36 = zchX8_lot_0 := by decide +kernel
def zchX8_lot_1 : List UInt8 := [184, 0, 47, 153, 0, 12, 29, 3, 4, 184, 0, 47, 154, 0, 7, 20, 0, 241, 173, 25, 4, 25, 4, 180, 0, 235, 28, 46, 25, 4, 180, 0, 235, 28, 46, 182]
theorem zwX8_lot_1 : (cX8_lot.data.toList.drop 32).take 36 = zchX8_lot_1 := by decide +kernel
def zchX8_lot_2 : List UInt8 := [235, 28, 46, 182, 0, 243, 54, 5, 25, 4, 3, 25, 4, 180, 0, 235, 28, 46, 4, 100, 182, 0, 243, 54, 6, 3, 21, 5, 27, 21, 6, 100, 184, 0, 108, 184]
theorem zwX8_lot_2 : (cX8_lot.data.toList.drop 64).take 36 = zchX8_lot_2 := by decide +kernel
def zchX8_lot_3 : List UInt8 := [184, 0, 108, 184, 0, 225, 54, 7, 21, 7, 133, 21, 5, 133, 29, 184, 0, 246, 173]
theorem zwX8_lot_3 : (cX8_lot.data.toList.drop 96).take 36 = zchX8_lot_3 := by decide +kernel
def zchX8_mean_0 : List UInt8 := [42, 180, 0, 10, 180, 0, 51, 27, 182, 0, 79, 154, 0, 5, 2, 172, 28, 3, 5, 184, 0, 47, 153, 0, 10, 29, 184, 0, 145, 154, 0, 6, 16, 254, 172, 42]
theorem zwX8_mean_0 : (cX8_mean.data.toList.drop 0).take 36 = zchX8_mean_0 := by decide +kernel
def zchX8_mean_1 : List UInt8 := [16, 254, 172, 42, 180, 0, 10, 180, 0, 51, 27, 28, 29, 182, 0, 148, 172]
theorem zwX8_mean_1 : (cX8_mean.data.toList.drop 32).take 36 = zchX8_mean_1 := by decide +kernel
def zchX8_noOffers_0 : List UInt8 := [42, 180, 0, 10, 180, 0, 196, 180, 0, 200, 184, 0, 73, 60, 42, 180, 0, 10, 180, 0, 196, 3, 181, 0, 200, 27, 172]
theorem zwX8_noOffers_0 : (cX8_noOffers.data.toList.drop 0).take 36 = zchX8_noOffers_0 := by decide +kernel
def zchX8_offer_0 : List UInt8 := [27, 3, 6, 184, 0, 47, 153, 0, 25, 28, 3, 17, 3, 231, 184, 0, 47, 153, 0, 14, 29, 3, 17, 39, 15, 184, 0, 47, 154, 0, 6, 16, 254, 172, 42, 180]
theorem zwX8_offer_0 : (cX8_offer.data.toList.drop 0).take 36 = zchX8_offer_0 := by decide +kernel
def zchX8_offer_1 : List UInt8 := [254, 172, 42, 180, 0, 10, 180, 0, 196, 58, 4, 25, 4, 89, 180, 0, 200, 4, 27, 120, 128, 181, 0, 200, 25, 4, 180, 0, 203, 27, 28, 79, 25, 4, 180, 0]
theorem zwX8_offer_1 : (cX8_offer.data.toList.drop 32).take 36 = zchX8_offer_1 := by decide +kernel
def zchX8_offer_2 : List UInt8 := [25, 4, 180, 0, 206, 27, 29, 79, 25, 4, 180, 0, 200, 184, 0, 73, 172]
theorem zwX8_offer_2 : (cX8_offer.data.toList.drop 64).take 36 = zchX8_offer_2 := by decide +kernel
def zchX8_often_0 : List UInt8 := [27, 4, 16, 8, 184, 0, 47, 153, 0, 43, 28, 3, 27, 184, 0, 47, 153, 0, 34, 29, 4, 16, 8, 184, 0, 47, 153, 0, 24, 21, 4, 3, 16, 8, 184, 0]
theorem zwX8_often_0 : (cX8_often.data.toList.drop 0).take 36 = zchX8_often_0 := by decide +kernel
def zchX8_often_1 : List UInt8 := [16, 8, 184, 0, 47, 153, 0, 13, 21, 5, 3, 4, 184, 0, 47, 154, 0, 7, 20, 0, 241, 173, 9, 55, 6, 21, 4, 54, 8, 21, 8, 29, 163, 0, 38, 22]
theorem zwX8_often_1 : (cX8_often.data.toList.drop 32).take 36 = zchX8_often_1 := by decide +kernel
def zchX8_often_2 : List UInt8 := [163, 0, 38, 22, 6, 29, 21, 8, 184, 0, 250, 28, 21, 8, 184, 0, 254, 105, 27, 28, 100, 29, 21, 8, 100, 184, 0, 254, 105, 97, 55, 6, 132, 8, 1, 167]
theorem zwX8_often_2 : (cX8_often.data.toList.drop 64).take 36 = zchX8_often_2 := by decide +kernel
def zchX8_often_3 : List UInt8 := [132, 8, 1, 167, 255, 218, 22, 6, 27, 29, 184, 0, 254, 21, 5, 184, 0, 246, 173]
theorem zwX8_often_3 : (cX8_often.data.toList.drop 96).take 36 = zchX8_often_3 := by decide +kernel
def zchX8_partOf_0 : List UInt8 := [30, 32, 184, 1, 32, 55, 5, 22, 5, 10, 148, 156, 0, 5, 9, 173, 21, 4, 154, 0, 7, 30, 167, 0, 4, 32, 22, 5, 109, 173]
theorem zwX8_partOf_0 : (cX8_partOf.data.toList.drop 0).take 36 = zchX8_partOf_0 := by decide +kernel
def zchX8_persuaded_0 : List UInt8 := [42, 27, 28, 182, 0, 155, 62, 29, 153, 0, 5, 29, 172, 42, 180, 0, 10, 180, 0, 51, 27, 28, 182, 0, 158, 54, 4, 178, 0, 83, 16, 6, 46, 54, 5, 21]
theorem zwX8_persuaded_0 : (cX8_persuaded.data.toList.drop 0).take 36 = zchX8_persuaded_0 := by decide +kernel
def zchX8_persuaded_1 : List UInt8 := [46, 54, 5, 21, 5, 178, 0, 86, 16, 6, 46, 163, 0, 31, 42, 180, 0, 10, 180, 0, 51, 27, 28, 21, 5, 182, 0, 193, 21, 4, 160, 0, 6, 21, 5, 172]
theorem zwX8_persuaded_1 : (cX8_persuaded.data.toList.drop 32).take 36 = zchX8_persuaded_1 := by decide +kernel
def zchX8_persuaded_2 : List UInt8 := [6, 21, 5, 172, 132, 5, 1, 167, 255, 220, 16, 250, 172]
theorem zwX8_persuaded_2 : (cX8_persuaded.data.toList.drop 64).take 36 = zchX8_persuaded_2 := by decide +kernel
def zchX8_power_0 : List UInt8 := [10, 65, 3, 54, 4, 21, 4, 27, 162, 0, 14, 32, 26, 133, 105, 65, 132, 4, 1, 167, 255, 242, 32, 173]
theorem zwX8_power_0 : (cX8_power.data.toList.drop 0).take 36 = zchX8_power_0 := by decide +kernel
def zchX8_refusalOf_0 : List UInt8 := [42, 180, 0, 10, 180, 0, 51, 27, 182, 0, 79, 154, 0, 5, 2, 172, 28, 184, 0, 145, 153, 0, 7, 3, 167, 0, 5, 16, 254, 172]
theorem zwX8_refusalOf_0 : (cX8_refusalOf.data.toList.drop 0).take 36 = zchX8_refusalOf_0 := by decide +kernel
def zchX8_restore_0 : List UInt8 := [27, 3, 4, 184, 0, 47, 154, 0, 6, 16, 254, 172, 42, 180, 0, 22, 27, 122, 4, 126, 154, 0, 6, 16, 253, 172, 42, 180, 0, 10, 42, 27, 182, 1, 24, 182]
theorem zwX8_restore_0 : (cX8_restore.data.toList.drop 0).take 36 = zchX8_restore_0 := by decide +kernel
def zchX8_restore_1 : List UInt8 := [182, 1, 24, 182, 1, 28, 4, 172]
theorem zwX8_restore_1 : (cX8_restore.data.toList.drop 32).take 36 = zchX8_restore_1 := by decide +kernel
def zchX8_roll_0 : List UInt8 := [27, 3, 17, 0, 255, 184, 0, 47, 153, 0, 16, 28, 27, 184, 0, 73, 16, 8, 184, 0, 47, 154, 0, 6, 16, 254, 172, 42, 180, 0, 10, 180, 1, 1, 78, 45]
theorem zwX8_roll_0 : (cX8_roll.data.toList.drop 0).take 36 = zchX8_roll_0 := by decide +kernel
def zchX8_roll_1 : List UInt8 := [1, 1, 78, 45, 180, 1, 5, 16, 6, 161, 0, 6, 16, 252, 172, 45, 180, 1, 8, 45, 180, 1, 5, 27, 79, 45, 180, 1, 11, 45, 180, 1, 5, 28, 27, 184]
theorem zwX8_roll_1 : (cX8_roll.data.toList.drop 32).take 36 = zchX8_roll_1 := by decide +kernel
def zchX8_roll_2 : List UInt8 := [5, 28, 27, 184, 0, 73, 100, 79, 45, 89, 180, 1, 5, 4, 96, 181, 1, 5, 45, 180, 1, 5, 172]
theorem zwX8_roll_2 : (cX8_roll.data.toList.drop 64).take 36 = zchX8_roll_2 := by decide +kernel
def zchX8_say_0 : List UInt8 := [27, 16, 33, 16, 126, 184, 0, 47, 154, 0, 6, 16, 254, 172, 42, 180, 0, 29, 180, 0, 92, 16, 60, 161, 0, 6, 16, 252, 172, 42, 180, 0, 29, 180, 0, 95]
theorem zwX8_say_0 : (cX8_say.data.toList.drop 0).take 36 = zchX8_say_0 := by decide +kernel
def zchX8_say_1 : List UInt8 := [29, 180, 0, 95, 42, 180, 0, 29, 180, 0, 92, 27, 79, 42, 180, 0, 29, 89, 180, 0, 92, 4, 96, 181, 0, 92, 42, 180, 0, 29, 180, 0, 92, 172]
theorem zwX8_say_1 : (cX8_say.data.toList.drop 32).take 36 = zchX8_say_1 := by decide +kernel
def zchX8_say_2 : List UInt8 := [92, 172]
theorem zwX8_say_2 : (cX8_say.data.toList.drop 64).take 36 = zchX8_say_2 := by decide +kernel
def zchX8_scrap_0 : List UInt8 := [42, 180, 0, 10, 180, 0, 51, 77, 44, 27, 182, 0, 79, 154, 0, 5, 2, 172, 44, 89, 180, 0, 55, 4, 27, 120, 2, 130, 126, 181, 0, 55, 44, 180, 0, 55]
theorem zwX8_scrap_0 : (cX8_scrap.data.toList.drop 0).take 36 = zchX8_scrap_0 := by decide +kernel
def zchX8_scrap_1 : List UInt8 := [44, 180, 0, 55, 184, 0, 73, 172]
theorem zwX8_scrap_1 : (cX8_scrap.data.toList.drop 32).take 36 = zchX8_scrap_1 := by decide +kernel
def zchX8_seasonCanBe_0 : List UInt8 := [42, 180, 0, 29, 182, 0, 105, 16, 250, 159, 0, 5, 3, 172, 42, 180, 0, 36, 42, 180, 0, 29, 42, 180, 0, 10, 180, 0, 51, 182, 0, 120, 42, 180, 0, 36]
theorem zwX8_seasonCanBe_0 : (cX8_seasonCanBe.data.toList.drop 0).take 36 = zchX8_seasonCanBe_0 := by decide +kernel
def zchX8_seasonCanBe_1 : List UInt8 := [42, 180, 0, 36, 180, 0, 124, 16, 250, 160, 0, 7, 4, 167, 0, 4, 3, 172]
theorem zwX8_seasonCanBe_1 : (cX8_seasonCanBe.data.toList.drop 32).take 36 = zchX8_seasonCanBe_1 := by decide +kernel
def zchX8_set_0 : List UInt8 := [27, 3, 16, 7, 184, 0, 47, 153, 0, 20, 28, 178, 0, 83, 27, 46, 178, 0, 86, 27, 46, 184, 0, 47, 154, 0, 6, 16, 254, 172, 42, 180, 0, 10, 180, 0]
theorem zwX8_set_0 : (cX8_set.data.toList.drop 0).take 36 = zchX8_set_0 := by decide +kernel
def zchX8_set_1 : List UInt8 := [0, 10, 180, 0, 51, 180, 0, 89, 27, 46, 62, 42, 180, 0, 10, 180, 0, 51, 180, 0, 89, 27, 28, 79, 29, 172]
theorem zwX8_set_1 : (cX8_set.data.toList.drop 32).take 36 = zchX8_set_1 := by decide +kernel
def zchX8_ship_0 : List UInt8 := [27, 3, 8, 184, 0, 47, 154, 0, 5, 2, 172, 28, 4, 16, 30, 184, 0, 47, 153, 0, 25, 29, 3, 16, 9, 184, 0, 47, 153, 0, 15, 21, 4, 3, 17, 3]
theorem zwX8_ship_0 : (cX8_ship.data.toList.drop 0).take 36 = zchX8_ship_0 := by decide +kernel
def zchX8_ship_1 : List UInt8 := [4, 3, 17, 3, 231, 184, 0, 47, 154, 0, 6, 16, 254, 172, 42, 180, 0, 10, 180, 0, 51, 58, 5, 25, 5, 89, 180, 0, 55, 4, 27, 120, 128, 181, 0, 55]
theorem zwX8_ship_1 : (cX8_ship.data.toList.drop 32).take 36 = zchX8_ship_1 := by decide +kernel
def zchX8_ship_2 : List UInt8 := [128, 181, 0, 55, 25, 5, 180, 0, 60, 27, 3, 79, 25, 5, 180, 0, 64, 27, 28, 79, 25, 5, 180, 0, 67, 27, 29, 79, 25, 5, 180, 0, 70, 27, 21, 4]
theorem zwX8_ship_2 : (cX8_ship.data.toList.drop 64).take 36 = zchX8_ship_2 := by decide +kernel
def zchX8_ship_3 : List UInt8 := [70, 27, 21, 4, 79, 25, 5, 180, 0, 55, 184, 0, 73, 172]
theorem zwX8_ship_3 : (cX8_ship.data.toList.drop 96).take 36 = zchX8_ship_3 := by decide +kernel
def zchX8_state_0 : List UInt8 := [42, 180, 0, 10, 180, 0, 51, 27, 182, 0, 79, 154, 0, 5, 2, 172, 28, 3, 5, 184, 0, 47, 154, 0, 6, 16, 254, 172, 42, 180, 0, 10, 180, 0, 51, 27]
theorem zwX8_state_0 : (cX8_state.data.toList.drop 0).take 36 = zchX8_state_0 := by decide +kernel
def zchX8_state_1 : List UInt8 := [180, 0, 51, 27, 28, 182, 0, 130, 172]
theorem zwX8_state_1 : (cX8_state.data.toList.drop 32).take 36 = zchX8_state_1 := by decide +kernel
def zchX8_sum_0 : List UInt8 := [27, 3, 5, 184, 0, 47, 153, 0, 18, 42, 180, 0, 10, 180, 0, 51, 180, 0, 142, 27, 46, 167, 0, 5, 16, 254, 172]
theorem zwX8_sum_0 : (cX8_sum.data.toList.drop 0).take 36 = zchX8_sum_0 := by decide +kernel
def zchX8_tide_0 : List UInt8 := [42, 180, 0, 29, 182, 0, 102, 16, 250, 159, 0, 6, 16, 251, 172, 42, 180, 0, 10, 180, 0, 51, 76, 43, 42, 180, 0, 29, 180, 0, 92, 16, 24, 184, 0, 108]
theorem zwX8_tide_0 : (cX8_tide.data.toList.drop 0).take 36 = zchX8_tide_0 := by decide +kernel
def zchX8_tide_1 : List UInt8 := [24, 184, 0, 108, 181, 0, 114, 3, 61, 28, 43, 180, 0, 114, 162, 0, 27, 43, 180, 0, 117, 28, 42, 180, 0, 29, 180, 0, 95, 28, 46, 16, 48, 100, 79, 132]
theorem zwX8_tide_1 : (cX8_tide.data.toList.drop 32).take 36 = zchX8_tide_1 := by decide +kernel
def zchX8_tide_2 : List UInt8 := [48, 100, 79, 132, 2, 1, 167, 255, 227, 42, 180, 0, 29, 182, 0, 98, 172]
theorem zwX8_tide_2 : (cX8_tide.data.toList.drop 64).take 36 = zchX8_tide_2 := by decide +kernel
def zchX8_told_0 : List UInt8 := [27, 5, 16, 9, 184, 0, 47, 153, 0, 18, 42, 180, 0, 10, 180, 0, 51, 180, 0, 89, 27, 5, 100, 46, 172, 27, 16, 20, 16, 27, 184, 0, 47, 153, 0, 41]
theorem zwX8_told_0 : (cX8_told.data.toList.drop 0).take 36 = zchX8_told_0 := by decide +kernel
def zchX8_told_1 : List UInt8 := [47, 153, 0, 41, 42, 180, 0, 10, 180, 0, 228, 27, 16, 20, 100, 182, 0, 238, 153, 0, 21, 42, 180, 0, 10, 180, 0, 228, 180, 0, 235, 27, 16, 20, 100, 46]
theorem zwX8_told_1 : (cX8_told.data.toList.drop 32).take 36 = zchX8_told_1 := by decide +kernel
def zchX8_told_2 : List UInt8 := [16, 20, 100, 46, 167, 0, 5, 16, 254, 172, 27, 16, 30, 16, 35, 184, 0, 47, 153, 0, 41, 42, 180, 0, 10, 180, 0, 51, 27, 16, 30, 100, 182, 0, 79, 153]
theorem zwX8_told_2 : (cX8_told.data.toList.drop 64).take 36 = zchX8_told_2 := by decide +kernel
def zchX8_told_3 : List UInt8 := [182, 0, 79, 153, 0, 21, 42, 180, 0, 10, 180, 0, 51, 180, 0, 70, 27, 16, 30, 100, 46, 167, 0, 5, 16, 254, 172, 27, 16, 100, 16, 123, 184, 0, 47, 153]
theorem zwX8_told_3 : (cX8_told.data.toList.drop 96).take 36 = zchX8_told_3 := by decide +kernel
def zchX8_told_4 : List UInt8 := [184, 0, 47, 153, 0, 18, 42, 180, 0, 10, 180, 0, 51, 27, 16, 100, 100, 182, 0, 209, 172, 27, 170, 0, 0, 0, 0, 133, 0, 0, 0, 0, 0, 0, 0, 13]
theorem zwX8_told_4 : (cX8_told.data.toList.drop 128).take 36 = zchX8_told_4 := by decide +kernel
def zchX8_told_6 : List UInt8 := [0, 0, 0, 133, 0, 0, 0, 133, 0, 0, 0, 133, 0, 0, 0, 89, 0, 0, 0, 100, 0, 0, 0, 111, 0, 0, 0, 122, 42, 180, 0, 29, 180, 0, 92, 172]
theorem zwX8_told_6 : (cX8_told.data.toList.drop 192).take 36 = zchX8_told_6 := by decide +kernel
def zchX8_told_7 : List UInt8 := [180, 0, 92, 172, 42, 180, 0, 10, 180, 0, 51, 180, 0, 55, 172, 42, 180, 0, 10, 180, 0, 51, 180, 0, 114, 172, 42, 180, 0, 10, 180, 0, 196, 180, 0, 200]
theorem zwX8_told_7 : (cX8_told.data.toList.drop 224).take 36 = zchX8_told_7 := by decide +kernel
def zchX8_told_8 : List UInt8 := [196, 180, 0, 200, 172, 42, 180, 0, 10, 180, 0, 228, 180, 0, 232, 172, 42, 180, 0, 10, 180, 1, 1, 180, 1, 5, 172, 16, 254, 172]
theorem zwX8_told_8 : (cX8_told.data.toList.drop 256).take 36 = zchX8_told_8 := by decide +kernel
def zchX8_twice_0 : List UInt8 := [27, 3, 4, 184, 0, 47, 153, 0, 26, 42, 180, 0, 10, 180, 1, 1, 27, 4, 160, 0, 7, 4, 167, 0, 4, 3, 182, 1, 14, 167, 0, 5, 16, 254, 172]
theorem zwX8_twice_0 : (cX8_twice.data.toList.drop 0).take 36 = zchX8_twice_0 := by decide +kernel
def zchX8_twice_1 : List UInt8 := [16, 254, 172]
theorem zwX8_twice_1 : (cX8_twice.data.toList.drop 32).take 36 = zchX8_twice_1 := by decide +kernel
def zchX8_ways_0 : List UInt8 := [27, 155, 0, 8, 27, 26, 164, 0, 5, 9, 173, 10, 65, 4, 54, 4, 21, 4, 27, 163, 0, 23, 32, 26, 27, 100, 21, 4, 96, 133, 105, 21, 4, 133, 109, 65]
theorem zwX8_ways_0 : (cX8_ways.data.toList.drop 0).take 36 = zchX8_ways_0 := by decide +kernel
def zchX8_ways_1 : List UInt8 := [4, 133, 109, 65, 132, 4, 1, 167, 255, 233, 32, 173]
theorem zwX8_ways_1 : (cX8_ways.data.toList.drop 32).take 36 = zchX8_ways_1 := by decide +kernel
def zchX8_wipe_0 : List UInt8 := [42, 180, 0, 29, 182, 0, 98, 172]
theorem zwX8_wipe_0 : (cX8_wipe.data.toList.drop 0).take 36 = zchX8_wipe_0 := by decide +kernel
def zchX8_within_0 : List UInt8 := [26, 27, 161, 0, 12, 26, 28, 163, 0, 7, 4, 167, 0, 4, 3, 172]
theorem zwX8_within_0 : (cX8_within.data.toList.drop 0).take 36 = zchX8_within_0 := by decide +kernel
def zchX8_worst_0 : List UInt8 := [42, 180, 0, 10, 180, 0, 51, 27, 182, 0, 79, 154, 0, 5, 2, 172, 28, 3, 5, 184, 0, 47, 153, 0, 10, 29, 184, 0, 145, 154, 0, 6, 16, 254, 172, 42]
theorem zwX8_worst_0 : (cX8_worst.data.toList.drop 0).take 36 = zchX8_worst_0 := by decide +kernel
def zchX8_worst_1 : List UInt8 := [16, 254, 172, 42, 180, 0, 10, 180, 0, 51, 27, 28, 29, 182, 0, 152, 172]
theorem zwX8_worst_1 : (cX8_worst.data.toList.drop 32).take 36 = zchX8_worst_1 := by decide +kernel
def zchX8_years_0 : List UInt8 := [42, 180, 0, 10, 180, 0, 51, 58, 5, 25, 5, 27, 182, 0, 79, 154, 0, 5, 2, 172, 28, 3, 17, 39, 15, 184, 0, 47, 153, 0, 23, 29, 4, 16, 99, 184]
theorem zwX8_years_0 : (cX8_years.data.toList.drop 0).take 36 = zchX8_years_0 := by decide +kernel
def zchX8_years_1 : List UInt8 := [4, 16, 99, 184, 0, 47, 153, 0, 13, 21, 4, 3, 5, 184, 0, 47, 154, 0, 6, 16, 254, 172, 21, 4, 4, 160, 0, 12, 29, 25, 5, 27, 182, 1, 18, 104]
theorem zwX8_years_1 : (cX8_years.data.toList.drop 32).take 36 = zchX8_years_1 := by decide +kernel
def zchX8_years_2 : List UInt8 := [182, 1, 18, 104, 172, 28, 54, 6, 3, 54, 7, 3, 54, 8, 21, 8, 29, 162, 0, 40, 21, 6, 184, 1, 21, 54, 6, 21, 6, 16, 24, 108, 16, 10, 112, 25]
theorem zwX8_years_2 : (cX8_years.data.toList.drop 64).take 36 = zchX8_years_2 := by decide +kernel
def zchX8_years_3 : List UInt8 := [16, 10, 112, 25, 5, 21, 6, 16, 24, 112, 182, 0, 209, 162, 0, 6, 132, 7, 1, 132, 8, 1, 167, 255, 216, 21, 4, 5, 160, 0, 8, 21, 7, 167, 0, 12]
theorem zwX8_years_3 : (cX8_years.data.toList.drop 96).take 36 = zchX8_years_3 := by decide +kernel
def zchX8_years_4 : List UInt8 := [7, 167, 0, 12, 21, 7, 25, 5, 27, 182, 0, 221, 104, 172]
theorem zwX8_years_4 : (cX8_years.data.toList.drop 128).take 36 = zchX8_years_4 := by decide +kernel
def zchX9_aboard_0 : List UInt8 := [27, 133, 9, 20, 0, 118, 184, 0, 89, 154, 0, 5, 2, 172, 28, 133, 9, 20, 0, 106, 184, 0, 89, 154, 0, 6, 16, 254, 172, 42, 180, 0, 31, 27, 28, 79]
theorem zwX9_aboard_0 : (cX9_aboard.data.toList.drop 0).take 36 = zchX9_aboard_0 := by decide +kernel
def zchX9_aboard_1 : List UInt8 := [31, 27, 28, 79, 42, 89, 180, 1, 16, 4, 27, 120, 128, 181, 1, 16, 42, 180, 1, 16, 184, 0, 108, 172]
theorem zwX9_aboard_1 : (cX9_aboard.data.toList.drop 32).take 36 = zchX9_aboard_1 := by decide +kernel
def zchX9_allOf_0 : List UInt8 := [42, 180, 0, 66, 42, 180, 0, 7, 27, 46, 104, 42, 180, 0, 16, 27, 46, 96, 172]
theorem zwX9_allOf_0 : (cX9_allOf.data.toList.drop 0).take 36 = zchX9_allOf_0 := by decide +kernel
def zchX9_ashore_0 : List UInt8 := [42, 27, 182, 1, 19, 154, 0, 5, 2, 172, 42, 89, 180, 1, 16, 4, 27, 120, 2, 130, 126, 181, 1, 16, 42, 180, 1, 16, 184, 0, 108, 172]
theorem zwX9_ashore_0 : (cX9_ashore.data.toList.drop 0).take 36 = zchX9_ashore_0 := by decide +kernel
def zchX9_behind_0 : List UInt8 := [42, 27, 182, 0, 112, 154, 0, 5, 2, 172, 28, 133, 9, 20, 0, 102, 184, 0, 89, 154, 0, 6, 16, 254, 172, 42, 182, 0, 145, 155, 0, 6, 16, 251, 172, 42]
theorem zwX9_behind_0 : (cX9_behind.data.toList.drop 0).take 36 = zchX9_behind_0 := by decide +kernel
def zchX9_behind_1 : List UInt8 := [16, 251, 172, 42, 182, 0, 193, 42, 182, 0, 196, 42, 27, 28, 182, 0, 202, 62, 42, 182, 0, 199, 42, 180, 0, 175, 155, 0, 8, 16, 251, 167, 0, 4, 29, 172]
theorem zwX9_behind_1 : (cX9_behind.data.toList.drop 32).take 36 = zchX9_behind_1 := by decide +kernel
def zchX9_behind_2 : List UInt8 := [0, 4, 29, 172]
theorem zwX9_behind_2 : (cX9_behind.data.toList.drop 64).take 36 = zchX9_behind_2 := by decide +kernel
def zchX9_behindIt_0 : List UInt8 := [4, 61, 27, 4, 96, 62, 29, 16, 6, 162, 0, 25, 28, 42, 29, 182, 0, 234, 153, 0, 7, 6, 167, 0, 4, 4, 104, 61, 132, 3, 1, 167, 255, 231, 28, 172]
theorem zwX9_behindIt_0 : (cX9_behindIt.data.toList.drop 0).take 36 = zchX9_behindIt_0 := by decide +kernel
def zchX9_behindIt_1 : List UInt8 := [255, 231, 28, 172]
theorem zwX9_behindIt_1 : (cX9_behindIt.data.toList.drop 32).take 36 = zchX9_behindIt_1 := by decide +kernel
def zchX9_bound_0 : List UInt8 := [29, 2, 159, 0, 13, 42, 29, 182, 0, 234, 154, 0, 5, 2, 172, 27, 184, 0, 219, 153, 0, 15, 28, 133, 9, 20, 0, 237, 184, 0, 89, 154, 0, 6, 16, 254]
theorem zwX9_bound_0 : (cX9_bound.data.toList.drop 0).take 36 = zchX9_bound_0 := by decide +kernel
def zchX9_bound_1 : List UInt8 := [0, 6, 16, 254, 172, 42, 27, 182, 0, 239, 16, 250, 54, 4, 3, 54, 5, 21, 5, 42, 180, 0, 231, 162, 0, 63, 42, 180, 0, 49, 21, 5, 46, 28, 163, 0]
theorem zwX9_bound_1 : (cX9_bound.data.toList.drop 32).take 36 = zchX9_bound_1 := by decide +kernel
def zchX9_bound_2 : List UInt8 := [46, 28, 163, 0, 29, 21, 4, 155, 0, 20, 42, 180, 0, 46, 21, 5, 46, 42, 180, 0, 46, 21, 4, 46, 162, 0, 7, 4, 167, 0, 4, 3, 54, 6, 21, 6]
theorem zwX9_bound_2 : (cX9_bound.data.toList.drop 64).take 36 = zchX9_bound_2 := by decide +kernel
def zchX9_bound_3 : List UInt8 := [54, 6, 21, 6, 153, 0, 8, 21, 5, 167, 0, 5, 21, 4, 54, 4, 132, 5, 1, 167, 255, 190, 21, 4, 156, 0, 8, 16, 250, 167, 0, 28, 29, 2, 160, 0]
theorem zwX9_bound_3 : (cX9_bound.data.toList.drop 96).take 36 = zchX9_bound_3 := by decide +kernel
def zchX9_bound_4 : List UInt8 := [29, 2, 160, 0, 13, 42, 180, 0, 46, 21, 4, 46, 167, 0, 13, 21, 4, 42, 29, 182, 0, 242, 108, 6, 112, 172]
theorem zwX9_bound_4 : (cX9_bound.data.toList.drop 128).take 36 = zchX9_bound_4 := by decide +kernel
def zchX9_burnt_0 : List UInt8 := [10, 64, 3, 62, 29, 42, 180, 1, 41, 162, 0, 40, 42, 180, 0, 34, 29, 46, 184, 0, 108, 54, 4, 31, 16, 8, 21, 4, 100, 42, 180, 0, 37, 29, 46, 21]
theorem zwX9_burnt_0 : (cX9_burnt.data.toList.drop 0).take 36 = zchX9_burnt_0 := by decide +kernel
def zchX9_burnt_1 : List UInt8 := [37, 29, 46, 21, 4, 100, 184, 1, 32, 105, 64, 132, 3, 1, 167, 255, 214, 31, 173]
theorem zwX9_burnt_1 : (cX9_burnt.data.toList.drop 32).take 36 = zchX9_burnt_1 := by decide +kernel
def zchX9_captain_0 : List UInt8 := [42, 27, 182, 0, 112, 154, 0, 5, 2, 172, 28, 184, 0, 219, 153, 0, 16, 42, 27, 28, 42, 180, 0, 115, 182, 0, 255, 167, 0, 5, 16, 254, 172]
theorem zwX9_captain_0 : (cX9_captain.data.toList.drop 0).take 36 = zchX9_captain_0 := by decide +kernel
def zchX9_captain_1 : List UInt8 := [172]
theorem zwX9_captain_1 : (cX9_captain.data.toList.drop 32).take 36 = zchX9_captain_1 := by decide +kernel
def zchX9_captainBy_0 : List UInt8 := [3, 54, 4, 4, 54, 5, 21, 5, 6, 162, 0, 39, 42, 27, 21, 5, 28, 29, 182, 0, 251, 42, 27, 21, 4, 28, 29, 182, 0, 251, 164, 0, 8, 21, 5, 167]
theorem zwX9_captainBy_0 : (cX9_captainBy.data.toList.drop 0).take 36 = zchX9_captainBy_0 := by decide +kernel
def zchX9_captainBy_1 : List UInt8 := [8, 21, 5, 167, 0, 5, 21, 4, 54, 4, 132, 5, 1, 167, 255, 217, 21, 4, 172]
theorem zwX9_captainBy_1 : (cX9_captainBy.data.toList.drop 32).take 36 = zchX9_captainBy_1 := by decide +kernel
def zchX9_choice_0 : List UInt8 := [42, 27, 182, 0, 112, 154, 0, 5, 2, 172, 28, 184, 0, 219, 153, 0, 12, 42, 27, 28, 182, 0, 225, 167, 0, 5, 16, 254, 172]
theorem zwX9_choice_0 : (cX9_choice.data.toList.drop 0).take 36 = zchX9_choice_0 := by decide +kernel
def zchX9_choiceOf_0 : List UInt8 := [3, 62, 4, 54, 4, 21, 4, 6, 162, 0, 34, 42, 27, 21, 4, 28, 182, 0, 212, 42, 27, 29, 28, 182, 0, 212, 162, 0, 8, 21, 4, 167, 0, 4, 29, 62]
theorem zwX9_choiceOf_0 : (cX9_choiceOf.data.toList.drop 0).take 36 = zchX9_choiceOf_0 := by decide +kernel
def zchX9_choiceOf_1 : List UInt8 := [0, 4, 29, 62, 132, 4, 1, 167, 255, 222, 29, 172]
theorem zwX9_choiceOf_1 : (cX9_choiceOf.data.toList.drop 32).take 36 = zchX9_choiceOf_1 := by decide +kernel
def zchX9_choose_0 : List UInt8 := [10, 65, 4, 54, 4, 21, 4, 27, 163, 0, 23, 32, 26, 27, 100, 21, 4, 96, 133, 105, 21, 4, 133, 109, 65, 132, 4, 1, 167, 255, 233, 32, 173]
theorem zwX9_choose_0 : (cX9_choose.data.toList.drop 0).take 36 = zchX9_choose_0 := by decide +kernel
def zchX9_choose_1 : List UInt8 := [173]
theorem zwX9_choose_1 : (cX9_choose.data.toList.drop 32).take 36 = zchX9_choose_1 := by decide +kernel
def zchX9_convoy_0 : List UInt8 := [27, 184, 0, 219, 153, 0, 13, 28, 133, 9, 10, 184, 0, 89, 154, 0, 6, 16, 254, 172, 3, 62, 18, 230, 54, 4, 3, 54, 5, 21, 5, 6, 162, 0, 85, 3]
theorem zwX9_convoy_0 : (cX9_convoy.data.toList.drop 0).take 36 = zchX9_convoy_0 := by decide +kernel
def zchX9_convoy_1 : List UInt8 := [162, 0, 85, 3, 54, 6, 3, 54, 7, 21, 7, 16, 6, 162, 0, 36, 21, 6, 42, 21, 7, 182, 0, 234, 153, 0, 15, 42, 21, 7, 21, 5, 27, 182, 0, 212]
theorem zwX9_convoy_1 : (cX9_convoy.data.toList.drop 32).take 36 = zchX9_convoy_1 := by decide +kernel
def zchX9_convoy_2 : List UInt8 := [27, 182, 0, 212, 167, 0, 4, 3, 96, 54, 6, 132, 7, 1, 167, 255, 219, 21, 6, 21, 4, 162, 0, 8, 21, 5, 167, 0, 4, 29, 62, 21, 6, 21, 4, 162]
theorem zwX9_convoy_2 : (cX9_convoy.data.toList.drop 64).take 36 = zchX9_convoy_2 := by decide +kernel
def zchX9_convoy_3 : List UInt8 := [6, 21, 4, 162, 0, 8, 21, 6, 167, 0, 5, 21, 4, 54, 4, 132, 5, 1, 167, 255, 171, 28, 154, 0, 7, 29, 167, 0, 5, 21, 4, 172]
theorem zwX9_convoy_3 : (cX9_convoy.data.toList.drop 96).take 36 = zchX9_convoy_3 := by decide +kernel
def zchX9_done_0 : List UInt8 := [42, 182, 0, 145, 155, 0, 6, 16, 251, 172, 42, 182, 0, 193, 42, 182, 0, 196, 42, 180, 0, 175, 155, 0, 10, 42, 182, 0, 199, 16, 251, 172, 42, 3, 181, 0]
theorem zwX9_done_0 : (cX9_done.data.toList.drop 0).take 36 = zchX9_done_0 := by decide +kernel
def zchX9_done_1 : List UInt8 := [42, 3, 181, 0, 130, 42, 180, 0, 172, 172]
theorem zwX9_done_1 : (cX9_done.data.toList.drop 32).take 36 = zchX9_done_1 := by decide +kernel
def zchX9_fault_0 : List UInt8 := [27, 154, 0, 10, 42, 182, 0, 141, 167, 0, 17, 27, 4, 160, 0, 10, 42, 182, 0, 145, 167, 0, 5, 16, 254, 172]
theorem zwX9_fault_0 : (cX9_fault.data.toList.drop 0).take 36 = zchX9_fault_0 := by decide +kernel
def zchX9_faultOfSeason_0 : List UInt8 := [3, 60, 3, 61, 28, 42, 180, 0, 130, 162, 0, 96, 42, 180, 0, 40, 28, 46, 62, 27, 153, 0, 29, 29, 16, 84, 159, 0, 15, 29, 16, 87, 159, 0, 9, 29]
theorem zwX9_faultOfSeason_0 : (cX9_faultOfSeason.data.toList.drop 0).take 36 = zchX9_faultOfSeason_0 := by decide +kernel
def zchX9_faultOfSeason_1 : List UInt8 := [159, 0, 9, 29, 16, 67, 160, 0, 7, 4, 167, 0, 32, 3, 167, 0, 28, 29, 16, 46, 159, 0, 17, 29, 133, 20, 0, 137, 20, 0, 139, 184, 0, 89, 153, 0]
theorem zwX9_faultOfSeason_1 : (cX9_faultOfSeason.data.toList.drop 32).take 36 = zchX9_faultOfSeason_1 := by decide +kernel
def zchX9_faultOfSeason_2 : List UInt8 := [0, 89, 153, 0, 7, 4, 167, 0, 4, 3, 54, 4, 21, 4, 154, 0, 5, 28, 172, 27, 154, 0, 13, 29, 16, 46, 159, 0, 7, 4, 167, 0, 4, 3, 60, 132]
theorem zwX9_faultOfSeason_2 : (cX9_faultOfSeason.data.toList.drop 64).take 36 = zchX9_faultOfSeason_2 := by decide +kernel
def zchX9_faultOfSeason_3 : List UInt8 := [4, 3, 60, 132, 2, 1, 167, 255, 158, 27, 153, 0, 10, 42, 180, 0, 130, 167, 0, 5, 16, 250, 172]
theorem zwX9_faultOfSeason_3 : (cX9_faultOfSeason.data.toList.drop 96).take 36 = zchX9_faultOfSeason_3 := by decide +kernel
def zchX9_faultOfTide_0 : List UInt8 := [3, 60, 27, 42, 180, 0, 130, 162, 0, 36, 27, 16, 24, 159, 0, 22, 42, 180, 0, 40, 27, 46, 133, 20, 0, 133, 20, 0, 135, 184, 0, 89, 154, 0, 5, 27]
theorem zwX9_faultOfTide_0 : (cX9_faultOfTide.data.toList.drop 0).take 36 = zchX9_faultOfTide_0 := by decide +kernel
def zchX9_faultOfTide_1 : List UInt8 := [154, 0, 5, 27, 172, 132, 1, 1, 167, 255, 218, 42, 180, 0, 130, 154, 0, 7, 3, 167, 0, 5, 16, 250, 172]
theorem zwX9_faultOfTide_1 : (cX9_faultOfTide.data.toList.drop 32).take 36 = zchX9_faultOfTide_1 := by decide +kernel
def zchX9_forget_0 : List UInt8 := [42, 180, 1, 41, 60, 42, 3, 181, 1, 41, 27, 172]
theorem zwX9_forget_0 : (cX9_forget.data.toList.drop 0).take 36 = zchX9_forget_0 := by decide +kernel
def zchX9_gets_0 : List UInt8 := [42, 180, 0, 7, 27, 46, 42, 27, 182, 0, 148, 100, 54, 5, 28, 154, 0, 26, 21, 5, 154, 0, 7, 3, 167, 0, 16, 16, 10, 42, 180, 0, 78, 21, 4, 21]
theorem zwX9_gets_0 : (cX9_gets.data.toList.drop 0).take 36 = zchX9_gets_0 := by decide +kernel
def zchX9_gets_1 : List UInt8 := [78, 21, 4, 21, 5, 104, 96, 104, 172, 42, 180, 0, 78, 21, 4, 42, 180, 0, 7, 27, 46, 104, 96, 54, 6, 28, 4, 160, 0, 30, 16, 10, 42, 29, 182, 0]
theorem zwX9_gets_1 : (cX9_gets.data.toList.drop 32).take 36 = zchX9_gets_1 := by decide +kernel
def zchX9_gets_2 : List UInt8 := [42, 29, 182, 0, 163, 100, 42, 180, 0, 7, 27, 46, 154, 0, 7, 3, 167, 0, 5, 21, 6, 104, 167, 0, 26, 16, 10, 42, 180, 0, 7, 27, 46, 154, 0, 7]
theorem zwX9_gets_2 : (cX9_gets.data.toList.drop 64).take 36 = zchX9_gets_2 := by decide +kernel
def zchX9_gets_3 : List UInt8 := [46, 154, 0, 7, 3, 167, 0, 5, 21, 6, 42, 180, 0, 72, 100, 104, 172]
theorem zwX9_gets_3 : (cX9_gets.data.toList.drop 96).take 36 = zchX9_gets_3 := by decide +kernel
def zchX9_goCape_0 : List UInt8 := [42, 89, 180, 0, 166, 42, 180, 0, 69, 42, 180, 0, 72, 104, 42, 180, 0, 7, 27, 46, 104, 96, 181, 0, 166, 42, 180, 0, 19, 27, 4, 79, 177]
theorem zwX9_goCape_0 : (cX9_goCape.data.toList.drop 0).take 36 = zchX9_goCape_0 := by decide +kernel
def zchX9_goCape_1 : List UInt8 := [177]
theorem zwX9_goCape_1 : (cX9_goCape.data.toList.drop 32).take 36 = zchX9_goCape_1 := by decide +kernel
def zchX9_goSeason_0 : List UInt8 := [42, 16, 250, 181, 0, 175, 42, 16, 250, 181, 0, 169, 42, 3, 181, 0, 172, 3, 60, 3, 61, 28, 42, 180, 0, 130, 162, 0, 68, 42, 180, 0, 175, 156, 0, 61]
theorem zwX9_goSeason_0 : (cX9_goSeason.data.toList.drop 0).take 36 = zchX9_goSeason_0 := by decide +kernel
def zchX9_goSeason_1 : List UInt8 := [175, 156, 0, 61, 42, 180, 0, 40, 28, 46, 16, 46, 160, 0, 9, 132, 1, 1, 167, 0, 28, 42, 42, 180, 0, 40, 28, 46, 16, 65, 100, 42, 180, 0, 40, 28]
theorem zwX9_goSeason_1 : (cX9_goSeason.data.toList.drop 32).take 36 = zchX9_goSeason_1 := by decide +kernel
def zchX9_goSeason_2 : List UInt8 := [180, 0, 40, 28, 4, 96, 46, 27, 182, 0, 189, 132, 2, 1, 42, 89, 180, 0, 172, 4, 96, 181, 0, 172, 132, 2, 1, 167, 255, 186, 177]
theorem zwX9_goSeason_2 : (cX9_goSeason.data.toList.drop 64).take 36 = zchX9_goSeason_2 := by decide +kernel
def zchX9_goTeeth_0 : List UInt8 := [42, 27, 182, 0, 148, 61, 42, 180, 0, 13, 27, 42, 180, 0, 13, 27, 46, 42, 180, 0, 62, 164, 0, 17, 42, 180, 0, 13, 27, 46, 42, 180, 0, 62, 100, 167]
theorem zwX9_goTeeth_0 : (cX9_goTeeth.data.toList.drop 0).take 36 = zchX9_goTeeth_0 := by decide +kernel
def zchX9_goTeeth_1 : List UInt8 := [0, 62, 100, 167, 0, 4, 3, 79, 42, 180, 0, 7, 27, 92, 46, 28, 100, 79, 42, 89, 180, 0, 151, 28, 96, 181, 0, 151, 42, 180, 0, 19, 27, 42, 180, 0]
theorem zwX9_goTeeth_1 : (cX9_goTeeth.data.toList.drop 32).take 36 = zchX9_goTeeth_1 := by decide +kernel
def zchX9_goTeeth_2 : List UInt8 := [27, 42, 180, 0, 7, 27, 46, 154, 0, 7, 5, 167, 0, 4, 4, 79, 42, 89, 180, 0, 154, 42, 180, 0, 7, 27, 46, 154, 0, 12, 42, 180, 0, 16, 27, 46]
theorem zwX9_goTeeth_2 : (cX9_goTeeth.data.toList.drop 64).take 36 = zchX9_goTeeth_2 := by decide +kernel
def zchX9_goTeeth_3 : List UInt8 := [0, 16, 27, 46, 167, 0, 4, 3, 96, 181, 0, 154, 42, 180, 0, 16, 27, 42, 180, 0, 7, 27, 46, 154, 0, 7, 3, 167, 0, 9, 42, 180, 0, 16, 27, 46]
theorem zwX9_goTeeth_3 : (cX9_goTeeth.data.toList.drop 96).take 36 = zchX9_goTeeth_3 := by decide +kernel
def zchX9_goTeeth_4 : List UInt8 := [0, 16, 27, 46, 79, 177]
theorem zwX9_goTeeth_4 : (cX9_goTeeth.data.toList.drop 128).take 36 = zchX9_goTeeth_4 := by decide +kernel
def zchX9_goWhirl_0 : List UInt8 := [42, 20, 0, 157, 42, 180, 0, 81, 133, 105, 20, 0, 159, 97, 20, 0, 161, 113, 136, 181, 0, 81, 42, 180, 0, 81, 16, 10, 112, 42, 28, 182, 0, 163, 162, 0]
theorem zwX9_goWhirl_0 : (cX9_goWhirl.data.toList.drop 0).take 36 = zchX9_goWhirl_0 := by decide +kernel
def zchX9_goWhirl_1 : List UInt8 := [0, 163, 162, 0, 7, 4, 167, 0, 4, 3, 62, 42, 180, 0, 19, 27, 29, 153, 0, 7, 5, 167, 0, 4, 4, 79, 29, 153, 0, 54, 42, 89, 180, 0, 151, 42]
theorem zwX9_goWhirl_1 : (cX9_goWhirl.data.toList.drop 32).take 36 = zchX9_goWhirl_1 := by decide +kernel
def zchX9_goWhirl_2 : List UInt8 := [180, 0, 151, 42, 180, 0, 7, 27, 46, 96, 181, 0, 151, 42, 89, 180, 0, 154, 42, 180, 0, 16, 27, 46, 96, 181, 0, 154, 42, 180, 0, 7, 27, 3, 79, 42]
theorem zwX9_goWhirl_2 : (cX9_goWhirl.data.toList.drop 64).take 36 = zchX9_goWhirl_2 := by decide +kernel
def zchX9_goWhirl_3 : List UInt8 := [27, 3, 79, 42, 180, 0, 13, 27, 3, 79, 42, 180, 0, 16, 27, 3, 79, 177]
theorem zwX9_goWhirl_3 : (cX9_goWhirl.data.toList.drop 96).take 36 = zchX9_goWhirl_3 := by decide +kernel
def zchX9_got_0 : List UInt8 := [3, 61, 3, 62, 29, 7, 162, 0, 31, 28, 27, 29, 122, 4, 126, 4, 160, 0, 12, 42, 180, 0, 28, 29, 46, 167, 0, 4, 3, 96, 61, 132, 3, 1, 167, 255]
theorem zwX9_got_0 : (cX9_got.data.toList.drop 0).take 36 = zchX9_got_0 := by decide +kernel
def zchX9_got_1 : List UInt8 := [3, 1, 167, 255, 226, 28, 172]
theorem zwX9_got_1 : (cX9_got.data.toList.drop 32).take 36 = zchX9_got_1 := by decide +kernel
def zchX9_greatest_0 : List UInt8 := [26, 154, 0, 8, 16, 9, 167, 0, 37, 26, 5, 160, 0, 8, 16, 20, 167, 0, 27, 26, 6, 160, 0, 8, 16, 60, 167, 0, 17, 26, 16, 7, 160, 0, 9, 17]
theorem zwX9_greatest_0 : (cX9_greatest.data.toList.drop 0).take 36 = zchX9_greatest_0 := by decide +kernel
def zchX9_greatest_1 : List UInt8 := [160, 0, 9, 17, 39, 15, 167, 0, 5, 16, 99, 172]
theorem zwX9_greatest_1 : (cX9_greatest.data.toList.drop 32).take 36 = zchX9_greatest_1 := by decide +kernel
def zchX9_held_0 : List UInt8 := [42, 27, 182, 0, 112, 154, 0, 5, 2, 172, 28, 133, 9, 20, 0, 228, 184, 0, 89, 153, 0, 15, 29, 133, 9, 20, 0, 102, 184, 0, 89, 154, 0, 6, 16, 254]
theorem zwX9_held_0 : (cX9_held.data.toList.drop 0).take 36 = zchX9_held_0 := by decide +kernel
def zchX9_held_1 : List UInt8 := [0, 6, 16, 254, 172, 28, 54, 4, 18, 230, 54, 5, 28, 54, 6, 21, 6, 28, 16, 24, 96, 162, 0, 70, 42, 27, 42, 27, 21, 6, 182, 0, 225, 21, 6, 182]
theorem zwX9_held_1 : (cX9_held.data.toList.drop 32).take 36 = zchX9_held_1 := by decide +kernel
def zchX9_held_2 : List UInt8 := [225, 21, 6, 182, 0, 212, 16, 10, 42, 180, 0, 75, 104, 21, 6, 28, 100, 104, 96, 54, 7, 21, 7, 21, 5, 162, 0, 8, 21, 6, 167, 0, 5, 21, 4, 54]
theorem zwX9_held_2 : (cX9_held.data.toList.drop 64).take 36 = zchX9_held_2 := by decide +kernel
def zchX9_held_3 : List UInt8 := [5, 21, 4, 54, 4, 21, 7, 21, 5, 162, 0, 8, 21, 7, 167, 0, 5, 21, 5, 54, 5, 132, 6, 1, 167, 255, 183, 29, 154, 0, 8, 21, 4, 167, 0, 20]
theorem zwX9_held_3 : (cX9_held.data.toList.drop 96).take 36 = zchX9_held_3 := by decide +kernel
def zchX9_held_4 : List UInt8 := [4, 167, 0, 20, 29, 4, 160, 0, 8, 21, 5, 167, 0, 10, 42, 27, 21, 4, 182, 0, 225, 172]
theorem zwX9_held_4 : (cX9_held.data.toList.drop 128).take 36 = zchX9_held_4 := by decide +kernel
def zchX9_image_0 : List UInt8 := [27, 133, 9, 10, 184, 0, 89, 154, 0, 6, 16, 254, 172, 42, 16, 120, 27, 104, 181, 1, 50, 42, 4, 181, 1, 46, 42, 182, 1, 59, 42, 180, 0, 58, 27, 4]
theorem zwX9_image_0 : (cX9_image.data.toList.drop 0).take 36 = zchX9_image_0 := by decide +kernel
def zchX9_image_1 : List UInt8 := [0, 58, 27, 4, 84, 4, 172]
theorem zwX9_image_1 : (cX9_image.data.toList.drop 32).take 36 = zchX9_image_1 := by decide +kernel
def zchX9_in_0 : List UInt8 := [30, 32, 148, 155, 0, 14, 30, 22, 4, 148, 157, 0, 7, 4, 167, 0, 4, 3, 172]
theorem zwX9_in_0 : (cX9_in.data.toList.drop 0).take 36 = zchX9_in_0 := by decide +kernel
def zchX9_insured_0 : List UInt8 := [42, 27, 182, 0, 112, 154, 0, 5, 2, 172, 28, 184, 0, 219, 153, 0, 15, 29, 133, 9, 20, 0, 102, 184, 0, 89, 154, 0, 6, 16, 254, 172, 42, 28, 182, 0]
theorem zwX9_insured_0 : (cX9_insured.data.toList.drop 0).take 36 = zchX9_insured_0 := by decide +kernel
def zchX9_insured_1 : List UInt8 := [42, 28, 182, 0, 163, 54, 4, 3, 54, 5, 18, 230, 54, 6, 3, 54, 7, 21, 7, 16, 16, 162, 0, 90, 21, 4, 42, 27, 182, 0, 209, 42, 21, 7, 182, 1]
theorem zwX9_insured_1 : (cX9_insured.data.toList.drop 32).take 36 = zchX9_insured_1 := by decide +kernel
def zchX9_insured_2 : List UInt8 := [21, 7, 182, 1, 9, 100, 104, 16, 10, 42, 21, 7, 182, 1, 12, 104, 96, 54, 8, 21, 7, 42, 180, 1, 6, 2, 130, 126, 154, 0, 14, 21, 8, 21, 6, 162]
theorem zwX9_insured_2 : (cX9_insured.data.toList.drop 64).take 36 = zchX9_insured_2 := by decide +kernel
def zchX9_insured_3 : List UInt8 := [8, 21, 6, 162, 0, 7, 4, 167, 0, 4, 3, 54, 9, 21, 9, 153, 0, 8, 21, 7, 167, 0, 5, 21, 5, 54, 5, 21, 9, 153, 0, 8, 21, 8, 167, 0]
theorem zwX9_insured_3 : (cX9_insured.data.toList.drop 96).take 36 = zchX9_insured_3 := by decide +kernel
def zchX9_insured_4 : List UInt8 := [21, 8, 167, 0, 5, 21, 6, 54, 6, 132, 7, 1, 167, 255, 165, 29, 5, 162, 0, 19, 29, 154, 0, 12, 21, 6, 19, 1, 15, 96, 167, 0, 5, 21, 5, 172]
theorem zwX9_insured_4 : (cX9_insured.data.toList.drop 128).take 36 = zchX9_insured_4 := by decide +kernel
def zchX9_insured_5 : List UInt8 := [5, 21, 5, 172, 21, 4, 158, 0, 25, 42, 27, 182, 0, 209, 42, 21, 5, 182, 1, 9, 100, 42, 21, 5, 182, 1, 12, 96, 167, 0, 4, 3, 54, 7, 42, 21]
theorem zwX9_insured_5 : (cX9_insured.data.toList.drop 160).take 36 = zchX9_insured_5 := by decide +kernel
def zchX9_insured_6 : List UInt8 := [54, 7, 42, 21, 5, 182, 1, 12, 21, 7, 164, 0, 12, 42, 21, 5, 182, 1, 12, 167, 0, 5, 21, 7, 54, 8, 21, 8, 158, 0, 8, 21, 8, 167, 0, 4]
theorem zwX9_insured_6 : (cX9_insured.data.toList.drop 192).take 36 = zchX9_insured_6 := by decide +kernel
def zchX9_insured_7 : List UInt8 := [8, 167, 0, 4, 3, 172]
theorem zwX9_insured_7 : (cX9_insured.data.toList.drop 224).take 36 = zchX9_insured_7 := by decide +kernel
def zchX9_isAboard_0 : List UInt8 := [27, 133, 9, 20, 0, 118, 184, 0, 89, 153, 0, 19, 42, 180, 1, 16, 27, 122, 4, 126, 4, 160, 0, 7, 4, 167, 0, 4, 3, 172]
theorem zwX9_isAboard_0 : (cX9_isAboard.data.toList.drop 0).take 36 = zchX9_isAboard_0 := by decide +kernel
def zchX9_isHour_0 : List UInt8 := [26, 133, 9, 20, 0, 100, 184, 0, 89, 172]
theorem zwX9_isHour_0 : (cX9_isHour.data.toList.drop 0).take 36 = zchX9_isHour_0 := by decide +kernel
def zchX9_isInHarbour_0 : List UInt8 := [42, 27, 182, 0, 112, 153, 0, 16, 42, 180, 0, 19, 27, 46, 154, 0, 7, 4, 167, 0, 4, 3, 172]
theorem zwX9_isInHarbour_0 : (cX9_isInHarbour.data.toList.drop 0).take 36 = zchX9_isInHarbour_0 := by decide +kernel
def zchX9_isNumber_0 : List UInt8 := [26, 133, 9, 20, 0, 87, 184, 0, 89, 172]
theorem zwX9_isNumber_0 : (cX9_isNumber.data.toList.drop 0).take 36 = zchX9_isNumber_0 := by decide +kernel
def zchX9_isOnLine_0 : List UInt8 := [4, 61, 3, 62, 29, 42, 180, 0, 231, 162, 0, 108, 28, 153, 0, 104, 42, 180, 0, 46, 29, 46, 42, 180, 0, 46, 27, 46, 163, 0, 22, 42, 180, 0, 49, 29]
theorem zwX9_isOnLine_0 : (cX9_isOnLine.data.toList.drop 0).take 36 = zchX9_isOnLine_0 := by decide +kernel
def zchX9_isOnLine_1 : List UInt8 := [180, 0, 49, 29, 46, 42, 180, 0, 49, 27, 46, 163, 0, 7, 4, 167, 0, 4, 3, 54, 4, 42, 180, 0, 46, 29, 46, 42, 180, 0, 46, 27, 46, 161, 0, 18]
theorem zwX9_isOnLine_1 : (cX9_isOnLine.data.toList.drop 32).take 36 = zchX9_isOnLine_1 := by decide +kernel
def zchX9_isOnLine_2 : List UInt8 := [46, 161, 0, 18, 42, 180, 0, 49, 29, 46, 42, 180, 0, 49, 27, 46, 162, 0, 7, 4, 167, 0, 4, 3, 54, 5, 21, 4, 153, 0, 13, 21, 5, 154, 0, 12]
theorem zwX9_isOnLine_2 : (cX9_isOnLine.data.toList.drop 64).take 36 = zchX9_isOnLine_2 := by decide +kernel
def zchX9_isOnLine_3 : List UInt8 := [5, 154, 0, 12, 29, 27, 161, 0, 7, 4, 167, 0, 4, 3, 61, 132, 3, 1, 167, 255, 146, 28, 172]
theorem zwX9_isOnLine_3 : (cX9_isOnLine.data.toList.drop 96).take 36 = zchX9_isOnLine_3 := by decide +kernel
def zchX9_isShip_0 : List UInt8 := [27, 184, 0, 93, 153, 0, 19, 42, 180, 0, 97, 27, 122, 4, 126, 4, 160, 0, 7, 4, 167, 0, 4, 3, 172]
theorem zwX9_isShip_0 : (cX9_isShip.data.toList.drop 0).take 36 = zchX9_isShip_0 := by decide +kernel
def zchX9_isSide_0 : List UInt8 := [26, 133, 9, 20, 0, 102, 184, 0, 89, 172]
theorem zwX9_isSide_0 : (cX9_isSide.data.toList.drop 0).take 36 = zchX9_isSide_0 := by decide +kernel
def zchX9_judge_0 : List UInt8 := [27, 133, 9, 10, 184, 0, 89, 154, 0, 6, 16, 254, 172, 42, 182, 0, 145, 155, 0, 6, 16, 251, 172, 42, 182, 0, 193, 42, 182, 0, 196, 42, 182, 0, 199, 27]
theorem zwX9_judge_0 : (cX9_judge.data.toList.drop 0).take 36 = zchX9_judge_0 := by decide +kernel
def zchX9_judge_1 : List UInt8 := [182, 0, 199, 27, 154, 0, 10, 42, 180, 0, 175, 167, 0, 7, 42, 180, 0, 169, 172]
theorem zwX9_judge_1 : (cX9_judge.data.toList.drop 32).take 36 = zchX9_judge_1 := by decide +kernel
def zchX9_keepNow_0 : List UInt8 := [3, 60, 27, 16, 6, 162, 0, 66, 42, 180, 0, 43, 27, 42, 180, 0, 7, 27, 46, 79, 42, 180, 0, 43, 16, 6, 27, 96, 42, 180, 0, 13, 27, 46, 79, 42]
theorem zwX9_keepNow_0 : (cX9_keepNow.data.toList.drop 0).take 36 = zchX9_keepNow_0 := by decide +kernel
def zchX9_keepNow_1 : List UInt8 := [27, 46, 79, 42, 180, 0, 43, 16, 12, 27, 96, 42, 180, 0, 16, 27, 46, 79, 42, 180, 0, 43, 16, 18, 27, 96, 42, 180, 0, 19, 27, 46, 79, 132, 1, 1]
theorem zwX9_keepNow_1 : (cX9_keepNow.data.toList.drop 32).take 36 = zchX9_keepNow_1 := by decide +kernel
def zchX9_keepNow_2 : List UInt8 := [79, 132, 1, 1, 167, 255, 190, 42, 180, 0, 43, 16, 24, 42, 180, 0, 81, 79, 42, 180, 0, 43, 16, 25, 42, 180, 0, 151, 79, 42, 180, 0, 43, 16, 26, 42]
theorem zwX9_keepNow_2 : (cX9_keepNow.data.toList.drop 64).take 36 = zchX9_keepNow_2 := by decide +kernel
def zchX9_keepNow_3 : List UInt8 := [43, 16, 26, 42, 180, 0, 154, 79, 42, 180, 0, 43, 16, 27, 42, 180, 0, 166, 79, 177]
theorem zwX9_keepNow_3 : (cX9_keepNow.data.toList.drop 96).take 36 = zchX9_keepNow_3 := by decide +kernel
def zchX9_layFleet_0 : List UInt8 := [42, 4, 181, 0, 231, 42, 180, 0, 46, 3, 3, 79, 42, 180, 0, 49, 3, 3, 79, 8, 61, 28, 155, 0, 115, 42, 28, 182, 0, 234, 153, 0, 101, 5, 62, 29]
theorem zwX9_layFleet_0 : (cX9_layFleet.data.toList.drop 0).take 36 = zchX9_layFleet_0 := by decide +kernel
def zchX9_layFleet_1 : List UInt8 := [101, 5, 62, 29, 155, 0, 85, 3, 54, 4, 21, 4, 42, 180, 0, 231, 162, 0, 67, 42, 180, 0, 46, 29, 42, 180, 0, 231, 104, 21, 4, 96, 42, 180, 0, 46]
theorem zwX9_layFleet_1 : (cX9_layFleet.data.toList.drop 32).take 36 = zchX9_layFleet_1 := by decide +kernel
def zchX9_layFleet_2 : List UInt8 := [42, 180, 0, 46, 21, 4, 46, 42, 28, 29, 27, 182, 0, 212, 96, 79, 42, 180, 0, 49, 29, 42, 180, 0, 231, 104, 21, 4, 96, 42, 180, 0, 49, 21, 4, 46]
theorem zwX9_layFleet_2 : (cX9_layFleet.data.toList.drop 64).take 36 = zchX9_layFleet_2 := by decide +kernel
def zchX9_layFleet_3 : List UInt8 := [49, 21, 4, 46, 42, 28, 29, 27, 182, 0, 222, 96, 79, 132, 4, 1, 167, 255, 186, 132, 3, 255, 167, 255, 173, 42, 89, 180, 0, 231, 6, 104, 181, 0, 231, 132]
theorem zwX9_layFleet_3 : (cX9_layFleet.data.toList.drop 96).take 36 = zchX9_layFleet_3 := by decide +kernel
def zchX9_layFleet_4 : List UInt8 := [181, 0, 231, 132, 2, 255, 167, 255, 143, 177]
theorem zwX9_layFleet_4 : (cX9_layFleet.data.toList.drop 128).take 36 = zchX9_layFleet_4 := by decide +kernel
def zchX9_lessThan_0 : List UInt8 := [3, 61, 3, 62, 29, 42, 180, 0, 231, 162, 0, 42, 28, 42, 180, 0, 52, 29, 46, 4, 160, 0, 22, 42, 180, 0, 46, 29, 46, 42, 180, 0, 46, 27, 46, 162]
theorem zwX9_lessThan_0 : (cX9_lessThan.data.toList.drop 0).take 36 = zchX9_lessThan_0 := by decide +kernel
def zchX9_lessThan_1 : List UInt8 := [46, 27, 46, 162, 0, 7, 4, 167, 0, 4, 3, 96, 61, 132, 3, 1, 167, 255, 212, 28, 172]
theorem zwX9_lessThan_1 : (cX9_lessThan.data.toList.drop 32).take 36 = zchX9_lessThan_1 := by decide +kernel
def zchX9_line_0 : List UInt8 := [27, 184, 0, 219, 153, 0, 13, 29, 133, 9, 10, 184, 0, 89, 154, 0, 6, 16, 254, 172, 42, 27, 182, 0, 239, 3, 54, 4, 3, 54, 5, 21, 5, 42, 180, 0]
theorem zwX9_line_0 : (cX9_line.data.toList.drop 0).take 36 = zchX9_line_0 := by decide +kernel
def zchX9_line_1 : List UInt8 := [5, 42, 180, 0, 231, 162, 0, 41, 42, 21, 5, 182, 0, 245, 153, 0, 7, 4, 167, 0, 4, 3, 54, 6, 42, 180, 0, 52, 21, 5, 21, 6, 79, 21, 4, 21]
theorem zwX9_line_1 : (cX9_line.data.toList.drop 32).take 36 = zchX9_line_1 := by decide +kernel
def zchX9_line_2 : List UInt8 := [79, 21, 4, 21, 6, 96, 54, 4, 132, 5, 1, 167, 255, 212, 28, 2, 159, 0, 17, 28, 133, 9, 21, 4, 4, 100, 133, 184, 0, 89, 154, 0, 16, 28, 2, 160]
theorem zwX9_line_2 : (cX9_line.data.toList.drop 64).take 36 = zchX9_line_2 := by decide +kernel
def zchX9_line_3 : List UInt8 := [16, 28, 2, 160, 0, 8, 21, 4, 167, 0, 5, 16, 250, 172, 3, 54, 5, 21, 5, 42, 180, 0, 231, 162, 0, 52, 42, 180, 0, 52, 21, 5, 46, 4, 160, 0]
theorem zwX9_line_3 : (cX9_line.data.toList.drop 96).take 36 = zchX9_line_3 := by decide +kernel
def zchX9_line_4 : List UInt8 := [46, 4, 160, 0, 35, 42, 21, 5, 182, 0, 248, 28, 160, 0, 25, 29, 154, 0, 13, 42, 180, 0, 46, 21, 5, 46, 167, 0, 10, 42, 180, 0, 49, 21, 5, 46]
theorem zwX9_line_4 : (cX9_line.data.toList.drop 128).take 36 = zchX9_line_4 := by decide +kernel
def zchX9_line_5 : List UInt8 := [49, 21, 5, 46, 172, 132, 5, 1, 167, 255, 201, 16, 250, 172]
theorem zwX9_line_5 : (cX9_line.data.toList.drop 160).take 36 = zchX9_line_5 := by decide +kernel
def zchX9_lostByTeeth_0 : List UInt8 := [42, 180, 0, 62, 42, 180, 0, 13, 27, 46, 164, 0, 17, 42, 180, 0, 62, 42, 180, 0, 13, 27, 46, 100, 167, 0, 4, 3, 61, 28, 42, 180, 0, 7, 27, 46]
theorem zwX9_lostByTeeth_0 : (cX9_lostByTeeth.data.toList.drop 0).take 36 = zchX9_lostByTeeth_0 := by decide +kernel
def zchX9_lostByTeeth_1 : List UInt8 := [0, 7, 27, 46, 162, 0, 7, 28, 167, 0, 9, 42, 180, 0, 7, 27, 46, 172]
theorem zwX9_lostByTeeth_1 : (cX9_lostByTeeth.data.toList.drop 32).take 36 = zchX9_lostByTeeth_1 := by decide +kernel
def zchX9_lot_0 : List UInt8 := [42, 28, 182, 1, 19, 154, 0, 7, 20, 1, 22, 173, 27, 133, 10, 42, 180, 1, 16, 184, 0, 108, 133, 184, 0, 89, 153, 0, 13, 29, 133, 9, 10, 184, 0, 89]
theorem zwX9_lot_0 : (cX9_lot.data.toList.drop 0).take 36 = zchX9_lot_0 := by decide +kernel
def zchX9_lot_1 : List UInt8 := [10, 184, 0, 89, 154, 0, 7, 20, 1, 24, 173, 3, 54, 4, 3, 54, 5, 3, 54, 6, 21, 6, 16, 8, 162, 0, 79, 21, 4, 42, 21, 6, 182, 1, 19, 153]
theorem zwX9_lot_1 : (cX9_lot.data.toList.drop 32).take 36 = zchX9_lot_1 := by decide +kernel
def zchX9_lot_2 : List UInt8 := [182, 1, 19, 153, 0, 23, 42, 180, 0, 31, 21, 6, 46, 42, 180, 0, 31, 28, 46, 162, 0, 7, 4, 167, 0, 4, 3, 96, 54, 4, 21, 5, 42, 21, 6, 182]
theorem zwX9_lot_2 : (cX9_lot.data.toList.drop 64).take 36 = zchX9_lot_2 := by decide +kernel
def zchX9_lot_3 : List UInt8 := [42, 21, 6, 182, 1, 19, 153, 0, 23, 42, 180, 0, 31, 21, 6, 46, 42, 180, 0, 31, 28, 46, 160, 0, 7, 4, 167, 0, 4, 3, 96, 54, 5, 132, 6, 1]
theorem zwX9_lot_3 : (cX9_lot.data.toList.drop 96).take 36 = zchX9_lot_3 := by decide +kernel
def zchX9_lot_4 : List UInt8 := [5, 132, 6, 1, 167, 255, 176, 27, 21, 4, 100, 54, 6, 21, 6, 156, 0, 7, 9, 167, 0, 19, 21, 6, 21, 5, 164, 0, 9, 21, 5, 133, 167, 0, 6, 21]
theorem zwX9_lot_4 : (cX9_lot.data.toList.drop 128).take 36 = zchX9_lot_4 := by decide +kernel
def zchX9_lot_5 : List UInt8 := [167, 0, 6, 21, 6, 133, 21, 5, 133, 29, 184, 1, 26, 173]
theorem zwX9_lot_5 : (cX9_lot.data.toList.drop 160).take 36 = zchX9_lot_5 := by decide +kernel
def zchX9_lowest_0 : List UInt8 := [32, 55, 5, 30, 55, 7, 22, 7, 9, 148, 153, 0, 21, 22, 5, 22, 7, 113, 55, 9, 22, 7, 55, 5, 22, 9, 55, 7, 167, 255, 234, 21, 4, 154, 0, 10]
theorem zwX9_lowest_0 : (cX9_lowest.data.toList.drop 0).take 36 = zchX9_lowest_0 := by decide +kernel
def zchX9_lowest_1 : List UInt8 := [4, 154, 0, 10, 30, 22, 5, 109, 167, 0, 7, 32, 22, 5, 109, 173]
theorem zwX9_lowest_1 : (cX9_lowest.data.toList.drop 32).take 36 = zchX9_lowest_1 := by decide +kernel
def zchX9_mean_0 : List UInt8 := [42, 27, 182, 0, 112, 154, 0, 5, 2, 172, 28, 184, 0, 216, 153, 0, 20, 29, 184, 0, 219, 153, 0, 13, 42, 27, 28, 29, 182, 0, 212, 167, 0, 5, 16, 254]
theorem zwX9_mean_0 : (cX9_mean.data.toList.drop 0).take 36 = zchX9_mean_0 := by decide +kernel
def zchX9_mean_1 : List UInt8 := [0, 5, 16, 254, 172]
theorem zwX9_mean_1 : (cX9_mean.data.toList.drop 32).take 36 = zchX9_mean_1 := by decide +kernel
def zchX9_meanOf_0 : List UInt8 := [28, 154, 0, 14, 16, 10, 42, 27, 182, 0, 206, 104, 167, 0, 41, 28, 4, 160, 0, 17, 42, 29, 182, 0, 163, 42, 27, 182, 0, 209, 104, 167, 0, 22, 16, 10]
theorem zwX9_meanOf_0 : (cX9_meanOf.data.toList.drop 0).take 36 = zchX9_meanOf_0 := by decide +kernel
def zchX9_meanOf_1 : List UInt8 := [0, 22, 16, 10, 42, 180, 0, 69, 104, 42, 180, 0, 72, 104, 42, 180, 0, 7, 27, 46, 104, 172]
theorem zwX9_meanOf_1 : (cX9_meanOf.data.toList.drop 32).take 36 = zchX9_meanOf_1 := by decide +kernel
def zchX9_noOffers_0 : List UInt8 := [42, 180, 1, 6, 184, 0, 108, 60, 42, 3, 181, 1, 6, 27, 172]
theorem zwX9_noOffers_0 : (cX9_noOffers.data.toList.drop 0).take 36 = zchX9_noOffers_0 := by decide +kernel
def zchX9_offer_0 : List UInt8 := [27, 133, 9, 20, 1, 2, 184, 0, 89, 153, 0, 27, 28, 133, 9, 20, 0, 100, 184, 0, 89, 153, 0, 15, 29, 133, 9, 20, 1, 4, 184, 0, 89, 154, 0, 6]
theorem zwX9_offer_0 : (cX9_offer.data.toList.drop 0).take 36 = zchX9_offer_0 := by decide +kernel
def zchX9_offer_1 : List UInt8 := [89, 154, 0, 6, 16, 254, 172, 42, 180, 0, 25, 27, 28, 79, 42, 180, 0, 28, 27, 29, 79, 42, 89, 180, 1, 6, 4, 27, 120, 128, 181, 1, 6, 42, 180, 1]
theorem zwX9_offer_1 : (cX9_offer.data.toList.drop 32).take 36 = zchX9_offer_1 := by decide +kernel
def zchX9_offer_2 : List UInt8 := [6, 42, 180, 1, 6, 184, 0, 108, 172]
theorem zwX9_offer_2 : (cX9_offer.data.toList.drop 64).take 36 = zchX9_offer_2 := by decide +kernel
def zchX9_often_0 : List UInt8 := [27, 133, 10, 20, 1, 30, 184, 0, 89, 153, 0, 50, 28, 133, 9, 27, 133, 184, 0, 89, 153, 0, 39, 29, 133, 10, 20, 1, 30, 184, 0, 89, 153, 0, 27, 21]
theorem zwX9_often_0 : (cX9_often.data.toList.drop 0).take 36 = zchX9_often_0 := by decide +kernel
def zchX9_often_1 : List UInt8 := [153, 0, 27, 21, 4, 133, 9, 20, 1, 30, 184, 0, 89, 153, 0, 14, 21, 5, 133, 9, 10, 184, 0, 89, 154, 0, 7, 20, 1, 24, 173, 9, 55, 6, 21, 4]
theorem zwX9_often_1 : (cX9_often.data.toList.drop 32).take 36 = zchX9_often_1 := by decide +kernel
def zchX9_often_2 : List UInt8 := [55, 6, 21, 4, 54, 8, 21, 8, 29, 163, 0, 38, 22, 6, 29, 21, 8, 184, 1, 32, 28, 21, 8, 184, 1, 36, 105, 27, 28, 100, 29, 21, 8, 100, 184, 1]
theorem zwX9_often_2 : (cX9_often.data.toList.drop 64).take 36 = zchX9_often_2 := by decide +kernel
def zchX9_often_3 : List UInt8 := [8, 100, 184, 1, 36, 105, 97, 55, 6, 132, 8, 1, 167, 255, 218, 22, 6, 27, 29, 184, 1, 36, 21, 5, 184, 1, 26, 173]
theorem zwX9_often_3 : (cX9_often.data.toList.drop 96).take 36 = zchX9_often_3 := by decide +kernel
def zchX9_ones_0 : List UInt8 := [3, 60, 26, 61, 28, 153, 0, 15, 132, 1, 1, 28, 28, 4, 100, 126, 61, 167, 255, 243, 27, 172]
theorem zwX9_ones_0 : (cX9_ones.data.toList.drop 0).take 36 = zchX9_ones_0 := by decide +kernel
def zchX9_order_0 : List UInt8 := [42, 42, 27, 182, 0, 112, 154, 0, 7, 4, 167, 0, 18, 42, 180, 0, 19, 27, 46, 153, 0, 7, 5, 167, 0, 5, 16, 250, 181, 0, 169, 42, 180, 0, 169, 158]
theorem zwX9_order_0 : (cX9_order.data.toList.drop 0).take 36 = zchX9_order_0 := by decide +kernel
def zchX9_order_1 : List UInt8 := [180, 0, 169, 158, 0, 14, 42, 42, 180, 0, 172, 181, 0, 175, 167, 0, 37, 28, 16, 84, 160, 0, 11, 42, 27, 182, 0, 178, 167, 0, 23, 28, 16, 87, 160, 0]
theorem zwX9_order_1 : (cX9_order.data.toList.drop 32).take 36 = zchX9_order_1 := by decide +kernel
def zchX9_order_2 : List UInt8 := [16, 87, 160, 0, 12, 42, 27, 29, 182, 0, 182, 167, 0, 8, 42, 27, 182, 0, 186, 177]
theorem zwX9_order_2 : (cX9_order.data.toList.drop 64).take 36 = zchX9_order_2 := by decide +kernel
def zchX9_pass_0 : List UInt8 := [42, 180, 1, 46, 153, 0, 7, 27, 167, 0, 12, 42, 180, 0, 55, 42, 180, 1, 50, 46, 61, 42, 180, 0, 55, 42, 180, 1, 50, 28, 79, 42, 89, 180, 1, 50]
theorem zwX9_pass_0 : (cX9_pass.data.toList.drop 0).take 36 = zchX9_pass_0 := by decide +kernel
def zchX9_pass_1 : List UInt8 := [89, 180, 1, 50, 4, 96, 181, 1, 50, 28, 172]
theorem zwX9_pass_1 : (cX9_pass.data.toList.drop 32).take 36 = zchX9_pass_1 := by decide +kernel
def zchX9_passAll_0 : List UInt8 := [42, 182, 1, 56, 3, 60, 27, 16, 6, 162, 0, 105, 42, 180, 0, 7, 27, 42, 42, 180, 0, 7, 27, 46, 182, 1, 53, 79, 42, 180, 0, 13, 27, 42, 42, 180]
theorem zwX9_passAll_0 : (cX9_passAll.data.toList.drop 0).take 36 = zchX9_passAll_0 := by decide +kernel
def zchX9_passAll_1 : List UInt8 := [27, 42, 42, 180, 0, 13, 27, 46, 182, 1, 53, 79, 42, 180, 0, 16, 27, 42, 42, 180, 0, 16, 27, 46, 182, 1, 53, 79, 42, 180, 0, 19, 27, 42, 42, 180]
theorem zwX9_passAll_1 : (cX9_passAll.data.toList.drop 32).take 36 = zchX9_passAll_1 := by decide +kernel
def zchX9_passAll_2 : List UInt8 := [27, 42, 42, 180, 0, 19, 27, 46, 182, 1, 53, 79, 42, 180, 0, 34, 27, 42, 42, 180, 0, 34, 27, 46, 182, 1, 53, 79, 42, 180, 0, 37, 27, 42, 42, 180]
theorem zwX9_passAll_2 : (cX9_passAll.data.toList.drop 64).take 36 = zchX9_passAll_2 := by decide +kernel
def zchX9_passAll_3 : List UInt8 := [27, 42, 42, 180, 0, 37, 27, 46, 182, 1, 53, 79, 132, 1, 1, 167, 255, 151, 3, 60, 27, 7, 162, 0, 41, 42, 180, 0, 25, 27, 42, 42, 180, 0, 25, 27]
theorem zwX9_passAll_3 : (cX9_passAll.data.toList.drop 96).take 36 = zchX9_passAll_3 := by decide +kernel
def zchX9_passAll_4 : List UInt8 := [180, 0, 25, 27, 46, 182, 1, 53, 79, 42, 180, 0, 28, 27, 42, 42, 180, 0, 28, 27, 46, 182, 1, 53, 79, 132, 1, 1, 167, 255, 216, 3, 60, 27, 16, 8]
theorem zwX9_passAll_4 : (cX9_passAll.data.toList.drop 128).take 36 = zchX9_passAll_4 := by decide +kernel
def zchX9_passAll_5 : List UInt8 := [60, 27, 16, 8, 162, 0, 25, 42, 180, 0, 31, 27, 42, 42, 180, 0, 31, 27, 46, 182, 1, 53, 79, 132, 1, 1, 167, 255, 231, 3, 60, 27, 16, 24, 162, 0]
theorem zwX9_passAll_5 : (cX9_passAll.data.toList.drop 160).take 36 = zchX9_passAll_5 := by decide +kernel
def zchX9_passAll_6 : List UInt8 := [16, 24, 162, 0, 25, 42, 180, 0, 22, 27, 42, 42, 180, 0, 22, 27, 46, 182, 1, 53, 79, 132, 1, 1, 167, 255, 231, 177]
theorem zwX9_passAll_6 : (cX9_passAll.data.toList.drop 192).take 36 = zchX9_passAll_6 := by decide +kernel
def zchX9_passNumbers_0 : List UInt8 := [42, 42, 42, 180, 0, 97, 182, 1, 53, 181, 0, 97, 42, 42, 42, 180, 0, 62, 182, 1, 53, 181, 0, 62, 42, 42, 42, 180, 0, 66, 182, 1, 53, 181, 0, 66]
theorem zwX9_passNumbers_0 : (cX9_passNumbers.data.toList.drop 0).take 36 = zchX9_passNumbers_0 := by decide +kernel
def zchX9_passNumbers_1 : List UInt8 := [53, 181, 0, 66, 42, 42, 42, 180, 0, 69, 182, 1, 53, 181, 0, 69, 42, 42, 42, 180, 0, 72, 182, 1, 53, 181, 0, 72, 42, 42, 42, 180, 0, 75, 182, 1]
theorem zwX9_passNumbers_1 : (cX9_passNumbers.data.toList.drop 32).take 36 = zchX9_passNumbers_1 := by decide +kernel
def zchX9_passNumbers_2 : List UInt8 := [0, 75, 182, 1, 53, 181, 0, 75, 42, 42, 42, 180, 0, 78, 182, 1, 53, 181, 0, 78, 42, 42, 42, 180, 0, 115, 182, 1, 53, 181, 0, 115, 42, 42, 42, 180]
theorem zwX9_passNumbers_2 : (cX9_passNumbers.data.toList.drop 64).take 36 = zchX9_passNumbers_2 := by decide +kernel
def zchX9_passNumbers_3 : List UInt8 := [42, 42, 42, 180, 0, 81, 182, 1, 53, 181, 0, 81, 42, 42, 42, 180, 0, 84, 182, 1, 53, 181, 0, 84, 42, 42, 42, 180, 0, 151, 182, 1, 53, 181, 0, 151]
theorem zwX9_passNumbers_3 : (cX9_passNumbers.data.toList.drop 96).take 36 = zchX9_passNumbers_3 := by decide +kernel
def zchX9_passNumbers_4 : List UInt8 := [53, 181, 0, 151, 42, 42, 42, 180, 0, 154, 182, 1, 53, 181, 0, 154, 42, 42, 42, 180, 0, 166, 182, 1, 53, 181, 0, 166, 42, 42, 42, 180, 1, 6, 182, 1]
theorem zwX9_passNumbers_4 : (cX9_passNumbers.data.toList.drop 128).take 36 = zchX9_passNumbers_4 := by decide +kernel
def zchX9_passNumbers_5 : List UInt8 := [1, 6, 182, 1, 53, 181, 1, 6, 42, 42, 42, 180, 1, 16, 182, 1, 53, 181, 1, 16, 42, 42, 42, 180, 1, 41, 182, 1, 53, 181, 1, 41, 177]
theorem zwX9_passNumbers_5 : (cX9_passNumbers.data.toList.drop 160).take 36 = zchX9_passNumbers_5 := by decide +kernel
def zchX9_passNumbers_6 : List UInt8 := [177]
theorem zwX9_passNumbers_6 : (cX9_passNumbers.data.toList.drop 192).take 36 = zchX9_passNumbers_6 := by decide +kernel
def zchX9_persuaded_0 : List UInt8 := [42, 27, 182, 0, 112, 154, 0, 5, 2, 172, 28, 184, 0, 219, 154, 0, 6, 16, 254, 172, 42, 27, 28, 182, 0, 225, 62, 3, 54, 4, 21, 4, 16, 100, 162, 0]
theorem zwX9_persuaded_0 : (cX9_persuaded.data.toList.drop 0).take 36 = zchX9_persuaded_0 := by decide +kernel
def zchX9_persuaded_1 : List UInt8 := [16, 100, 162, 0, 24, 42, 27, 28, 21, 4, 182, 0, 255, 29, 160, 0, 6, 21, 4, 172, 132, 4, 1, 167, 255, 231, 16, 250, 172]
theorem zwX9_persuaded_1 : (cX9_persuaded.data.toList.drop 32).take 36 = zchX9_persuaded_1 := by decide +kernel
def zchX9_power_0 : List UInt8 := [10, 65, 3, 54, 4, 21, 4, 27, 162, 0, 14, 32, 26, 133, 105, 65, 132, 4, 1, 167, 255, 242, 32, 173]
theorem zwX9_power_0 : (cX9_power.data.toList.drop 0).take 36 = zchX9_power_0 := by decide +kernel
def zchX9_premiums_0 : List UInt8 := [3, 61, 3, 62, 29, 7, 162, 0, 31, 28, 27, 29, 122, 4, 126, 4, 160, 0, 12, 42, 180, 0, 25, 29, 46, 167, 0, 4, 3, 96, 61, 132, 3, 1, 167, 255]
theorem zwX9_premiums_0 : (cX9_premiums.data.toList.drop 0).take 36 = zchX9_premiums_0 := by decide +kernel
def zchX9_premiums_1 : List UInt8 := [3, 1, 167, 255, 226, 28, 172]
theorem zwX9_premiums_1 : (cX9_premiums.data.toList.drop 32).take 36 = zchX9_premiums_1 := by decide +kernel
def zchX9_putBack_0 : List UInt8 := [3, 60, 27, 16, 6, 162, 0, 66, 42, 180, 0, 7, 27, 42, 180, 0, 43, 27, 46, 79, 42, 180, 0, 13, 27, 42, 180, 0, 43, 16, 6, 27, 96, 46, 79, 42]
theorem zwX9_putBack_0 : (cX9_putBack.data.toList.drop 0).take 36 = zchX9_putBack_0 := by decide +kernel
def zchX9_putBack_1 : List UInt8 := [96, 46, 79, 42, 180, 0, 16, 27, 42, 180, 0, 43, 16, 12, 27, 96, 46, 79, 42, 180, 0, 19, 27, 42, 180, 0, 43, 16, 18, 27, 96, 46, 79, 132, 1, 1]
theorem zwX9_putBack_1 : (cX9_putBack.data.toList.drop 32).take 36 = zchX9_putBack_1 := by decide +kernel
def zchX9_putBack_2 : List UInt8 := [79, 132, 1, 1, 167, 255, 190, 42, 42, 180, 0, 43, 16, 24, 46, 181, 0, 81, 42, 42, 180, 0, 43, 16, 25, 46, 181, 0, 151, 42, 42, 180, 0, 43, 16, 26]
theorem zwX9_putBack_2 : (cX9_putBack.data.toList.drop 64).take 36 = zchX9_putBack_2 := by decide +kernel
def zchX9_putBack_3 : List UInt8 := [0, 43, 16, 26, 46, 181, 0, 154, 42, 42, 180, 0, 43, 16, 27, 46, 181, 0, 166, 177]
theorem zwX9_putBack_3 : (cX9_putBack.data.toList.drop 96).take 36 = zchX9_putBack_3 := by decide +kernel
def zchX9_restore_0 : List UInt8 := [27, 133, 9, 10, 184, 0, 89, 154, 0, 6, 16, 254, 172, 42, 180, 0, 58, 27, 51, 154, 0, 6, 16, 253, 172, 42, 16, 120, 27, 104, 181, 1, 50, 42, 3, 181]
theorem zwX9_restore_0 : (cX9_restore.data.toList.drop 0).take 36 = zchX9_restore_0 := by decide +kernel
def zchX9_restore_1 : List UInt8 := [50, 42, 3, 181, 1, 46, 42, 182, 1, 59, 4, 172]
theorem zwX9_restore_1 : (cX9_restore.data.toList.drop 32).take 36 = zchX9_restore_1 := by decide +kernel
def zchX9_roll_0 : List UInt8 := [27, 133, 9, 20, 1, 39, 184, 0, 89, 153, 0, 19, 28, 133, 27, 184, 0, 108, 133, 20, 1, 30, 184, 0, 89, 154, 0, 6, 16, 254, 172, 42, 180, 1, 41, 16]
theorem zwX9_roll_0 : (cX9_roll.data.toList.drop 0).take 36 = zchX9_roll_0 := by decide +kernel
def zchX9_roll_1 : List UInt8 := [180, 1, 41, 16, 6, 160, 0, 6, 16, 252, 172, 42, 180, 0, 34, 42, 180, 1, 41, 27, 79, 42, 180, 0, 37, 42, 180, 1, 41, 28, 79, 42, 89, 180, 1, 41]
theorem zwX9_roll_1 : (cX9_roll.data.toList.drop 32).take 36 = zchX9_roll_1 := by decide +kernel
def zchX9_roll_2 : List UInt8 := [89, 180, 1, 41, 4, 96, 181, 1, 41, 42, 180, 1, 41, 172]
theorem zwX9_roll_2 : (cX9_roll.data.toList.drop 64).take 36 = zchX9_roll_2 := by decide +kernel
def zchX9_say_0 : List UInt8 := [27, 133, 20, 0, 126, 20, 0, 128, 184, 0, 89, 154, 0, 6, 16, 254, 172, 42, 180, 0, 130, 16, 60, 160, 0, 6, 16, 252, 172, 42, 180, 0, 40, 42, 180, 0]
theorem zwX9_say_0 : (cX9_say.data.toList.drop 0).take 36 = zchX9_say_0 := by decide +kernel
def zchX9_say_1 : List UInt8 := [40, 42, 180, 0, 130, 27, 79, 42, 89, 180, 0, 130, 4, 96, 181, 0, 130, 42, 180, 0, 130, 172]
theorem zwX9_say_1 : (cX9_say.data.toList.drop 32).take 36 = zchX9_say_1 := by decide +kernel
def zchX9_scrap_0 : List UInt8 := [42, 27, 182, 0, 112, 154, 0, 5, 2, 172, 42, 89, 180, 0, 97, 4, 27, 120, 2, 130, 126, 181, 0, 97, 42, 180, 0, 97, 184, 0, 108, 172]
theorem zwX9_scrap_0 : (cX9_scrap.data.toList.drop 0).take 36 = zchX9_scrap_0 := by decide +kernel
def zchX9_set_0 : List UInt8 := [27, 133, 9, 20, 0, 118, 184, 0, 89, 153, 0, 25, 28, 133, 27, 154, 0, 7, 10, 167, 0, 4, 9, 27, 184, 0, 120, 133, 184, 0, 89, 154, 0, 6, 16, 254]
theorem zwX9_set_0 : (cX9_set.data.toList.drop 0).take 36 = zchX9_set_0 := by decide +kernel
def zchX9_set_1 : List UInt8 := [0, 6, 16, 254, 172, 42, 27, 182, 0, 123, 62, 42, 27, 154, 0, 7, 28, 167, 0, 7, 42, 180, 0, 62, 181, 0, 62, 42, 27, 4, 160, 0, 7, 28, 167, 0]
theorem zwX9_set_1 : (cX9_set.data.toList.drop 32).take 36 = zchX9_set_1 := by decide +kernel
def zchX9_set_2 : List UInt8 := [7, 28, 167, 0, 7, 42, 180, 0, 66, 181, 0, 66, 42, 27, 5, 160, 0, 7, 28, 167, 0, 7, 42, 180, 0, 69, 181, 0, 69, 42, 27, 6, 160, 0, 7, 28]
theorem zwX9_set_2 : (cX9_set.data.toList.drop 64).take 36 = zchX9_set_2 := by decide +kernel
def zchX9_set_3 : List UInt8 := [160, 0, 7, 28, 167, 0, 7, 42, 180, 0, 72, 181, 0, 72, 42, 27, 7, 160, 0, 7, 28, 167, 0, 7, 42, 180, 0, 75, 181, 0, 75, 42, 27, 8, 160, 0]
theorem zwX9_set_3 : (cX9_set.data.toList.drop 96).take 36 = zchX9_set_3 := by decide +kernel
def zchX9_set_4 : List UInt8 := [27, 8, 160, 0, 7, 28, 167, 0, 7, 42, 180, 0, 78, 181, 0, 78, 42, 27, 16, 6, 160, 0, 7, 28, 167, 0, 7, 42, 180, 0, 115, 181, 0, 115, 42, 27]
theorem zwX9_set_4 : (cX9_set.data.toList.drop 128).take 36 = zchX9_set_4 := by decide +kernel
def zchX9_set_5 : List UInt8 := [0, 115, 42, 27, 16, 7, 160, 0, 7, 28, 167, 0, 7, 42, 180, 0, 81, 181, 0, 81, 29, 172]
theorem zwX9_set_5 : (cX9_set.data.toList.drop 160).take 36 = zchX9_set_5 := by decide +kernel
def zchX9_ship_0 : List UInt8 := [27, 184, 0, 93, 154, 0, 5, 2, 172, 28, 133, 10, 20, 0, 104, 184, 0, 89, 153, 0, 28, 29, 133, 9, 20, 0, 106, 184, 0, 89, 153, 0, 16, 21, 4, 133]
theorem zwX9_ship_0 : (cX9_ship.data.toList.drop 0).take 36 = zchX9_ship_0 := by decide +kernel
def zchX9_ship_1 : List UInt8 := [16, 21, 4, 133, 9, 20, 0, 100, 184, 0, 89, 154, 0, 6, 16, 254, 172, 42, 180, 0, 7, 27, 28, 79, 42, 180, 0, 13, 27, 29, 79, 42, 180, 0, 16, 27]
theorem zwX9_ship_1 : (cX9_ship.data.toList.drop 32).take 36 = zchX9_ship_1 := by decide +kernel
def zchX9_ship_2 : List UInt8 := [180, 0, 16, 27, 21, 4, 79, 42, 180, 0, 19, 27, 3, 79, 42, 89, 180, 0, 97, 4, 27, 120, 128, 181, 0, 97, 42, 180, 0, 97, 184, 0, 108, 172]
theorem zwX9_ship_2 : (cX9_ship.data.toList.drop 64).take 36 = zchX9_ship_2 := by decide +kernel
def zchX9_ship_3 : List UInt8 := [108, 172]
theorem zwX9_ship_3 : (cX9_ship.data.toList.drop 96).take 36 = zchX9_ship_3 := by decide +kernel
def zchX9_state_0 : List UInt8 := [42, 27, 182, 0, 112, 154, 0, 5, 2, 172, 28, 133, 9, 20, 0, 102, 184, 0, 89, 153, 0, 12, 42, 27, 28, 182, 0, 202, 167, 0, 5, 16, 254, 172]
theorem zwX9_state_0 : (cX9_state.data.toList.drop 0).take 36 = zchX9_state_0 := by decide +kernel
def zchX9_state_1 : List UInt8 := [254, 172]
theorem zwX9_state_1 : (cX9_state.data.toList.drop 32).take 36 = zchX9_state_1 := by decide +kernel
def zchX9_stateOf_0 : List UInt8 := [28, 154, 0, 12, 42, 180, 0, 19, 27, 46, 167, 0, 23, 28, 4, 160, 0, 12, 42, 180, 0, 7, 27, 46, 167, 0, 9, 42, 180, 0, 13, 27, 46, 172]
theorem zwX9_stateOf_0 : (cX9_stateOf.data.toList.drop 0).take 36 = zchX9_stateOf_0 := by decide +kernel
def zchX9_stateOf_1 : List UInt8 := [46, 172]
theorem zwX9_stateOf_1 : (cX9_stateOf.data.toList.drop 32).take 36 = zchX9_stateOf_1 := by decide +kernel
def zchX9_sum_0 : List UInt8 := [27, 154, 0, 10, 42, 180, 0, 151, 167, 0, 29, 27, 4, 160, 0, 10, 42, 180, 0, 154, 167, 0, 17, 27, 5, 160, 0, 10, 42, 180, 0, 166, 167, 0, 5, 16]
theorem zwX9_sum_0 : (cX9_sum.data.toList.drop 0).take 36 = zchX9_sum_0 := by decide +kernel
def zchX9_sum_1 : List UInt8 := [167, 0, 5, 16, 254, 172]
theorem zwX9_sum_1 : (cX9_sum.data.toList.drop 32).take 36 = zchX9_sum_1 := by decide +kernel
def zchX9_teethTake_0 : List UInt8 := [42, 27, 182, 0, 148, 61, 42, 180, 0, 66, 28, 104, 28, 42, 180, 0, 7, 27, 46, 160, 0, 12, 42, 180, 0, 16, 27, 46, 167, 0, 4, 3, 96, 172]
theorem zwX9_teethTake_0 : (cX9_teethTake.data.toList.drop 0).take 36 = zchX9_teethTake_0 := by decide +kernel
def zchX9_teethTake_1 : List UInt8 := [96, 172]
theorem zwX9_teethTake_1 : (cX9_teethTake.data.toList.drop 32).take 36 = zchX9_teethTake_1 := by decide +kernel
def zchX9_tenths_0 : List UInt8 := [42, 180, 0, 22, 27, 42, 180, 0, 84, 112, 46, 172]
theorem zwX9_tenths_0 : (cX9_tenths.data.toList.drop 0).take 36 = zchX9_tenths_0 := by decide +kernel
def zchX9_tide_0 : List UInt8 := [42, 182, 0, 141, 155, 0, 6, 16, 251, 172, 3, 60, 27, 42, 180, 0, 130, 162, 0, 24, 42, 180, 0, 22, 27, 42, 180, 0, 40, 27, 46, 16, 48, 100, 79, 132]
theorem zwX9_tide_0 : (cX9_tide.data.toList.drop 0).take 36 = zchX9_tide_0 := by decide +kernel
def zchX9_tide_1 : List UInt8 := [48, 100, 79, 132, 1, 1, 167, 255, 230, 42, 42, 180, 0, 130, 181, 0, 84, 42, 3, 181, 0, 130, 42, 180, 0, 84, 172]
theorem zwX9_tide_1 : (cX9_tide.data.toList.drop 32).take 36 = zchX9_tide_1 := by decide +kernel
def zchX9_told_0 : List UInt8 := [27, 133, 20, 0, 102, 20, 0, 106, 184, 0, 89, 153, 0, 11, 42, 27, 5, 100, 182, 0, 123, 172, 27, 133, 20, 1, 62, 20, 1, 64, 184, 0, 89, 153, 0, 29]
theorem zwX9_told_0 : (cX9_told.data.toList.drop 0).take 36 = zchX9_told_0 := by decide +kernel
def zchX9_told_1 : List UInt8 := [89, 153, 0, 29, 42, 27, 16, 20, 100, 182, 1, 19, 153, 0, 15, 42, 180, 0, 31, 27, 16, 20, 100, 46, 167, 0, 5, 16, 254, 172, 27, 133, 20, 0, 104, 20]
theorem zwX9_told_1 : (cX9_told.data.toList.drop 32).take 36 = zchX9_told_1 := by decide +kernel
def zchX9_told_2 : List UInt8 := [20, 0, 104, 20, 1, 66, 184, 0, 89, 153, 0, 29, 42, 27, 16, 30, 100, 182, 0, 112, 153, 0, 15, 42, 180, 0, 16, 27, 16, 30, 100, 46, 167, 0, 5, 16]
theorem zwX9_told_2 : (cX9_told.data.toList.drop 64).take 36 = zchX9_told_2 := by decide +kernel
def zchX9_told_3 : List UInt8 := [167, 0, 5, 16, 254, 172, 27, 133, 20, 1, 68, 20, 1, 70, 184, 0, 89, 153, 0, 14, 42, 27, 16, 100, 100, 182, 0, 163, 167, 0, 8, 42, 27, 182, 1, 72]
theorem zwX9_told_3 : (cX9_told.data.toList.drop 96).take 36 = zchX9_told_3 := by decide +kernel
def zchX9_told_4 : List UInt8 := [27, 182, 1, 72, 172]
theorem zwX9_told_4 : (cX9_told.data.toList.drop 128).take 36 = zchX9_told_4 := by decide +kernel
def zchX9_toldMany_0 : List UInt8 := [27, 154, 0, 10, 42, 180, 0, 130, 167, 0, 69, 27, 4, 160, 0, 10, 42, 180, 0, 97, 167, 0, 57, 27, 16, 10, 160, 0, 10, 42, 180, 0, 84, 167, 0, 44]
theorem zwX9_toldMany_0 : (cX9_toldMany.data.toList.drop 0).take 36 = zchX9_toldMany_0 := by decide +kernel
def zchX9_toldMany_1 : List UInt8 := [84, 167, 0, 44, 27, 16, 11, 160, 0, 10, 42, 180, 1, 6, 167, 0, 31, 27, 16, 12, 160, 0, 10, 42, 180, 1, 16, 167, 0, 18, 27, 16, 13, 160, 0, 10]
theorem zwX9_toldMany_1 : (cX9_toldMany.data.toList.drop 32).take 36 = zchX9_toldMany_1 := by decide +kernel
def zchX9_toldMany_2 : List UInt8 := [13, 160, 0, 10, 42, 180, 1, 41, 167, 0, 5, 16, 254, 172]
theorem zwX9_toldMany_2 : (cX9_toldMany.data.toList.drop 64).take 36 = zchX9_toldMany_2 := by decide +kernel
def zchX9_toldSet_0 : List UInt8 := [27, 170, 0, 0, 0, 0, 0, 78, 0, 0, 0, 0, 0, 0, 0, 6, 0, 0, 0, 43, 0, 0, 0, 48, 0, 0, 0, 53, 0, 0, 0, 58, 0, 0, 0, 63]
theorem zwX9_toldSet_0 : (cX9_toldSet.data.toList.drop 0).take 36 = zchX9_toldSet_0 := by decide +kernel
def zchX9_toldSet_1 : List UInt8 := [0, 0, 0, 63, 0, 0, 0, 68, 0, 0, 0, 73, 42, 180, 0, 62, 172, 42, 180, 0, 66, 172, 42, 180, 0, 69, 172, 42, 180, 0, 72, 172, 42, 180, 0, 75]
theorem zwX9_toldSet_1 : (cX9_toldSet.data.toList.drop 32).take 36 = zchX9_toldSet_1 := by decide +kernel
def zchX9_toldSet_2 : List UInt8 := [42, 180, 0, 75, 172, 42, 180, 0, 78, 172, 42, 180, 0, 115, 172, 42, 180, 0, 81, 172]
theorem zwX9_toldSet_2 : (cX9_toldSet.data.toList.drop 64).take 36 = zchX9_toldSet_2 := by decide +kernel
def zchX9_twice_0 : List UInt8 := [27, 133, 9, 10, 184, 0, 89, 154, 0, 6, 16, 254, 172, 3, 61, 3, 62, 29, 16, 8, 162, 0, 120, 3, 54, 4, 3, 54, 5, 21, 5, 42, 180, 1, 41, 162]
theorem zwX9_twice_0 : (cX9_twice.data.toList.drop 0).take 36 = zchX9_twice_0 := by decide +kernel
def zchX9_twice_1 : List UInt8 := [180, 1, 41, 162, 0, 83, 42, 180, 0, 34, 21, 5, 46, 29, 122, 4, 126, 4, 160, 0, 7, 4, 167, 0, 4, 3, 54, 6, 27, 4, 160, 0, 27, 42, 180, 0]
theorem zwX9_twice_1 : (cX9_twice.data.toList.drop 32).take 36 = zchX9_twice_1 := by decide +kernel
def zchX9_twice_2 : List UInt8 := [27, 42, 180, 0, 37, 21, 5, 46, 42, 180, 0, 34, 21, 5, 46, 184, 0, 108, 164, 0, 7, 4, 167, 0, 4, 3, 54, 7, 21, 4, 21, 6, 154, 0, 8, 21]
theorem zwX9_twice_2 : (cX9_twice.data.toList.drop 64).take 36 = zchX9_twice_2 := by decide +kernel
def zchX9_twice_3 : List UInt8 := [154, 0, 8, 21, 7, 153, 0, 7, 4, 167, 0, 4, 3, 96, 54, 4, 132, 5, 1, 167, 255, 170, 28, 21, 4, 4, 164, 0, 9, 4, 29, 120, 167, 0, 4, 3]
theorem zwX9_twice_3 : (cX9_twice.data.toList.drop 96).take 36 = zchX9_twice_3 := by decide +kernel
def zchX9_twice_4 : List UInt8 := [167, 0, 4, 3, 128, 61, 132, 3, 1, 167, 255, 136, 28, 172]
theorem zwX9_twice_4 : (cX9_twice.data.toList.drop 128).take 36 = zchX9_twice_4 := by decide +kernel
def zchX9_wipe_0 : List UInt8 := [42, 180, 0, 130, 60, 42, 3, 181, 0, 130, 27, 172]
theorem zwX9_wipe_0 : (cX9_wipe.data.toList.drop 0).take 36 = zchX9_wipe_0 := by decide +kernel
def zchX9_worst_0 : List UInt8 := [42, 27, 182, 0, 112, 154, 0, 5, 2, 172, 28, 184, 0, 216, 153, 0, 20, 29, 184, 0, 219, 153, 0, 13, 42, 27, 28, 29, 182, 0, 222, 167, 0, 5, 16, 254]
theorem zwX9_worst_0 : (cX9_worst.data.toList.drop 0).take 36 = zchX9_worst_0 := by decide +kernel
def zchX9_worst_1 : List UInt8 := [0, 5, 16, 254, 172]
theorem zwX9_worst_1 : (cX9_worst.data.toList.drop 32).take 36 = zchX9_worst_1 := by decide +kernel
def zchX9_worstOf_0 : List UInt8 := [28, 154, 0, 11, 42, 27, 182, 0, 206, 167, 0, 44, 28, 4, 160, 0, 23, 42, 29, 182, 0, 163, 158, 0, 11, 42, 27, 182, 0, 209, 167, 0, 23, 3, 167, 0]
theorem zwX9_worstOf_0 : (cX9_worstOf.data.toList.drop 0).take 36 = zchX9_worstOf_0 := by decide +kernel
def zchX9_worstOf_1 : List UInt8 := [23, 3, 167, 0, 19, 42, 180, 0, 69, 42, 180, 0, 72, 104, 42, 180, 0, 7, 27, 46, 104, 172]
theorem zwX9_worstOf_1 : (cX9_worstOf.data.toList.drop 32).take 36 = zchX9_worstOf_1 := by decide +kernel
def zchX9_years_0 : List UInt8 := [42, 27, 182, 0, 112, 154, 0, 5, 2, 172, 28, 133, 9, 20, 1, 4, 184, 0, 89, 153, 0, 28, 29, 133, 10, 20, 1, 44, 184, 0, 89, 153, 0, 16, 21, 4]
theorem zwX9_years_0 : (cX9_years.data.toList.drop 0).take 36 = zchX9_years_0 := by decide +kernel
def zchX9_years_1 : List UInt8 := [0, 16, 21, 4, 133, 9, 20, 0, 102, 184, 0, 89, 154, 0, 6, 16, 254, 172, 28, 54, 5, 3, 54, 6, 3, 54, 7, 21, 7, 29, 162, 0, 57, 20, 0, 157]
theorem zwX9_years_1 : (cX9_years.data.toList.drop 32).take 36 = zchX9_years_1 := by decide +kernel
def zchX9_years_2 : List UInt8 := [57, 20, 0, 157, 21, 5, 133, 105, 20, 0, 159, 97, 20, 0, 161, 113, 136, 54, 5, 21, 6, 21, 5, 16, 24, 108, 16, 10, 112, 42, 21, 5, 16, 24, 112, 182]
theorem zwX9_years_2 : (cX9_years.data.toList.drop 64).take 36 = zchX9_years_2 := by decide +kernel
def zchX9_years_3 : List UInt8 := [16, 24, 112, 182, 0, 163, 162, 0, 7, 4, 167, 0, 4, 3, 96, 54, 6, 132, 7, 1, 167, 255, 199, 21, 4, 154, 0, 14, 21, 6, 42, 27, 182, 0, 209, 104]
theorem zwX9_years_3 : (cX9_years.data.toList.drop 96).take 36 = zchX9_years_3 := by decide +kernel
def zchX9_years_4 : List UInt8 := [182, 0, 209, 104, 167, 0, 21, 21, 4, 4, 160, 0, 13, 29, 42, 27, 182, 0, 206, 104, 167, 0, 5, 21, 6, 172]
theorem zwX9_years_4 : (cX9_years.data.toList.drop 128).take 36 = zchX9_years_4 := by decide +kernel
theorem d_J6_bitCount_0f7a4_0 : decode cJ6_bitCount_0f7a4 0 = .ok (.iload_n 0, 1) := zo_26 (zby_w zwJ6_bitCount_0f7a4_0 0 rfl)
theorem d_J6_bitCount_0f7a4_1 : decode cJ6_bitCount_0f7a4 1 = .ok (.iload_n 0, 1) := zo_26 (zby_w zwJ6_bitCount_0f7a4_0 1 rfl)
theorem d_J6_bitCount_0f7a4_2 : decode cJ6_bitCount_0f7a4 2 = .ok (.iconst 1, 1) := zo_4 (zby_w zwJ6_bitCount_0f7a4_0 2 rfl)
theorem d_J6_bitCount_0f7a4_3 : decode cJ6_bitCount_0f7a4 3 = .ok (.iushr, 1) := zo_124 (zby_w zwJ6_bitCount_0f7a4_0 3 rfl)
theorem d_J6_bitCount_0f7a4_4 : decode cJ6_bitCount_0f7a4 4 = .ok (.ldc_w 265, 3) := zo_19 (a := 1) (b := 9) (zby_w zwJ6_bitCount_0f7a4_0 4 rfl) (zby_w zwJ6_bitCount_0f7a4_0 5 rfl) (zby_w zwJ6_bitCount_0f7a4_0 6 rfl) (by decide)
theorem d_J6_bitCount_0f7a4_7 : decode cJ6_bitCount_0f7a4 7 = .ok (.iand, 1) := zo_126 (zby_w zwJ6_bitCount_0f7a4_0 7 rfl)
theorem d_J6_bitCount_0f7a4_8 : decode cJ6_bitCount_0f7a4 8 = .ok (.isub, 1) := zo_100 (zby_w zwJ6_bitCount_0f7a4_0 8 rfl)
theorem d_J6_bitCount_0f7a4_9 : decode cJ6_bitCount_0f7a4 9 = .ok (.istore_n 0, 1) := zo_59 (zby_w zwJ6_bitCount_0f7a4_0 9 rfl)
theorem d_J6_bitCount_0f7a4_10 : decode cJ6_bitCount_0f7a4 10 = .ok (.iload_n 0, 1) := zo_26 (zby_w zwJ6_bitCount_0f7a4_0 10 rfl)
theorem d_J6_bitCount_0f7a4_11 : decode cJ6_bitCount_0f7a4 11 = .ok (.ldc_w 266, 3) := zo_19 (a := 1) (b := 10) (zby_w zwJ6_bitCount_0f7a4_0 11 rfl) (zby_w zwJ6_bitCount_0f7a4_0 12 rfl) (zby_w zwJ6_bitCount_0f7a4_0 13 rfl) (by decide)
theorem d_J6_bitCount_0f7a4_14 : decode cJ6_bitCount_0f7a4 14 = .ok (.iand, 1) := zo_126 (zby_w zwJ6_bitCount_0f7a4_0 14 rfl)
theorem d_J6_bitCount_0f7a4_15 : decode cJ6_bitCount_0f7a4 15 = .ok (.iload_n 0, 1) := zo_26 (zby_w zwJ6_bitCount_0f7a4_0 15 rfl)
theorem d_J6_bitCount_0f7a4_16 : decode cJ6_bitCount_0f7a4 16 = .ok (.iconst 2, 1) := zo_5 (zby_w zwJ6_bitCount_0f7a4_0 16 rfl)
theorem d_J6_bitCount_0f7a4_17 : decode cJ6_bitCount_0f7a4 17 = .ok (.iushr, 1) := zo_124 (zby_w zwJ6_bitCount_0f7a4_0 17 rfl)
theorem d_J6_bitCount_0f7a4_18 : decode cJ6_bitCount_0f7a4 18 = .ok (.ldc_w 266, 3) := zo_19 (a := 1) (b := 10) (zby_w zwJ6_bitCount_0f7a4_0 18 rfl) (zby_w zwJ6_bitCount_0f7a4_0 19 rfl) (zby_w zwJ6_bitCount_0f7a4_0 20 rfl) (by decide)
theorem d_J6_bitCount_0f7a4_21 : decode cJ6_bitCount_0f7a4 21 = .ok (.iand, 1) := zo_126 (zby_w zwJ6_bitCount_0f7a4_0 21 rfl)
theorem d_J6_bitCount_0f7a4_22 : decode cJ6_bitCount_0f7a4 22 = .ok (.iadd, 1) := zo_96 (zby_w zwJ6_bitCount_0f7a4_0 22 rfl)
theorem d_J6_bitCount_0f7a4_23 : decode cJ6_bitCount_0f7a4 23 = .ok (.istore_n 0, 1) := zo_59 (zby_w zwJ6_bitCount_0f7a4_0 23 rfl)
theorem d_J6_bitCount_0f7a4_24 : decode cJ6_bitCount_0f7a4 24 = .ok (.iload_n 0, 1) := zo_26 (zby_w zwJ6_bitCount_0f7a4_0 24 rfl)
theorem d_J6_bitCount_0f7a4_25 : decode cJ6_bitCount_0f7a4 25 = .ok (.iload_n 0, 1) := zo_26 (zby_w zwJ6_bitCount_0f7a4_0 25 rfl)
theorem d_J6_bitCount_0f7a4_26 : decode cJ6_bitCount_0f7a4 26 = .ok (.iconst 4, 1) := zo_7 (zby_w zwJ6_bitCount_0f7a4_0 26 rfl)
theorem d_J6_bitCount_0f7a4_27 : decode cJ6_bitCount_0f7a4 27 = .ok (.iushr, 1) := zo_124 (zby_w zwJ6_bitCount_0f7a4_0 27 rfl)
theorem d_J6_bitCount_0f7a4_28 : decode cJ6_bitCount_0f7a4 28 = .ok (.iadd, 1) := zo_96 (zby_w zwJ6_bitCount_0f7a4_0 28 rfl)
theorem d_J6_bitCount_0f7a4_29 : decode cJ6_bitCount_0f7a4 29 = .ok (.ldc_w 267, 3) := zo_19 (a := 1) (b := 11) (zby_w zwJ6_bitCount_0f7a4_0 29 rfl) (zby_w zwJ6_bitCount_0f7a4_0 30 rfl) (zby_w zwJ6_bitCount_0f7a4_0 31 rfl) (by decide)
theorem d_J6_bitCount_0f7a4_32 : decode cJ6_bitCount_0f7a4 32 = .ok (.iand, 1) := zo_126 (zby_w zwJ6_bitCount_0f7a4_1 0 rfl)
theorem d_J6_bitCount_0f7a4_33 : decode cJ6_bitCount_0f7a4 33 = .ok (.istore_n 0, 1) := zo_59 (zby_w zwJ6_bitCount_0f7a4_1 1 rfl)
theorem d_J6_bitCount_0f7a4_34 : decode cJ6_bitCount_0f7a4 34 = .ok (.iload_n 0, 1) := zo_26 (zby_w zwJ6_bitCount_0f7a4_1 2 rfl)
theorem d_J6_bitCount_0f7a4_35 : decode cJ6_bitCount_0f7a4 35 = .ok (.iload_n 0, 1) := zo_26 (zby_w zwJ6_bitCount_0f7a4_1 3 rfl)
theorem d_J6_bitCount_0f7a4_36 : decode cJ6_bitCount_0f7a4 36 = .ok (.bipush 8, 2) := zo_16 (a := 8) (zby_w zwJ6_bitCount_0f7a4_1 4 rfl) (zby_w zwJ6_bitCount_0f7a4_1 5 rfl) (by decide)
theorem d_J6_bitCount_0f7a4_38 : decode cJ6_bitCount_0f7a4 38 = .ok (.iushr, 1) := zo_124 (zby_w zwJ6_bitCount_0f7a4_1 6 rfl)
theorem d_J6_bitCount_0f7a4_39 : decode cJ6_bitCount_0f7a4 39 = .ok (.iadd, 1) := zo_96 (zby_w zwJ6_bitCount_0f7a4_1 7 rfl)
theorem d_J6_bitCount_0f7a4_40 : decode cJ6_bitCount_0f7a4 40 = .ok (.istore_n 0, 1) := zo_59 (zby_w zwJ6_bitCount_0f7a4_1 8 rfl)
theorem d_J6_bitCount_0f7a4_41 : decode cJ6_bitCount_0f7a4 41 = .ok (.iload_n 0, 1) := zo_26 (zby_w zwJ6_bitCount_0f7a4_1 9 rfl)
theorem d_J6_bitCount_0f7a4_42 : decode cJ6_bitCount_0f7a4 42 = .ok (.iload_n 0, 1) := zo_26 (zby_w zwJ6_bitCount_0f7a4_1 10 rfl)
theorem d_J6_bitCount_0f7a4_43 : decode cJ6_bitCount_0f7a4 43 = .ok (.bipush 16, 2) := zo_16 (a := 16) (zby_w zwJ6_bitCount_0f7a4_1 11 rfl) (zby_w zwJ6_bitCount_0f7a4_1 12 rfl) (by decide)
theorem d_J6_bitCount_0f7a4_45 : decode cJ6_bitCount_0f7a4 45 = .ok (.iushr, 1) := zo_124 (zby_w zwJ6_bitCount_0f7a4_1 13 rfl)
theorem d_J6_bitCount_0f7a4_46 : decode cJ6_bitCount_0f7a4 46 = .ok (.iadd, 1) := zo_96 (zby_w zwJ6_bitCount_0f7a4_1 14 rfl)
theorem d_J6_bitCount_0f7a4_47 : decode cJ6_bitCount_0f7a4 47 = .ok (.istore_n 0, 1) := zo_59 (zby_w zwJ6_bitCount_0f7a4_1 15 rfl)
theorem d_J6_bitCount_0f7a4_48 : decode cJ6_bitCount_0f7a4 48 = .ok (.iload_n 0, 1) := zo_26 (zby_w zwJ6_bitCount_0f7a4_1 16 rfl)
theorem d_J6_bitCount_0f7a4_49 : decode cJ6_bitCount_0f7a4 49 = .ok (.bipush 63, 2) := zo_16 (a := 63) (zby_w zwJ6_bitCount_0f7a4_1 17 rfl) (zby_w zwJ6_bitCount_0f7a4_1 18 rfl) (by decide)
theorem d_J6_bitCount_0f7a4_51 : decode cJ6_bitCount_0f7a4 51 = .ok (.iand, 1) := zo_126 (zby_w zwJ6_bitCount_0f7a4_1 19 rfl)
theorem d_J6_bitCount_0f7a4_52 : decode cJ6_bitCount_0f7a4 52 = .ok (.ireturn, 1) := zo_172 (zby_w zwJ6_bitCount_0f7a4_1 20 rfl)
theorem d_X0_become_0 : decode cX0_become 0 = .ok (.aload_n 0, 1) := zo_42 (zby_w zwX0_become_0 0 rfl)
theorem d_X0_become_1 : decode cX0_become 1 = .ok (.getfield 10, 3) := zo_180 (a := 0) (b := 10) (zby_w zwX0_become_0 1 rfl) (zby_w zwX0_become_0 2 rfl) (zby_w zwX0_become_0 3 rfl) (by decide)
theorem d_X0_become_4 : decode cX0_become 4 = .ok (.aload_n 1, 1) := zo_43 (zby_w zwX0_become_0 4 rfl)
theorem d_X0_become_5 : decode cX0_become 5 = .ok (.getfield 10, 3) := zo_180 (a := 0) (b := 10) (zby_w zwX0_become_0 5 rfl) (zby_w zwX0_become_0 6 rfl) (zby_w zwX0_become_0 7 rfl) (by decide)
theorem d_X0_become_8 : decode cX0_become 8 = .ok (.invokevirtual 37, 3) := zo_182 (a := 0) (b := 37) (zby_w zwX0_become_0 8 rfl) (zby_w zwX0_become_0 9 rfl) (zby_w zwX0_become_0 10 rfl) (by decide)
theorem d_X0_become_11 : decode cX0_become 11 = .ok (.aload_n 0, 1) := zo_42 (zby_w zwX0_become_0 11 rfl)
theorem d_X0_become_12 : decode cX0_become 12 = .ok (.getfield 19, 3) := zo_180 (a := 0) (b := 19) (zby_w zwX0_become_0 12 rfl) (zby_w zwX0_become_0 13 rfl) (zby_w zwX0_become_0 14 rfl) (by decide)
theorem d_X0_become_15 : decode cX0_become 15 = .ok (.aload_n 1, 1) := zo_43 (zby_w zwX0_become_0 15 rfl)
theorem d_X0_become_16 : decode cX0_become 16 = .ok (.getfield 19, 3) := zo_180 (a := 0) (b := 19) (zby_w zwX0_become_0 16 rfl) (zby_w zwX0_become_0 17 rfl) (zby_w zwX0_become_0 18 rfl) (by decide)
theorem d_X0_become_19 : decode cX0_become 19 = .ok (.invokevirtual 41, 3) := zo_182 (a := 0) (b := 41) (zby_w zwX0_become_0 19 rfl) (zby_w zwX0_become_0 20 rfl) (zby_w zwX0_become_0 21 rfl) (by decide)
theorem d_X0_become_22 : decode cX0_become 22 = .ok (.aload_n 0, 1) := zo_42 (zby_w zwX0_become_0 22 rfl)
theorem d_X0_become_23 : decode cX0_become 23 = .ok (.getfield 26, 3) := zo_180 (a := 0) (b := 26) (zby_w zwX0_become_0 23 rfl) (zby_w zwX0_become_0 24 rfl) (zby_w zwX0_become_0 25 rfl) (by decide)
theorem d_X0_become_26 : decode cX0_become 26 = .ok (.aload_n 1, 1) := zo_43 (zby_w zwX0_become_0 26 rfl)
theorem d_X0_become_27 : decode cX0_become 27 = .ok (.getfield 26, 3) := zo_180 (a := 0) (b := 26) (zby_w zwX0_become_0 27 rfl) (zby_w zwX0_become_0 28 rfl) (zby_w zwX0_become_0 29 rfl) (by decide)
theorem d_X0_become_30 : decode cX0_become 30 = .ok (.invokevirtual 44, 3) := zo_182 (a := 0) (b := 44) (zby_w zwX0_become_0 30 rfl) (zby_w zwX0_become_0 31 rfl) (zby_w zwX0_become_0 32 rfl) (by decide)
theorem d_X0_become_33 : decode cX0_become 33 = .ok (.aload_n 0, 1) := zo_42 (zby_w zwX0_become_1 1 rfl)
theorem d_X0_become_34 : decode cX0_become 34 = .ok (.getfield 33, 3) := zo_180 (a := 0) (b := 33) (zby_w zwX0_become_1 2 rfl) (zby_w zwX0_become_1 3 rfl) (zby_w zwX0_become_1 4 rfl) (by decide)
theorem d_X0_become_37 : decode cX0_become 37 = .ok (.aload_n 1, 1) := zo_43 (zby_w zwX0_become_1 5 rfl)
theorem d_X0_become_38 : decode cX0_become 38 = .ok (.getfield 33, 3) := zo_180 (a := 0) (b := 33) (zby_w zwX0_become_1 6 rfl) (zby_w zwX0_become_1 7 rfl) (zby_w zwX0_become_1 8 rfl) (by decide)
theorem d_X0_become_41 : decode cX0_become 41 = .ok (.invokevirtual 47, 3) := zo_182 (a := 0) (b := 47) (zby_w zwX0_become_1 9 rfl) (zby_w zwX0_become_1 10 rfl) (zby_w zwX0_become_1 11 rfl) (by decide)
theorem d_X0_become_44 : decode cX0_become 44 = .ok (.return_, 1) := zo_177 (zby_w zwX0_become_1 12 rfl)
theorem d_X1_become_0 : decode cX1_become 0 = .ok (.aload_n 0, 1) := zo_42 (zby_w zwX1_become_0 0 rfl)
theorem d_X1_become_1 : decode cX1_become 1 = .ok (.aload_n 1, 1) := zo_43 (zby_w zwX1_become_0 1 rfl)
theorem d_X1_become_2 : decode cX1_become 2 = .ok (.getfield 9, 3) := zo_180 (a := 0) (b := 9) (zby_w zwX1_become_0 2 rfl) (zby_w zwX1_become_0 3 rfl) (zby_w zwX1_become_0 4 rfl) (by decide)
theorem d_X1_become_5 : decode cX1_become 5 = .ok (.putfield 9, 3) := zo_181 (a := 0) (b := 9) (zby_w zwX1_become_0 5 rfl) (zby_w zwX1_become_0 6 rfl) (zby_w zwX1_become_0 7 rfl) (by decide)
theorem d_X1_become_8 : decode cX1_become 8 = .ok (.aload_n 1, 1) := zo_43 (zby_w zwX1_become_0 8 rfl)
theorem d_X1_become_9 : decode cX1_become 9 = .ok (.getfield 15, 3) := zo_180 (a := 0) (b := 15) (zby_w zwX1_become_0 9 rfl) (zby_w zwX1_become_0 10 rfl) (zby_w zwX1_become_0 11 rfl) (by decide)
theorem d_X1_become_12 : decode cX1_become 12 = .ok (.iconst 0, 1) := zo_3 (zby_w zwX1_become_0 12 rfl)
theorem d_X1_become_13 : decode cX1_become 13 = .ok (.aload_n 0, 1) := zo_42 (zby_w zwX1_become_0 13 rfl)
theorem d_X1_become_14 : decode cX1_become 14 = .ok (.getfield 15, 3) := zo_180 (a := 0) (b := 15) (zby_w zwX1_become_0 14 rfl) (zby_w zwX1_become_0 15 rfl) (zby_w zwX1_become_0 16 rfl) (by decide)
theorem d_X1_become_17 : decode cX1_become 17 = .ok (.iconst 0, 1) := zo_3 (zby_w zwX1_become_0 17 rfl)
theorem d_X1_become_18 : decode cX1_become 18 = .ok (.bipush 8, 2) := zo_16 (a := 8) (zby_w zwX1_become_0 18 rfl) (zby_w zwX1_become_0 19 rfl) (by decide)
theorem d_X1_become_20 : decode cX1_become 20 = .ok (.invokestatic 19, 3) := zo_184 (a := 0) (b := 19) (zby_w zwX1_become_0 20 rfl) (zby_w zwX1_become_0 21 rfl) (zby_w zwX1_become_0 22 rfl) (by decide)
theorem d_X1_become_23 : decode cX1_become 23 = .ok (.return_, 1) := zo_177 (zby_w zwX1_become_0 23 rfl)
theorem d_X1_countDrawn_0 : decode cX1_countDrawn 0 = .ok (.iconst 0, 1) := zo_3 (zby_w zwX1_countDrawn_0 0 rfl)
theorem d_X1_countDrawn_1 : decode cX1_countDrawn 1 = .ok (.istore_n 3, 1) := zo_62 (zby_w zwX1_countDrawn_0 1 rfl)
theorem d_X1_countDrawn_2 : decode cX1_countDrawn 2 = .ok (.iconst 0, 1) := zo_3 (zby_w zwX1_countDrawn_0 2 rfl)
theorem d_X1_countDrawn_3 : decode cX1_countDrawn 3 = .ok (.istore 4, 2) := zo_54 (a := 4) (zby_w zwX1_countDrawn_0 3 rfl) (zby_w zwX1_countDrawn_0 4 rfl) (by decide)
theorem d_X1_countDrawn_5 : decode cX1_countDrawn 5 = .ok (.iload 4, 2) := zo_21 (a := 4) (zby_w zwX1_countDrawn_0 5 rfl) (zby_w zwX1_countDrawn_0 6 rfl) (by decide)
theorem d_X1_countDrawn_7 : decode cX1_countDrawn 7 = .ok (.bipush 8, 2) := zo_16 (a := 8) (zby_w zwX1_countDrawn_0 7 rfl) (zby_w zwX1_countDrawn_0 8 rfl) (by decide)
theorem d_X1_countDrawn_9 : decode cX1_countDrawn 9 = .ok (.if_icmp .ge 36, 3) := zo_162 (a := 0) (b := 36) (zby_w zwX1_countDrawn_0 9 rfl) (zby_w zwX1_countDrawn_0 10 rfl) (zby_w zwX1_countDrawn_0 11 rfl) (by decide)
theorem d_X1_countDrawn_12 : decode cX1_countDrawn 12 = .ok (.aload_n 0, 1) := zo_42 (zby_w zwX1_countDrawn_0 12 rfl)
theorem d_X1_countDrawn_13 : decode cX1_countDrawn 13 = .ok (.iload 4, 2) := zo_21 (a := 4) (zby_w zwX1_countDrawn_0 13 rfl) (zby_w zwX1_countDrawn_0 14 rfl) (by decide)
theorem d_X1_countDrawn_15 : decode cX1_countDrawn 15 = .ok (.invokevirtual 29, 3) := zo_182 (a := 0) (b := 29) (zby_w zwX1_countDrawn_0 15 rfl) (zby_w zwX1_countDrawn_0 16 rfl) (zby_w zwX1_countDrawn_0 17 rfl) (by decide)
theorem d_X1_countDrawn_18 : decode cX1_countDrawn 18 = .ok (.ifCond .eq 21, 3) := zo_153 (a := 0) (b := 21) (zby_w zwX1_countDrawn_0 18 rfl) (zby_w zwX1_countDrawn_0 19 rfl) (zby_w zwX1_countDrawn_0 20 rfl) (by decide)
theorem d_X1_countDrawn_21 : decode cX1_countDrawn 21 = .ok (.aload_n 0, 1) := zo_42 (zby_w zwX1_countDrawn_0 21 rfl)
theorem d_X1_countDrawn_22 : decode cX1_countDrawn 22 = .ok (.getfield 15, 3) := zo_180 (a := 0) (b := 15) (zby_w zwX1_countDrawn_0 22 rfl) (zby_w zwX1_countDrawn_0 23 rfl) (zby_w zwX1_countDrawn_0 24 rfl) (by decide)
theorem d_X1_countDrawn_25 : decode cX1_countDrawn 25 = .ok (.iload 4, 2) := zo_21 (a := 4) (zby_w zwX1_countDrawn_0 25 rfl) (zby_w zwX1_countDrawn_0 26 rfl) (by decide)
theorem d_X1_countDrawn_27 : decode cX1_countDrawn 27 = .ok (.iaload, 1) := zo_46 (zby_w zwX1_countDrawn_0 27 rfl)
theorem d_X1_countDrawn_28 : decode cX1_countDrawn 28 = .ok (.iload_n 1, 1) := zo_27 (zby_w zwX1_countDrawn_0 28 rfl)
theorem d_X1_countDrawn_29 : decode cX1_countDrawn 29 = .ok (.iload_n 2, 1) := zo_28 (zby_w zwX1_countDrawn_0 29 rfl)
theorem d_X1_countDrawn_30 : decode cX1_countDrawn 30 = .ok (.invokestatic 25, 3) := zo_184 (a := 0) (b := 25) (zby_w zwX1_countDrawn_0 30 rfl) (zby_w zwX1_countDrawn_0 31 rfl) (zby_w zwX1_countDrawn_0 32 rfl) (by decide)
theorem d_X1_countDrawn_33 : decode cX1_countDrawn 33 = .ok (.ifCond .eq 6, 3) := zo_153 (a := 0) (b := 6) (zby_w zwX1_countDrawn_1 1 rfl) (zby_w zwX1_countDrawn_1 2 rfl) (zby_w zwX1_countDrawn_1 3 rfl) (by decide)
theorem d_X1_countDrawn_36 : decode cX1_countDrawn 36 = .ok (.iinc 3 1, 3) := by decide +kernel
theorem d_X1_countDrawn_39 : decode cX1_countDrawn 39 = .ok (.iinc 4 1, 3) := by decide +kernel
theorem d_X1_countDrawn_42 : decode cX1_countDrawn 42 = .ok (.goto (-37), 3) := zo_167 (a := 255) (b := 219) (zby_w zwX1_countDrawn_1 10 rfl) (zby_w zwX1_countDrawn_1 11 rfl) (zby_w zwX1_countDrawn_1 12 rfl) (by decide)
theorem d_X1_countDrawn_45 : decode cX1_countDrawn 45 = .ok (.iload_n 3, 1) := zo_29 (zby_w zwX1_countDrawn_1 13 rfl)
theorem d_X1_countDrawn_46 : decode cX1_countDrawn 46 = .ok (.ireturn, 1) := zo_172 (zby_w zwX1_countDrawn_1 14 rfl)
theorem d_X1_has_0 : decode cX1_has 0 = .ok (.iload_n 1, 1) := zo_27 (zby_w zwX1_has_0 0 rfl)
theorem d_X1_has_1 : decode cX1_has 1 = .ok (.iconst 0, 1) := zo_3 (zby_w zwX1_has_0 1 rfl)
theorem d_X1_has_2 : decode cX1_has 2 = .ok (.bipush 7, 2) := zo_16 (a := 7) (zby_w zwX1_has_0 2 rfl) (zby_w zwX1_has_0 3 rfl) (by decide)
theorem d_X1_has_4 : decode cX1_has 4 = .ok (.invokestatic 25, 3) := zo_184 (a := 0) (b := 25) (zby_w zwX1_has_0 4 rfl) (zby_w zwX1_has_0 5 rfl) (zby_w zwX1_has_0 6 rfl) (by decide)
theorem d_X1_has_7 : decode cX1_has 7 = .ok (.ifCond .eq 19, 3) := zo_153 (a := 0) (b := 19) (zby_w zwX1_has_0 7 rfl) (zby_w zwX1_has_0 8 rfl) (zby_w zwX1_has_0 9 rfl) (by decide)
theorem d_X1_has_10 : decode cX1_has 10 = .ok (.aload_n 0, 1) := zo_42 (zby_w zwX1_has_0 10 rfl)
theorem d_X1_has_11 : decode cX1_has 11 = .ok (.getfield 9, 3) := zo_180 (a := 0) (b := 9) (zby_w zwX1_has_0 11 rfl) (zby_w zwX1_has_0 12 rfl) (zby_w zwX1_has_0 13 rfl) (by decide)
theorem d_X1_has_14 : decode cX1_has 14 = .ok (.iload_n 1, 1) := zo_27 (zby_w zwX1_has_0 14 rfl)
theorem d_X1_has_15 : decode cX1_has 15 = .ok (.ishr, 1) := zo_122 (zby_w zwX1_has_0 15 rfl)
theorem d_X1_has_16 : decode cX1_has 16 = .ok (.iconst 1, 1) := zo_4 (zby_w zwX1_has_0 16 rfl)
theorem d_X1_has_17 : decode cX1_has 17 = .ok (.iand, 1) := zo_126 (zby_w zwX1_has_0 17 rfl)
theorem d_X1_has_18 : decode cX1_has 18 = .ok (.iconst 1, 1) := zo_4 (zby_w zwX1_has_0 18 rfl)
theorem d_X1_has_19 : decode cX1_has 19 = .ok (.if_icmp .ne 7, 3) := zo_160 (a := 0) (b := 7) (zby_w zwX1_has_0 19 rfl) (zby_w zwX1_has_0 20 rfl) (zby_w zwX1_has_0 21 rfl) (by decide)
theorem d_X1_has_22 : decode cX1_has 22 = .ok (.iconst 1, 1) := zo_4 (zby_w zwX1_has_0 22 rfl)
theorem d_X1_has_23 : decode cX1_has 23 = .ok (.goto 4, 3) := zo_167 (a := 0) (b := 4) (zby_w zwX1_has_0 23 rfl) (zby_w zwX1_has_0 24 rfl) (zby_w zwX1_has_0 25 rfl) (by decide)
theorem d_X1_has_26 : decode cX1_has 26 = .ok (.iconst 0, 1) := zo_3 (zby_w zwX1_has_0 26 rfl)
theorem d_X1_has_27 : decode cX1_has 27 = .ok (.ireturn, 1) := zo_172 (zby_w zwX1_has_0 27 rfl)
theorem d_X2_commonSide_0 : decode cX2_commonSide 0 = .ok (.iconst 0, 1) := zo_3 (zby_w zwX2_commonSide_0 0 rfl)
theorem d_X2_commonSide_1 : decode cX2_commonSide 1 = .ok (.istore_n 1, 1) := zo_60 (zby_w zwX2_commonSide_0 1 rfl)
theorem d_X2_commonSide_2 : decode cX2_commonSide 2 = .ok (.iconst 1, 1) := zo_4 (zby_w zwX2_commonSide_0 2 rfl)
theorem d_X2_commonSide_3 : decode cX2_commonSide 3 = .ok (.istore_n 2, 1) := zo_61 (zby_w zwX2_commonSide_0 3 rfl)
theorem d_X2_commonSide_4 : decode cX2_commonSide 4 = .ok (.iload_n 2, 1) := zo_28 (zby_w zwX2_commonSide_0 4 rfl)
theorem d_X2_commonSide_5 : decode cX2_commonSide 5 = .ok (.iconst 3, 1) := zo_6 (zby_w zwX2_commonSide_0 5 rfl)
theorem d_X2_commonSide_6 : decode cX2_commonSide 6 = .ok (.if_icmp .ge 24, 3) := zo_162 (a := 0) (b := 24) (zby_w zwX2_commonSide_0 6 rfl) (zby_w zwX2_commonSide_0 7 rfl) (zby_w zwX2_commonSide_0 8 rfl) (by decide)
theorem d_X2_commonSide_9 : decode cX2_commonSide 9 = .ok (.aload_n 0, 1) := zo_42 (zby_w zwX2_commonSide_0 9 rfl)
theorem d_X2_commonSide_10 : decode cX2_commonSide 10 = .ok (.iload_n 2, 1) := zo_28 (zby_w zwX2_commonSide_0 10 rfl)
theorem d_X2_commonSide_11 : decode cX2_commonSide 11 = .ok (.invokevirtual 77, 3) := zo_182 (a := 0) (b := 77) (zby_w zwX2_commonSide_0 11 rfl) (zby_w zwX2_commonSide_0 12 rfl) (zby_w zwX2_commonSide_0 13 rfl) (by decide)
theorem d_X2_commonSide_14 : decode cX2_commonSide 14 = .ok (.aload_n 0, 1) := zo_42 (zby_w zwX2_commonSide_0 14 rfl)
theorem d_X2_commonSide_15 : decode cX2_commonSide 15 = .ok (.iload_n 1, 1) := zo_27 (zby_w zwX2_commonSide_0 15 rfl)
theorem d_X2_commonSide_16 : decode cX2_commonSide 16 = .ok (.invokevirtual 77, 3) := zo_182 (a := 0) (b := 77) (zby_w zwX2_commonSide_0 16 rfl) (zby_w zwX2_commonSide_0 17 rfl) (zby_w zwX2_commonSide_0 18 rfl) (by decide)
theorem d_X2_commonSide_19 : decode cX2_commonSide 19 = .ok (.if_icmp .ge 5, 3) := zo_162 (a := 0) (b := 5) (zby_w zwX2_commonSide_0 19 rfl) (zby_w zwX2_commonSide_0 20 rfl) (zby_w zwX2_commonSide_0 21 rfl) (by decide)
theorem d_X2_commonSide_22 : decode cX2_commonSide 22 = .ok (.iload_n 2, 1) := zo_28 (zby_w zwX2_commonSide_0 22 rfl)
theorem d_X2_commonSide_23 : decode cX2_commonSide 23 = .ok (.istore_n 1, 1) := zo_60 (zby_w zwX2_commonSide_0 23 rfl)
theorem d_X2_commonSide_24 : decode cX2_commonSide 24 = .ok (.iinc 2 1, 3) := by decide +kernel
theorem d_X2_commonSide_27 : decode cX2_commonSide 27 = .ok (.goto (-23), 3) := zo_167 (a := 255) (b := 233) (zby_w zwX2_commonSide_0 27 rfl) (zby_w zwX2_commonSide_0 28 rfl) (zby_w zwX2_commonSide_0 29 rfl) (by decide)
theorem d_X2_commonSide_30 : decode cX2_commonSide 30 = .ok (.iload_n 1, 1) := zo_27 (zby_w zwX2_commonSide_0 30 rfl)
theorem d_X2_commonSide_31 : decode cX2_commonSide 31 = .ok (.ireturn, 1) := zo_172 (zby_w zwX2_commonSide_0 31 rfl)
theorem d_X2_drawLine_0 : decode cX2_drawLine 0 = .ok (.aload_n 0, 1) := zo_42 (zby_w zwX2_drawLine_0 0 rfl)
theorem d_X2_drawLine_1 : decode cX2_drawLine 1 = .ok (.getfield 26, 3) := zo_180 (a := 0) (b := 26) (zby_w zwX2_drawLine_0 1 rfl) (zby_w zwX2_drawLine_0 2 rfl) (zby_w zwX2_drawLine_0 3 rfl) (by decide)
theorem d_X2_drawLine_4 : decode cX2_drawLine 4 = .ok (.iconst 0, 1) := zo_3 (zby_w zwX2_drawLine_0 4 rfl)
theorem d_X2_drawLine_5 : decode cX2_drawLine 5 = .ok (.lconst 0, 1) := zo_9 (zby_w zwX2_drawLine_0 5 rfl)
theorem d_X2_drawLine_6 : decode cX2_drawLine 6 = .ok (.lastore, 1) := zo_80 (zby_w zwX2_drawLine_0 6 rfl)
theorem d_X2_drawLine_7 : decode cX2_drawLine 7 = .ok (.iconst 1, 1) := zo_4 (zby_w zwX2_drawLine_0 7 rfl)
theorem d_X2_drawLine_8 : decode cX2_drawLine 8 = .ok (.istore_n 1, 1) := zo_60 (zby_w zwX2_drawLine_0 8 rfl)
theorem d_X2_drawLine_9 : decode cX2_drawLine 9 = .ok (.iconst 0, 1) := zo_3 (zby_w zwX2_drawLine_0 9 rfl)
theorem d_X2_drawLine_10 : decode cX2_drawLine 10 = .ok (.istore_n 2, 1) := zo_61 (zby_w zwX2_drawLine_0 10 rfl)
theorem d_X2_drawLine_11 : decode cX2_drawLine 11 = .ok (.iload_n 2, 1) := zo_28 (zby_w zwX2_drawLine_0 11 rfl)
theorem d_X2_drawLine_12 : decode cX2_drawLine 12 = .ok (.aload_n 0, 1) := zo_42 (zby_w zwX2_drawLine_0 12 rfl)
theorem d_X2_drawLine_13 : decode cX2_drawLine 13 = .ok (.getfield 15, 3) := zo_180 (a := 0) (b := 15) (zby_w zwX2_drawLine_0 13 rfl) (zby_w zwX2_drawLine_0 14 rfl) (zby_w zwX2_drawLine_0 15 rfl) (by decide)
theorem d_X2_drawLine_16 : decode cX2_drawLine 16 = .ok (.if_icmp .ge 18, 3) := zo_162 (a := 0) (b := 18) (zby_w zwX2_drawLine_0 16 rfl) (zby_w zwX2_drawLine_0 17 rfl) (zby_w zwX2_drawLine_0 18 rfl) (by decide)
theorem d_X2_drawLine_19 : decode cX2_drawLine 19 = .ok (.aload_n 0, 1) := zo_42 (zby_w zwX2_drawLine_0 19 rfl)
theorem d_X2_drawLine_20 : decode cX2_drawLine 20 = .ok (.iload_n 1, 1) := zo_27 (zby_w zwX2_drawLine_0 20 rfl)
theorem d_X2_drawLine_21 : decode cX2_drawLine 21 = .ok (.iload_n 2, 1) := zo_28 (zby_w zwX2_drawLine_0 21 rfl)
theorem d_X2_drawLine_22 : decode cX2_drawLine 22 = .ok (.iconst 3, 1) := zo_6 (zby_w zwX2_drawLine_0 22 rfl)
theorem d_X2_drawLine_23 : decode cX2_drawLine 23 = .ok (.imul, 1) := zo_104 (zby_w zwX2_drawLine_0 23 rfl)
theorem d_X2_drawLine_24 : decode cX2_drawLine 24 = .ok (.invokevirtual 59, 3) := zo_182 (a := 0) (b := 59) (zby_w zwX2_drawLine_0 24 rfl) (zby_w zwX2_drawLine_0 25 rfl) (zby_w zwX2_drawLine_0 26 rfl) (by decide)
theorem d_X2_drawLine_27 : decode cX2_drawLine 27 = .ok (.istore_n 1, 1) := zo_60 (zby_w zwX2_drawLine_0 27 rfl)
theorem d_X2_drawLine_28 : decode cX2_drawLine 28 = .ok (.iinc 2 1, 3) := by decide +kernel
theorem d_X2_drawLine_31 : decode cX2_drawLine 31 = .ok (.goto (-20), 3) := zo_167 (a := 255) (b := 236) (zby_w zwX2_drawLine_0 31 rfl) (zby_w zwX2_drawLine_0 32 rfl) (zby_w zwX2_drawLine_0 33 rfl) (by decide)
theorem d_X2_drawLine_34 : decode cX2_drawLine 34 = .ok (.iload_n 1, 1) := zo_27 (zby_w zwX2_drawLine_1 2 rfl)
theorem d_X2_drawLine_35 : decode cX2_drawLine 35 = .ok (.ireturn, 1) := zo_172 (zby_w zwX2_drawLine_1 3 rfl)
theorem d_X2_gather_0 : decode cX2_gather 0 = .ok (.aload_n 0, 1) := zo_42 (zby_w zwX2_gather_0 0 rfl)
theorem d_X2_gather_1 : decode cX2_gather 1 = .ok (.iconst 0, 1) := zo_3 (zby_w zwX2_gather_0 1 rfl)
theorem d_X2_gather_2 : decode cX2_gather 2 = .ok (.putfield 15, 3) := zo_181 (a := 0) (b := 15) (zby_w zwX2_gather_0 2 rfl) (zby_w zwX2_gather_0 3 rfl) (zby_w zwX2_gather_0 4 rfl) (by decide)
theorem d_X2_gather_5 : decode cX2_gather 5 = .ok (.iconst 0, 1) := zo_3 (zby_w zwX2_gather_0 5 rfl)
theorem d_X2_gather_6 : decode cX2_gather 6 = .ok (.istore_n 3, 1) := zo_62 (zby_w zwX2_gather_0 6 rfl)
theorem d_X2_gather_7 : decode cX2_gather 7 = .ok (.iload_n 3, 1) := zo_29 (zby_w zwX2_gather_0 7 rfl)
theorem d_X2_gather_8 : decode cX2_gather 8 = .ok (.bipush 6, 2) := zo_16 (a := 6) (zby_w zwX2_gather_0 8 rfl) (zby_w zwX2_gather_0 9 rfl) (by decide)
theorem d_X2_gather_10 : decode cX2_gather 10 = .ok (.if_icmp .ge 92, 3) := zo_162 (a := 0) (b := 92) (zby_w zwX2_gather_0 10 rfl) (zby_w zwX2_gather_0 11 rfl) (zby_w zwX2_gather_0 12 rfl) (by decide)
theorem d_X2_gather_13 : decode cX2_gather 13 = .ok (.aload_n 1, 1) := zo_43 (zby_w zwX2_gather_0 13 rfl)
theorem d_X2_gather_14 : decode cX2_gather 14 = .ok (.iload_n 3, 1) := zo_29 (zby_w zwX2_gather_0 14 rfl)
theorem d_X2_gather_15 : decode cX2_gather 15 = .ok (.invokevirtual 32, 3) := zo_182 (a := 0) (b := 32) (zby_w zwX2_gather_0 15 rfl) (zby_w zwX2_gather_0 16 rfl) (zby_w zwX2_gather_0 17 rfl) (by decide)
theorem d_X2_gather_18 : decode cX2_gather 18 = .ok (.ifCond .eq 78, 3) := zo_153 (a := 0) (b := 78) (zby_w zwX2_gather_0 18 rfl) (zby_w zwX2_gather_0 19 rfl) (zby_w zwX2_gather_0 20 rfl) (by decide)
theorem d_X2_gather_21 : decode cX2_gather 21 = .ok (.aload_n 0, 1) := zo_42 (zby_w zwX2_gather_0 21 rfl)
theorem d_X2_gather_22 : decode cX2_gather 22 = .ok (.getfield 9, 3) := zo_180 (a := 0) (b := 9) (zby_w zwX2_gather_0 22 rfl) (zby_w zwX2_gather_0 23 rfl) (zby_w zwX2_gather_0 24 rfl) (by decide)
theorem d_X2_gather_25 : decode cX2_gather 25 = .ok (.aload_n 0, 1) := zo_42 (zby_w zwX2_gather_0 25 rfl)
theorem d_X2_gather_26 : decode cX2_gather 26 = .ok (.getfield 15, 3) := zo_180 (a := 0) (b := 15) (zby_w zwX2_gather_0 26 rfl) (zby_w zwX2_gather_0 27 rfl) (zby_w zwX2_gather_0 28 rfl) (by decide)
theorem d_X2_gather_29 : decode cX2_gather 29 = .ok (.iload_n 3, 1) := zo_29 (zby_w zwX2_gather_0 29 rfl)
theorem d_X2_gather_30 : decode cX2_gather 30 = .ok (.iastore, 1) := zo_79 (zby_w zwX2_gather_0 30 rfl)
theorem d_X2_gather_31 : decode cX2_gather 31 = .ok (.iconst 0, 1) := zo_3 (zby_w zwX2_gather_0 31 rfl)
theorem d_X2_gather_32 : decode cX2_gather 32 = .ok (.istore 4, 2) := zo_54 (a := 4) (zby_w zwX2_gather_1 0 rfl) (zby_w zwX2_gather_1 1 rfl) (by decide)
theorem d_X2_gather_34 : decode cX2_gather 34 = .ok (.iload 4, 2) := zo_21 (a := 4) (zby_w zwX2_gather_1 2 rfl) (zby_w zwX2_gather_1 3 rfl) (by decide)
theorem d_X2_gather_36 : decode cX2_gather 36 = .ok (.iconst 3, 1) := zo_6 (zby_w zwX2_gather_1 4 rfl)
theorem d_X2_gather_37 : decode cX2_gather 37 = .ok (.if_icmp .ge 49, 3) := zo_162 (a := 0) (b := 49) (zby_w zwX2_gather_1 5 rfl) (zby_w zwX2_gather_1 6 rfl) (zby_w zwX2_gather_1 7 rfl) (by decide)
theorem d_X2_gather_40 : decode cX2_gather 40 = .ok (.aload_n 1, 1) := zo_43 (zby_w zwX2_gather_1 8 rfl)
theorem d_X2_gather_41 : decode cX2_gather 41 = .ok (.iload_n 3, 1) := zo_29 (zby_w zwX2_gather_1 9 rfl)
theorem d_X2_gather_42 : decode cX2_gather 42 = .ok (.iload 4, 2) := zo_21 (a := 4) (zby_w zwX2_gather_1 10 rfl) (zby_w zwX2_gather_1 11 rfl) (by decide)
theorem d_X2_gather_44 : decode cX2_gather 44 = .ok (.iload_n 2, 1) := zo_28 (zby_w zwX2_gather_1 12 rfl)
theorem d_X2_gather_45 : decode cX2_gather 45 = .ok (.invokevirtual 37, 3) := zo_182 (a := 0) (b := 37) (zby_w zwX2_gather_1 13 rfl) (zby_w zwX2_gather_1 14 rfl) (zby_w zwX2_gather_1 15 rfl) (by decide)
theorem d_X2_gather_48 : decode cX2_gather 48 = .ok (.i2l, 1) := zo_133 (zby_w zwX2_gather_1 16 rfl)
theorem d_X2_gather_49 : decode cX2_gather 49 = .ok (.lstore 5, 2) := zo_55 (a := 5) (zby_w zwX2_gather_1 17 rfl) (zby_w zwX2_gather_1 18 rfl) (by decide)
theorem d_X2_gather_51 : decode cX2_gather 51 = .ok (.aload_n 0, 1) := zo_42 (zby_w zwX2_gather_1 19 rfl)
theorem d_X2_gather_52 : decode cX2_gather 52 = .ok (.getfield 19, 3) := zo_180 (a := 0) (b := 19) (zby_w zwX2_gather_1 20 rfl) (zby_w zwX2_gather_1 21 rfl) (zby_w zwX2_gather_1 22 rfl) (by decide)
theorem d_X2_gather_55 : decode cX2_gather 55 = .ok (.aload_n 0, 1) := zo_42 (zby_w zwX2_gather_1 23 rfl)
theorem d_X2_gather_56 : decode cX2_gather 56 = .ok (.getfield 15, 3) := zo_180 (a := 0) (b := 15) (zby_w zwX2_gather_1 24 rfl) (zby_w zwX2_gather_1 25 rfl) (zby_w zwX2_gather_1 26 rfl) (by decide)
theorem d_X2_gather_59 : decode cX2_gather 59 = .ok (.iconst 3, 1) := zo_6 (zby_w zwX2_gather_1 27 rfl)
theorem d_X2_gather_60 : decode cX2_gather 60 = .ok (.imul, 1) := zo_104 (zby_w zwX2_gather_1 28 rfl)
theorem d_X2_gather_61 : decode cX2_gather 61 = .ok (.iload 4, 2) := zo_21 (a := 4) (zby_w zwX2_gather_1 29 rfl) (zby_w zwX2_gather_1 30 rfl) (by decide)
theorem d_X2_gather_63 : decode cX2_gather 63 = .ok (.iadd, 1) := zo_96 (zby_w zwX2_gather_1 31 rfl)
theorem d_X2_gather_64 : decode cX2_gather 64 = .ok (.lload 5, 2) := zo_22 (a := 5) (zby_w zwX2_gather_2 0 rfl) (zby_w zwX2_gather_2 1 rfl) (by decide)
theorem d_X2_gather_66 : decode cX2_gather 66 = .ok (.bipush 32, 2) := zo_16 (a := 32) (zby_w zwX2_gather_2 2 rfl) (zby_w zwX2_gather_2 3 rfl) (by decide)
theorem d_X2_gather_68 : decode cX2_gather 68 = .ok (.lshl, 1) := zo_121 (zby_w zwX2_gather_2 4 rfl)
theorem d_X2_gather_69 : decode cX2_gather 69 = .ok (.aload_n 1, 1) := zo_43 (zby_w zwX2_gather_2 5 rfl)
theorem d_X2_gather_70 : decode cX2_gather 70 = .ok (.iload_n 3, 1) := zo_29 (zby_w zwX2_gather_2 6 rfl)
theorem d_X2_gather_71 : decode cX2_gather 71 = .ok (.iload 4, 2) := zo_21 (a := 4) (zby_w zwX2_gather_2 7 rfl) (zby_w zwX2_gather_2 8 rfl) (by decide)
theorem d_X2_gather_73 : decode cX2_gather 73 = .ok (.iload_n 2, 1) := zo_28 (zby_w zwX2_gather_2 9 rfl)
theorem d_X2_gather_74 : decode cX2_gather 74 = .ok (.invokevirtual 41, 3) := zo_182 (a := 0) (b := 41) (zby_w zwX2_gather_2 10 rfl) (zby_w zwX2_gather_2 11 rfl) (zby_w zwX2_gather_2 12 rfl) (by decide)
theorem d_X2_gather_77 : decode cX2_gather 77 = .ok (.i2l, 1) := zo_133 (zby_w zwX2_gather_2 13 rfl)
theorem d_X2_gather_78 : decode cX2_gather 78 = .ok (.ladd, 1) := zo_97 (zby_w zwX2_gather_2 14 rfl)
theorem d_X2_gather_79 : decode cX2_gather 79 = .ok (.lastore, 1) := zo_80 (zby_w zwX2_gather_2 15 rfl)
theorem d_X2_gather_80 : decode cX2_gather 80 = .ok (.iinc 4 1, 3) := by decide +kernel
theorem d_X2_gather_83 : decode cX2_gather 83 = .ok (.goto (-49), 3) := zo_167 (a := 255) (b := 207) (zby_w zwX2_gather_2 19 rfl) (zby_w zwX2_gather_2 20 rfl) (zby_w zwX2_gather_2 21 rfl) (by decide)
theorem d_X2_gather_86 : decode cX2_gather 86 = .ok (.aload_n 0, 1) := zo_42 (zby_w zwX2_gather_2 22 rfl)
theorem d_X2_gather_87 : decode cX2_gather 87 = .ok (.dup, 1) := zo_89 (zby_w zwX2_gather_2 23 rfl)
theorem d_X2_gather_88 : decode cX2_gather 88 = .ok (.getfield 15, 3) := zo_180 (a := 0) (b := 15) (zby_w zwX2_gather_2 24 rfl) (zby_w zwX2_gather_2 25 rfl) (zby_w zwX2_gather_2 26 rfl) (by decide)
theorem d_X2_gather_91 : decode cX2_gather 91 = .ok (.iconst 1, 1) := zo_4 (zby_w zwX2_gather_2 27 rfl)
theorem d_X2_gather_92 : decode cX2_gather 92 = .ok (.iadd, 1) := zo_96 (zby_w zwX2_gather_2 28 rfl)
theorem d_X2_gather_93 : decode cX2_gather 93 = .ok (.putfield 15, 3) := zo_181 (a := 0) (b := 15) (zby_w zwX2_gather_2 29 rfl) (zby_w zwX2_gather_2 30 rfl) (zby_w zwX2_gather_2 31 rfl) (by decide)
theorem d_X2_gather_96 : decode cX2_gather 96 = .ok (.iinc 3 1, 3) := by decide +kernel
theorem d_X2_gather_99 : decode cX2_gather 99 = .ok (.goto (-92), 3) := zo_167 (a := 255) (b := 164) (zby_w zwX2_gather_3 3 rfl) (zby_w zwX2_gather_3 4 rfl) (zby_w zwX2_gather_3 5 rfl) (by decide)
theorem d_X2_gather_102 : decode cX2_gather 102 = .ok (.return_, 1) := zo_177 (zby_w zwX2_gather_3 6 rfl)
theorem d_X2_leastWithin_0 : decode cX2_leastWithin 0 = .ok (.aload_n 0, 1) := zo_42 (zby_w zwX2_leastWithin_0 0 rfl)
theorem d_X2_leastWithin_1 : decode cX2_leastWithin 1 = .ok (.invokevirtual 44, 3) := zo_182 (a := 0) (b := 44) (zby_w zwX2_leastWithin_0 1 rfl) (zby_w zwX2_leastWithin_0 2 rfl) (zby_w zwX2_leastWithin_0 3 rfl) (by decide)
theorem d_X2_leastWithin_4 : decode cX2_leastWithin 4 = .ok (.istore_n 2, 1) := zo_61 (zby_w zwX2_leastWithin_0 4 rfl)
theorem d_X2_leastWithin_5 : decode cX2_leastWithin 5 = .ok (.bipush (-6), 2) := zo_16 (a := 250) (zby_w zwX2_leastWithin_0 5 rfl) (zby_w zwX2_leastWithin_0 6 rfl) (by decide)
theorem d_X2_leastWithin_7 : decode cX2_leastWithin 7 = .ok (.istore_n 3, 1) := zo_62 (zby_w zwX2_leastWithin_0 7 rfl)
theorem d_X2_leastWithin_8 : decode cX2_leastWithin 8 = .ok (.iconst 0, 1) := zo_3 (zby_w zwX2_leastWithin_0 8 rfl)
theorem d_X2_leastWithin_9 : decode cX2_leastWithin 9 = .ok (.istore 4, 2) := zo_54 (a := 4) (zby_w zwX2_leastWithin_0 9 rfl) (zby_w zwX2_leastWithin_0 10 rfl) (by decide)
theorem d_X2_leastWithin_11 : decode cX2_leastWithin 11 = .ok (.iload 4, 2) := zo_21 (a := 4) (zby_w zwX2_leastWithin_0 11 rfl) (zby_w zwX2_leastWithin_0 12 rfl) (by decide)
theorem d_X2_leastWithin_13 : decode cX2_leastWithin 13 = .ok (.iload_n 2, 1) := zo_28 (zby_w zwX2_leastWithin_0 13 rfl)
theorem d_X2_leastWithin_14 : decode cX2_leastWithin 14 = .ok (.if_icmp .ge 54, 3) := zo_162 (a := 0) (b := 54) (zby_w zwX2_leastWithin_0 14 rfl) (zby_w zwX2_leastWithin_0 15 rfl) (zby_w zwX2_leastWithin_0 16 rfl) (by decide)
theorem d_X2_leastWithin_17 : decode cX2_leastWithin 17 = .ok (.aload_n 0, 1) := zo_42 (zby_w zwX2_leastWithin_0 17 rfl)
theorem d_X2_leastWithin_18 : decode cX2_leastWithin 18 = .ok (.getfield 23, 3) := zo_180 (a := 0) (b := 23) (zby_w zwX2_leastWithin_0 18 rfl) (zby_w zwX2_leastWithin_0 19 rfl) (zby_w zwX2_leastWithin_0 20 rfl) (by decide)
theorem d_X2_leastWithin_21 : decode cX2_leastWithin 21 = .ok (.iload 4, 2) := zo_21 (a := 4) (zby_w zwX2_leastWithin_0 21 rfl) (zby_w zwX2_leastWithin_0 22 rfl) (by decide)
theorem d_X2_leastWithin_23 : decode cX2_leastWithin 23 = .ok (.laload, 1) := zo_47 (zby_w zwX2_leastWithin_0 23 rfl)
theorem d_X2_leastWithin_24 : decode cX2_leastWithin 24 = .ok (.invokestatic 48, 3) := zo_184 (a := 0) (b := 48) (zby_w zwX2_leastWithin_0 24 rfl) (zby_w zwX2_leastWithin_0 25 rfl) (zby_w zwX2_leastWithin_0 26 rfl) (by decide)
theorem d_X2_leastWithin_27 : decode cX2_leastWithin 27 = .ok (.iload_n 1, 1) := zo_27 (zby_w zwX2_leastWithin_0 27 rfl)
theorem d_X2_leastWithin_28 : decode cX2_leastWithin 28 = .ok (.if_icmp .gt 34, 3) := zo_163 (a := 0) (b := 34) (zby_w zwX2_leastWithin_0 28 rfl) (zby_w zwX2_leastWithin_0 29 rfl) (zby_w zwX2_leastWithin_0 30 rfl) (by decide)
theorem d_X2_leastWithin_31 : decode cX2_leastWithin 31 = .ok (.iload_n 3, 1) := zo_29 (zby_w zwX2_leastWithin_0 31 rfl)
theorem d_X2_leastWithin_32 : decode cX2_leastWithin 32 = .ok (.bipush (-6), 2) := zo_16 (a := 250) (zby_w zwX2_leastWithin_1 0 rfl) (zby_w zwX2_leastWithin_1 1 rfl) (by decide)
theorem d_X2_leastWithin_34 : decode cX2_leastWithin 34 = .ok (.if_icmp .eq 25, 3) := zo_159 (a := 0) (b := 25) (zby_w zwX2_leastWithin_1 2 rfl) (zby_w zwX2_leastWithin_1 3 rfl) (zby_w zwX2_leastWithin_1 4 rfl) (by decide)
theorem d_X2_leastWithin_37 : decode cX2_leastWithin 37 = .ok (.aload_n 0, 1) := zo_42 (zby_w zwX2_leastWithin_1 5 rfl)
theorem d_X2_leastWithin_38 : decode cX2_leastWithin 38 = .ok (.getfield 23, 3) := zo_180 (a := 0) (b := 23) (zby_w zwX2_leastWithin_1 6 rfl) (zby_w zwX2_leastWithin_1 7 rfl) (zby_w zwX2_leastWithin_1 8 rfl) (by decide)
theorem d_X2_leastWithin_41 : decode cX2_leastWithin 41 = .ok (.iload 4, 2) := zo_21 (a := 4) (zby_w zwX2_leastWithin_1 9 rfl) (zby_w zwX2_leastWithin_1 10 rfl) (by decide)
theorem d_X2_leastWithin_43 : decode cX2_leastWithin 43 = .ok (.laload, 1) := zo_47 (zby_w zwX2_leastWithin_1 11 rfl)
theorem d_X2_leastWithin_44 : decode cX2_leastWithin 44 = .ok (.invokestatic 52, 3) := zo_184 (a := 0) (b := 52) (zby_w zwX2_leastWithin_1 12 rfl) (zby_w zwX2_leastWithin_1 13 rfl) (zby_w zwX2_leastWithin_1 14 rfl) (by decide)
theorem d_X2_leastWithin_47 : decode cX2_leastWithin 47 = .ok (.aload_n 0, 1) := zo_42 (zby_w zwX2_leastWithin_1 15 rfl)
theorem d_X2_leastWithin_48 : decode cX2_leastWithin 48 = .ok (.getfield 23, 3) := zo_180 (a := 0) (b := 23) (zby_w zwX2_leastWithin_1 16 rfl) (zby_w zwX2_leastWithin_1 17 rfl) (zby_w zwX2_leastWithin_1 18 rfl) (by decide)
theorem d_X2_leastWithin_51 : decode cX2_leastWithin 51 = .ok (.iload_n 3, 1) := zo_29 (zby_w zwX2_leastWithin_1 19 rfl)
theorem d_X2_leastWithin_52 : decode cX2_leastWithin 52 = .ok (.laload, 1) := zo_47 (zby_w zwX2_leastWithin_1 20 rfl)
theorem d_X2_leastWithin_53 : decode cX2_leastWithin 53 = .ok (.invokestatic 52, 3) := zo_184 (a := 0) (b := 52) (zby_w zwX2_leastWithin_1 21 rfl) (zby_w zwX2_leastWithin_1 22 rfl) (zby_w zwX2_leastWithin_1 23 rfl) (by decide)
theorem d_X2_leastWithin_56 : decode cX2_leastWithin 56 = .ok (.if_icmp .ge 6, 3) := zo_162 (a := 0) (b := 6) (zby_w zwX2_leastWithin_1 24 rfl) (zby_w zwX2_leastWithin_1 25 rfl) (zby_w zwX2_leastWithin_1 26 rfl) (by decide)
theorem d_X2_leastWithin_59 : decode cX2_leastWithin 59 = .ok (.iload 4, 2) := zo_21 (a := 4) (zby_w zwX2_leastWithin_1 27 rfl) (zby_w zwX2_leastWithin_1 28 rfl) (by decide)
theorem d_X2_leastWithin_61 : decode cX2_leastWithin 61 = .ok (.istore_n 3, 1) := zo_62 (zby_w zwX2_leastWithin_1 29 rfl)
theorem d_X2_leastWithin_62 : decode cX2_leastWithin 62 = .ok (.iinc 4 1, 3) := by decide +kernel
theorem d_X2_leastWithin_65 : decode cX2_leastWithin 65 = .ok (.goto (-54), 3) := zo_167 (a := 255) (b := 202) (zby_w zwX2_leastWithin_2 1 rfl) (zby_w zwX2_leastWithin_2 2 rfl) (zby_w zwX2_leastWithin_2 3 rfl) (by decide)
theorem d_X2_leastWithin_68 : decode cX2_leastWithin 68 = .ok (.iload_n 3, 1) := zo_29 (zby_w zwX2_leastWithin_2 4 rfl)
theorem d_X2_leastWithin_69 : decode cX2_leastWithin 69 = .ok (.ireturn, 1) := zo_172 (zby_w zwX2_leastWithin_2 5 rfl)
theorem d_X2_meanIn_0 : decode cX2_meanIn 0 = .ok (.lload_n 0, 1) := zo_30 (zby_w zwX2_meanIn_0 0 rfl)
theorem d_X2_meanIn_1 : decode cX2_meanIn 1 = .ok (.bipush 32, 2) := zo_16 (a := 32) (zby_w zwX2_meanIn_0 1 rfl) (zby_w zwX2_meanIn_0 2 rfl) (by decide)
theorem d_X2_meanIn_3 : decode cX2_meanIn 3 = .ok (.lshr, 1) := zo_123 (zby_w zwX2_meanIn_0 3 rfl)
theorem d_X2_meanIn_4 : decode cX2_meanIn 4 = .ok (.l2i, 1) := zo_136 (zby_w zwX2_meanIn_0 4 rfl)
theorem d_X2_meanIn_5 : decode cX2_meanIn 5 = .ok (.ireturn, 1) := zo_172 (zby_w zwX2_meanIn_0 5 rfl)
theorem d_X2_meanOfAllBy_0 : decode cX2_meanOfAllBy 0 = .ok (.iconst 0, 1) := zo_3 (zby_w zwX2_meanOfAllBy_0 0 rfl)
theorem d_X2_meanOfAllBy_1 : decode cX2_meanOfAllBy 1 = .ok (.istore_n 2, 1) := zo_61 (zby_w zwX2_meanOfAllBy_0 1 rfl)
theorem d_X2_meanOfAllBy_2 : decode cX2_meanOfAllBy 2 = .ok (.iconst 0, 1) := zo_3 (zby_w zwX2_meanOfAllBy_0 2 rfl)
theorem d_X2_meanOfAllBy_3 : decode cX2_meanOfAllBy 3 = .ok (.istore_n 3, 1) := zo_62 (zby_w zwX2_meanOfAllBy_0 3 rfl)
theorem d_X2_meanOfAllBy_4 : decode cX2_meanOfAllBy 4 = .ok (.iload_n 3, 1) := zo_29 (zby_w zwX2_meanOfAllBy_0 4 rfl)
theorem d_X2_meanOfAllBy_5 : decode cX2_meanOfAllBy 5 = .ok (.aload_n 0, 1) := zo_42 (zby_w zwX2_meanOfAllBy_0 5 rfl)
theorem d_X2_meanOfAllBy_6 : decode cX2_meanOfAllBy 6 = .ok (.getfield 15, 3) := zo_180 (a := 0) (b := 15) (zby_w zwX2_meanOfAllBy_0 6 rfl) (zby_w zwX2_meanOfAllBy_0 7 rfl) (zby_w zwX2_meanOfAllBy_0 8 rfl) (by decide)
theorem d_X2_meanOfAllBy_9 : decode cX2_meanOfAllBy 9 = .ok (.if_icmp .ge 25, 3) := zo_162 (a := 0) (b := 25) (zby_w zwX2_meanOfAllBy_0 9 rfl) (zby_w zwX2_meanOfAllBy_0 10 rfl) (zby_w zwX2_meanOfAllBy_0 11 rfl) (by decide)
theorem d_X2_meanOfAllBy_12 : decode cX2_meanOfAllBy 12 = .ok (.iload_n 2, 1) := zo_28 (zby_w zwX2_meanOfAllBy_0 12 rfl)
theorem d_X2_meanOfAllBy_13 : decode cX2_meanOfAllBy 13 = .ok (.aload_n 0, 1) := zo_42 (zby_w zwX2_meanOfAllBy_0 13 rfl)
theorem d_X2_meanOfAllBy_14 : decode cX2_meanOfAllBy 14 = .ok (.getfield 19, 3) := zo_180 (a := 0) (b := 19) (zby_w zwX2_meanOfAllBy_0 14 rfl) (zby_w zwX2_meanOfAllBy_0 15 rfl) (zby_w zwX2_meanOfAllBy_0 16 rfl) (by decide)
theorem d_X2_meanOfAllBy_17 : decode cX2_meanOfAllBy 17 = .ok (.iload_n 3, 1) := zo_29 (zby_w zwX2_meanOfAllBy_0 17 rfl)
theorem d_X2_meanOfAllBy_18 : decode cX2_meanOfAllBy 18 = .ok (.iconst 3, 1) := zo_6 (zby_w zwX2_meanOfAllBy_0 18 rfl)
theorem d_X2_meanOfAllBy_19 : decode cX2_meanOfAllBy 19 = .ok (.imul, 1) := zo_104 (zby_w zwX2_meanOfAllBy_0 19 rfl)
theorem d_X2_meanOfAllBy_20 : decode cX2_meanOfAllBy 20 = .ok (.iload_n 1, 1) := zo_27 (zby_w zwX2_meanOfAllBy_0 20 rfl)
theorem d_X2_meanOfAllBy_21 : decode cX2_meanOfAllBy 21 = .ok (.iadd, 1) := zo_96 (zby_w zwX2_meanOfAllBy_0 21 rfl)
theorem d_X2_meanOfAllBy_22 : decode cX2_meanOfAllBy 22 = .ok (.laload, 1) := zo_47 (zby_w zwX2_meanOfAllBy_0 22 rfl)
theorem d_X2_meanOfAllBy_23 : decode cX2_meanOfAllBy 23 = .ok (.invokestatic 52, 3) := zo_184 (a := 0) (b := 52) (zby_w zwX2_meanOfAllBy_0 23 rfl) (zby_w zwX2_meanOfAllBy_0 24 rfl) (zby_w zwX2_meanOfAllBy_0 25 rfl) (by decide)
theorem d_X2_meanOfAllBy_26 : decode cX2_meanOfAllBy 26 = .ok (.iadd, 1) := zo_96 (zby_w zwX2_meanOfAllBy_0 26 rfl)
theorem d_X2_meanOfAllBy_27 : decode cX2_meanOfAllBy 27 = .ok (.istore_n 2, 1) := zo_61 (zby_w zwX2_meanOfAllBy_0 27 rfl)
theorem d_X2_meanOfAllBy_28 : decode cX2_meanOfAllBy 28 = .ok (.iinc 3 1, 3) := by decide +kernel
theorem d_X2_meanOfAllBy_31 : decode cX2_meanOfAllBy 31 = .ok (.goto (-27), 3) := zo_167 (a := 255) (b := 229) (zby_w zwX2_meanOfAllBy_0 31 rfl) (zby_w zwX2_meanOfAllBy_0 32 rfl) (zby_w zwX2_meanOfAllBy_0 33 rfl) (by decide)
theorem d_X2_meanOfAllBy_34 : decode cX2_meanOfAllBy 34 = .ok (.iload_n 2, 1) := zo_28 (zby_w zwX2_meanOfAllBy_1 2 rfl)
theorem d_X2_meanOfAllBy_35 : decode cX2_meanOfAllBy 35 = .ok (.ireturn, 1) := zo_172 (zby_w zwX2_meanOfAllBy_1 3 rfl)
theorem d_X2_meanOfChoice_0 : decode cX2_meanOfChoice 0 = .ok (.iload_n 1, 1) := zo_27 (zby_w zwX2_meanOfChoice_0 0 rfl)
theorem d_X2_meanOfChoice_1 : decode cX2_meanOfChoice 1 = .ok (.iconst 0, 1) := zo_3 (zby_w zwX2_meanOfChoice_0 1 rfl)
theorem d_X2_meanOfChoice_2 : decode cX2_meanOfChoice 2 = .ok (.sipush 728, 3) := zo_17 (a := 2) (b := 216) (zby_w zwX2_meanOfChoice_0 2 rfl) (zby_w zwX2_meanOfChoice_0 3 rfl) (zby_w zwX2_meanOfChoice_0 4 rfl) (by decide)
theorem d_X2_meanOfChoice_5 : decode cX2_meanOfChoice 5 = .ok (.invokestatic 55, 3) := zo_184 (a := 0) (b := 55) (zby_w zwX2_meanOfChoice_0 5 rfl) (zby_w zwX2_meanOfChoice_0 6 rfl) (zby_w zwX2_meanOfChoice_0 7 rfl) (by decide)
theorem d_X2_meanOfChoice_8 : decode cX2_meanOfChoice 8 = .ok (.ifCond .eq 15, 3) := zo_153 (a := 0) (b := 15) (zby_w zwX2_meanOfChoice_0 8 rfl) (zby_w zwX2_meanOfChoice_0 9 rfl) (zby_w zwX2_meanOfChoice_0 10 rfl) (by decide)
theorem d_X2_meanOfChoice_11 : decode cX2_meanOfChoice 11 = .ok (.aload_n 0, 1) := zo_42 (zby_w zwX2_meanOfChoice_0 11 rfl)
theorem d_X2_meanOfChoice_12 : decode cX2_meanOfChoice 12 = .ok (.getfield 23, 3) := zo_180 (a := 0) (b := 23) (zby_w zwX2_meanOfChoice_0 12 rfl) (zby_w zwX2_meanOfChoice_0 13 rfl) (zby_w zwX2_meanOfChoice_0 14 rfl) (by decide)
theorem d_X2_meanOfChoice_15 : decode cX2_meanOfChoice 15 = .ok (.iload_n 1, 1) := zo_27 (zby_w zwX2_meanOfChoice_0 15 rfl)
theorem d_X2_meanOfChoice_16 : decode cX2_meanOfChoice 16 = .ok (.laload, 1) := zo_47 (zby_w zwX2_meanOfChoice_0 16 rfl)
theorem d_X2_meanOfChoice_17 : decode cX2_meanOfChoice 17 = .ok (.invokestatic 52, 3) := zo_184 (a := 0) (b := 52) (zby_w zwX2_meanOfChoice_0 17 rfl) (zby_w zwX2_meanOfChoice_0 18 rfl) (zby_w zwX2_meanOfChoice_0 19 rfl) (by decide)
theorem d_X2_meanOfChoice_20 : decode cX2_meanOfChoice 20 = .ok (.goto 5, 3) := zo_167 (a := 0) (b := 5) (zby_w zwX2_meanOfChoice_0 20 rfl) (zby_w zwX2_meanOfChoice_0 21 rfl) (zby_w zwX2_meanOfChoice_0 22 rfl) (by decide)
theorem d_X2_meanOfChoice_23 : decode cX2_meanOfChoice 23 = .ok (.bipush (-6), 2) := zo_16 (a := 250) (zby_w zwX2_meanOfChoice_0 23 rfl) (zby_w zwX2_meanOfChoice_0 24 rfl) (by decide)
theorem d_X2_meanOfChoice_25 : decode cX2_meanOfChoice 25 = .ok (.ireturn, 1) := zo_172 (zby_w zwX2_meanOfChoice_0 25 rfl)
theorem d_X2_onLine_0 : decode cX2_onLine 0 = .ok (.iload_n 1, 1) := zo_27 (zby_w zwX2_onLine_0 0 rfl)
theorem d_X2_onLine_1 : decode cX2_onLine 1 = .ok (.iconst 0, 1) := zo_3 (zby_w zwX2_onLine_0 1 rfl)
theorem d_X2_onLine_2 : decode cX2_onLine 2 = .ok (.sipush 728, 3) := zo_17 (a := 2) (b := 216) (zby_w zwX2_onLine_0 2 rfl) (zby_w zwX2_onLine_0 3 rfl) (zby_w zwX2_onLine_0 4 rfl) (by decide)
theorem d_X2_onLine_5 : decode cX2_onLine 5 = .ok (.invokestatic 55, 3) := zo_184 (a := 0) (b := 55) (zby_w zwX2_onLine_0 5 rfl) (zby_w zwX2_onLine_0 6 rfl) (zby_w zwX2_onLine_0 7 rfl) (by decide)
theorem d_X2_onLine_8 : decode cX2_onLine 8 = .ok (.ifCond .ne 6, 3) := zo_154 (a := 0) (b := 6) (zby_w zwX2_onLine_0 8 rfl) (zby_w zwX2_onLine_0 9 rfl) (zby_w zwX2_onLine_0 10 rfl) (by decide)
theorem d_X2_onLine_11 : decode cX2_onLine 11 = .ok (.bipush (-6), 2) := zo_16 (a := 250) (zby_w zwX2_onLine_0 11 rfl) (zby_w zwX2_onLine_0 12 rfl) (by decide)
theorem d_X2_onLine_13 : decode cX2_onLine 13 = .ok (.ireturn, 1) := zo_172 (zby_w zwX2_onLine_0 13 rfl)
theorem d_X2_onLine_14 : decode cX2_onLine 14 = .ok (.iload_n 2, 1) := zo_28 (zby_w zwX2_onLine_0 14 rfl)
theorem d_X2_onLine_15 : decode cX2_onLine 15 = .ok (.ifCond .ne 15, 3) := zo_154 (a := 0) (b := 15) (zby_w zwX2_onLine_0 15 rfl) (zby_w zwX2_onLine_0 16 rfl) (zby_w zwX2_onLine_0 17 rfl) (by decide)
theorem d_X2_onLine_18 : decode cX2_onLine 18 = .ok (.aload_n 0, 1) := zo_42 (zby_w zwX2_onLine_0 18 rfl)
theorem d_X2_onLine_19 : decode cX2_onLine 19 = .ok (.getfield 26, 3) := zo_180 (a := 0) (b := 26) (zby_w zwX2_onLine_0 19 rfl) (zby_w zwX2_onLine_0 20 rfl) (zby_w zwX2_onLine_0 21 rfl) (by decide)
theorem d_X2_onLine_22 : decode cX2_onLine 22 = .ok (.iload_n 1, 1) := zo_27 (zby_w zwX2_onLine_0 22 rfl)
theorem d_X2_onLine_23 : decode cX2_onLine 23 = .ok (.laload, 1) := zo_47 (zby_w zwX2_onLine_0 23 rfl)
theorem d_X2_onLine_24 : decode cX2_onLine 24 = .ok (.invokestatic 52, 3) := zo_184 (a := 0) (b := 52) (zby_w zwX2_onLine_0 24 rfl) (zby_w zwX2_onLine_0 25 rfl) (zby_w zwX2_onLine_0 26 rfl) (by decide)
theorem d_X2_onLine_27 : decode cX2_onLine 27 = .ok (.goto 12, 3) := zo_167 (a := 0) (b := 12) (zby_w zwX2_onLine_0 27 rfl) (zby_w zwX2_onLine_0 28 rfl) (zby_w zwX2_onLine_0 29 rfl) (by decide)
theorem d_X2_onLine_30 : decode cX2_onLine 30 = .ok (.aload_n 0, 1) := zo_42 (zby_w zwX2_onLine_0 30 rfl)
theorem d_X2_onLine_31 : decode cX2_onLine 31 = .ok (.getfield 26, 3) := zo_180 (a := 0) (b := 26) (zby_w zwX2_onLine_0 31 rfl) (zby_w zwX2_onLine_0 32 rfl) (zby_w zwX2_onLine_0 33 rfl) (by decide)
theorem d_X2_onLine_34 : decode cX2_onLine 34 = .ok (.iload_n 1, 1) := zo_27 (zby_w zwX2_onLine_1 2 rfl)
theorem d_X2_onLine_35 : decode cX2_onLine 35 = .ok (.laload, 1) := zo_47 (zby_w zwX2_onLine_1 3 rfl)
theorem d_X2_onLine_36 : decode cX2_onLine 36 = .ok (.invokestatic 48, 3) := zo_184 (a := 0) (b := 48) (zby_w zwX2_onLine_1 4 rfl) (zby_w zwX2_onLine_1 5 rfl) (zby_w zwX2_onLine_1 6 rfl) (by decide)
theorem d_X2_onLine_39 : decode cX2_onLine 39 = .ok (.ireturn, 1) := zo_172 (zby_w zwX2_onLine_1 7 rfl)
theorem d_X2_sideInChoice_0 : decode cX2_sideInChoice 0 = .ok (.iload_n 1, 1) := zo_27 (zby_w zwX2_sideInChoice_0 0 rfl)
theorem d_X2_sideInChoice_1 : decode cX2_sideInChoice 1 = .ok (.istore_n 3, 1) := zo_62 (zby_w zwX2_sideInChoice_0 1 rfl)
theorem d_X2_sideInChoice_2 : decode cX2_sideInChoice 2 = .ok (.aload_n 0, 1) := zo_42 (zby_w zwX2_sideInChoice_0 2 rfl)
theorem d_X2_sideInChoice_3 : decode cX2_sideInChoice 3 = .ok (.getfield 15, 3) := zo_180 (a := 0) (b := 15) (zby_w zwX2_sideInChoice_0 3 rfl) (zby_w zwX2_sideInChoice_0 4 rfl) (zby_w zwX2_sideInChoice_0 5 rfl) (by decide)
theorem d_X2_sideInChoice_6 : decode cX2_sideInChoice 6 = .ok (.iconst 1, 1) := zo_4 (zby_w zwX2_sideInChoice_0 6 rfl)
theorem d_X2_sideInChoice_7 : decode cX2_sideInChoice 7 = .ok (.isub, 1) := zo_100 (zby_w zwX2_sideInChoice_0 7 rfl)
theorem d_X2_sideInChoice_8 : decode cX2_sideInChoice 8 = .ok (.istore 4, 2) := zo_54 (a := 4) (zby_w zwX2_sideInChoice_0 8 rfl) (zby_w zwX2_sideInChoice_0 9 rfl) (by decide)
theorem d_X2_sideInChoice_10 : decode cX2_sideInChoice 10 = .ok (.iload 4, 2) := zo_21 (a := 4) (zby_w zwX2_sideInChoice_0 10 rfl) (zby_w zwX2_sideInChoice_0 11 rfl) (by decide)
theorem d_X2_sideInChoice_12 : decode cX2_sideInChoice 12 = .ok (.ifCond .lt 28, 3) := zo_155 (a := 0) (b := 28) (zby_w zwX2_sideInChoice_0 12 rfl) (zby_w zwX2_sideInChoice_0 13 rfl) (zby_w zwX2_sideInChoice_0 14 rfl) (by decide)
theorem d_X2_sideInChoice_15 : decode cX2_sideInChoice 15 = .ok (.aload_n 0, 1) := zo_42 (zby_w zwX2_sideInChoice_0 15 rfl)
theorem d_X2_sideInChoice_16 : decode cX2_sideInChoice 16 = .ok (.getfield 9, 3) := zo_180 (a := 0) (b := 9) (zby_w zwX2_sideInChoice_0 16 rfl) (zby_w zwX2_sideInChoice_0 17 rfl) (zby_w zwX2_sideInChoice_0 18 rfl) (by decide)
theorem d_X2_sideInChoice_19 : decode cX2_sideInChoice 19 = .ok (.iload 4, 2) := zo_21 (a := 4) (zby_w zwX2_sideInChoice_0 19 rfl) (zby_w zwX2_sideInChoice_0 20 rfl) (by decide)
theorem d_X2_sideInChoice_21 : decode cX2_sideInChoice 21 = .ok (.iaload, 1) := zo_46 (zby_w zwX2_sideInChoice_0 21 rfl)
theorem d_X2_sideInChoice_22 : decode cX2_sideInChoice 22 = .ok (.iload_n 2, 1) := zo_28 (zby_w zwX2_sideInChoice_0 22 rfl)
theorem d_X2_sideInChoice_23 : decode cX2_sideInChoice 23 = .ok (.if_icmp .ne 7, 3) := zo_160 (a := 0) (b := 7) (zby_w zwX2_sideInChoice_0 23 rfl) (zby_w zwX2_sideInChoice_0 24 rfl) (zby_w zwX2_sideInChoice_0 25 rfl) (by decide)
theorem d_X2_sideInChoice_26 : decode cX2_sideInChoice 26 = .ok (.iload_n 3, 1) := zo_29 (zby_w zwX2_sideInChoice_0 26 rfl)
theorem d_X2_sideInChoice_27 : decode cX2_sideInChoice 27 = .ok (.iconst 3, 1) := zo_6 (zby_w zwX2_sideInChoice_0 27 rfl)
theorem d_X2_sideInChoice_28 : decode cX2_sideInChoice 28 = .ok (.irem, 1) := zo_112 (zby_w zwX2_sideInChoice_0 28 rfl)
theorem d_X2_sideInChoice_29 : decode cX2_sideInChoice 29 = .ok (.ireturn, 1) := zo_172 (zby_w zwX2_sideInChoice_0 29 rfl)
theorem d_X2_sideInChoice_30 : decode cX2_sideInChoice 30 = .ok (.iload_n 3, 1) := zo_29 (zby_w zwX2_sideInChoice_0 30 rfl)
theorem d_X2_sideInChoice_31 : decode cX2_sideInChoice 31 = .ok (.iconst 3, 1) := zo_6 (zby_w zwX2_sideInChoice_0 31 rfl)
theorem d_X2_sideInChoice_32 : decode cX2_sideInChoice 32 = .ok (.idiv, 1) := zo_108 (zby_w zwX2_sideInChoice_1 0 rfl)
theorem d_X2_sideInChoice_33 : decode cX2_sideInChoice 33 = .ok (.istore_n 3, 1) := zo_62 (zby_w zwX2_sideInChoice_1 1 rfl)
theorem d_X2_sideInChoice_34 : decode cX2_sideInChoice 34 = .ok (.iinc 4 (-1), 3) := by decide +kernel
theorem d_X2_sideInChoice_37 : decode cX2_sideInChoice 37 = .ok (.goto (-27), 3) := zo_167 (a := 255) (b := 229) (zby_w zwX2_sideInChoice_1 5 rfl) (zby_w zwX2_sideInChoice_1 6 rfl) (zby_w zwX2_sideInChoice_1 7 rfl) (by decide)
theorem d_X2_sideInChoice_40 : decode cX2_sideInChoice 40 = .ok (.bipush (-6), 2) := zo_16 (a := 250) (zby_w zwX2_sideInChoice_1 8 rfl) (zby_w zwX2_sideInChoice_1 9 rfl) (by decide)
theorem d_X2_sideInChoice_42 : decode cX2_sideInChoice 42 = .ok (.ireturn, 1) := zo_172 (zby_w zwX2_sideInChoice_1 10 rfl)
theorem d_X2_spreadChoices_0 : decode cX2_spreadChoices 0 = .ok (.aload_n 0, 1) := zo_42 (zby_w zwX2_spreadChoices_0 0 rfl)
theorem d_X2_spreadChoices_1 : decode cX2_spreadChoices 1 = .ok (.getfield 23, 3) := zo_180 (a := 0) (b := 23) (zby_w zwX2_spreadChoices_0 1 rfl) (zby_w zwX2_spreadChoices_0 2 rfl) (zby_w zwX2_spreadChoices_0 3 rfl) (by decide)
theorem d_X2_spreadChoices_4 : decode cX2_spreadChoices 4 = .ok (.iconst 0, 1) := zo_3 (zby_w zwX2_spreadChoices_0 4 rfl)
theorem d_X2_spreadChoices_5 : decode cX2_spreadChoices 5 = .ok (.lconst 0, 1) := zo_9 (zby_w zwX2_spreadChoices_0 5 rfl)
theorem d_X2_spreadChoices_6 : decode cX2_spreadChoices 6 = .ok (.lastore, 1) := zo_80 (zby_w zwX2_spreadChoices_0 6 rfl)
theorem d_X2_spreadChoices_7 : decode cX2_spreadChoices 7 = .ok (.iconst 1, 1) := zo_4 (zby_w zwX2_spreadChoices_0 7 rfl)
theorem d_X2_spreadChoices_8 : decode cX2_spreadChoices 8 = .ok (.istore_n 1, 1) := zo_60 (zby_w zwX2_spreadChoices_0 8 rfl)
theorem d_X2_spreadChoices_9 : decode cX2_spreadChoices 9 = .ok (.iconst 0, 1) := zo_3 (zby_w zwX2_spreadChoices_0 9 rfl)
theorem d_X2_spreadChoices_10 : decode cX2_spreadChoices 10 = .ok (.istore_n 2, 1) := zo_61 (zby_w zwX2_spreadChoices_0 10 rfl)
theorem d_X2_spreadChoices_11 : decode cX2_spreadChoices 11 = .ok (.iload_n 2, 1) := zo_28 (zby_w zwX2_spreadChoices_0 11 rfl)
theorem d_X2_spreadChoices_12 : decode cX2_spreadChoices 12 = .ok (.aload_n 0, 1) := zo_42 (zby_w zwX2_spreadChoices_0 12 rfl)
theorem d_X2_spreadChoices_13 : decode cX2_spreadChoices 13 = .ok (.getfield 15, 3) := zo_180 (a := 0) (b := 15) (zby_w zwX2_spreadChoices_0 13 rfl) (zby_w zwX2_spreadChoices_0 14 rfl) (zby_w zwX2_spreadChoices_0 15 rfl) (by decide)
theorem d_X2_spreadChoices_16 : decode cX2_spreadChoices 16 = .ok (.if_icmp .ge 84, 3) := zo_162 (a := 0) (b := 84) (zby_w zwX2_spreadChoices_0 16 rfl) (zby_w zwX2_spreadChoices_0 17 rfl) (zby_w zwX2_spreadChoices_0 18 rfl) (by decide)
theorem d_X2_spreadChoices_19 : decode cX2_spreadChoices 19 = .ok (.iload_n 1, 1) := zo_27 (zby_w zwX2_spreadChoices_0 19 rfl)
theorem d_X2_spreadChoices_20 : decode cX2_spreadChoices 20 = .ok (.iconst 3, 1) := zo_6 (zby_w zwX2_spreadChoices_0 20 rfl)
theorem d_X2_spreadChoices_21 : decode cX2_spreadChoices 21 = .ok (.imul, 1) := zo_104 (zby_w zwX2_spreadChoices_0 21 rfl)
theorem d_X2_spreadChoices_22 : decode cX2_spreadChoices 22 = .ok (.sipush 729, 3) := zo_17 (a := 2) (b := 217) (zby_w zwX2_spreadChoices_0 22 rfl) (zby_w zwX2_spreadChoices_0 23 rfl) (zby_w zwX2_spreadChoices_0 24 rfl) (by decide)
theorem d_X2_spreadChoices_25 : decode cX2_spreadChoices 25 = .ok (.if_icmp .gt 75, 3) := zo_163 (a := 0) (b := 75) (zby_w zwX2_spreadChoices_0 25 rfl) (zby_w zwX2_spreadChoices_0 26 rfl) (zby_w zwX2_spreadChoices_0 27 rfl) (by decide)
theorem d_X2_spreadChoices_28 : decode cX2_spreadChoices 28 = .ok (.iload_n 1, 1) := zo_27 (zby_w zwX2_spreadChoices_0 28 rfl)
theorem d_X2_spreadChoices_29 : decode cX2_spreadChoices 29 = .ok (.iconst 1, 1) := zo_4 (zby_w zwX2_spreadChoices_0 29 rfl)
theorem d_X2_spreadChoices_30 : decode cX2_spreadChoices 30 = .ok (.isub, 1) := zo_100 (zby_w zwX2_spreadChoices_0 30 rfl)
theorem d_X2_spreadChoices_31 : decode cX2_spreadChoices 31 = .ok (.istore_n 3, 1) := zo_62 (zby_w zwX2_spreadChoices_0 31 rfl)
theorem d_X2_spreadChoices_32 : decode cX2_spreadChoices 32 = .ok (.iload_n 3, 1) := zo_29 (zby_w zwX2_spreadChoices_1 0 rfl)
theorem d_X2_spreadChoices_33 : decode cX2_spreadChoices 33 = .ok (.ifCond .lt 57, 3) := zo_155 (a := 0) (b := 57) (zby_w zwX2_spreadChoices_1 1 rfl) (zby_w zwX2_spreadChoices_1 2 rfl) (zby_w zwX2_spreadChoices_1 3 rfl) (by decide)
theorem d_X2_spreadChoices_36 : decode cX2_spreadChoices 36 = .ok (.aload_n 0, 1) := zo_42 (zby_w zwX2_spreadChoices_1 4 rfl)
theorem d_X2_spreadChoices_37 : decode cX2_spreadChoices 37 = .ok (.getfield 23, 3) := zo_180 (a := 0) (b := 23) (zby_w zwX2_spreadChoices_1 5 rfl) (zby_w zwX2_spreadChoices_1 6 rfl) (zby_w zwX2_spreadChoices_1 7 rfl) (by decide)
theorem d_X2_spreadChoices_40 : decode cX2_spreadChoices 40 = .ok (.iload_n 3, 1) := zo_29 (zby_w zwX2_spreadChoices_1 8 rfl)
theorem d_X2_spreadChoices_41 : decode cX2_spreadChoices 41 = .ok (.laload, 1) := zo_47 (zby_w zwX2_spreadChoices_1 9 rfl)
theorem d_X2_spreadChoices_42 : decode cX2_spreadChoices 42 = .ok (.lstore 4, 2) := zo_55 (a := 4) (zby_w zwX2_spreadChoices_1 10 rfl) (zby_w zwX2_spreadChoices_1 11 rfl) (by decide)
theorem d_X2_spreadChoices_44 : decode cX2_spreadChoices 44 = .ok (.iconst 0, 1) := zo_3 (zby_w zwX2_spreadChoices_1 12 rfl)
theorem d_X2_spreadChoices_45 : decode cX2_spreadChoices 45 = .ok (.istore 6, 2) := zo_54 (a := 6) (zby_w zwX2_spreadChoices_1 13 rfl) (zby_w zwX2_spreadChoices_1 14 rfl) (by decide)
theorem d_X2_spreadChoices_47 : decode cX2_spreadChoices 47 = .ok (.iload 6, 2) := zo_21 (a := 6) (zby_w zwX2_spreadChoices_1 15 rfl) (zby_w zwX2_spreadChoices_1 16 rfl) (by decide)
theorem d_X2_spreadChoices_49 : decode cX2_spreadChoices 49 = .ok (.iconst 3, 1) := zo_6 (zby_w zwX2_spreadChoices_1 17 rfl)
theorem d_X2_spreadChoices_50 : decode cX2_spreadChoices 50 = .ok (.if_icmp .ge 34, 3) := zo_162 (a := 0) (b := 34) (zby_w zwX2_spreadChoices_1 18 rfl) (zby_w zwX2_spreadChoices_1 19 rfl) (zby_w zwX2_spreadChoices_1 20 rfl) (by decide)
theorem d_X2_spreadChoices_53 : decode cX2_spreadChoices 53 = .ok (.aload_n 0, 1) := zo_42 (zby_w zwX2_spreadChoices_1 21 rfl)
theorem d_X2_spreadChoices_54 : decode cX2_spreadChoices 54 = .ok (.getfield 23, 3) := zo_180 (a := 0) (b := 23) (zby_w zwX2_spreadChoices_1 22 rfl) (zby_w zwX2_spreadChoices_1 23 rfl) (zby_w zwX2_spreadChoices_1 24 rfl) (by decide)
theorem d_X2_spreadChoices_57 : decode cX2_spreadChoices 57 = .ok (.iload_n 3, 1) := zo_29 (zby_w zwX2_spreadChoices_1 25 rfl)
theorem d_X2_spreadChoices_58 : decode cX2_spreadChoices 58 = .ok (.iconst 3, 1) := zo_6 (zby_w zwX2_spreadChoices_1 26 rfl)
theorem d_X2_spreadChoices_59 : decode cX2_spreadChoices 59 = .ok (.imul, 1) := zo_104 (zby_w zwX2_spreadChoices_1 27 rfl)
theorem d_X2_spreadChoices_60 : decode cX2_spreadChoices 60 = .ok (.iload 6, 2) := zo_21 (a := 6) (zby_w zwX2_spreadChoices_1 28 rfl) (zby_w zwX2_spreadChoices_1 29 rfl) (by decide)
theorem d_X2_spreadChoices_62 : decode cX2_spreadChoices 62 = .ok (.iadd, 1) := zo_96 (zby_w zwX2_spreadChoices_1 30 rfl)
theorem d_X2_spreadChoices_63 : decode cX2_spreadChoices 63 = .ok (.lload 4, 2) := zo_22 (a := 4) (zby_w zwX2_spreadChoices_1 31 rfl) (zby_w zwX2_spreadChoices_1 32 rfl) (by decide)
theorem d_X2_spreadChoices_65 : decode cX2_spreadChoices 65 = .ok (.aload_n 0, 1) := zo_42 (zby_w zwX2_spreadChoices_2 1 rfl)
theorem d_X2_spreadChoices_66 : decode cX2_spreadChoices 66 = .ok (.getfield 19, 3) := zo_180 (a := 0) (b := 19) (zby_w zwX2_spreadChoices_2 2 rfl) (zby_w zwX2_spreadChoices_2 3 rfl) (zby_w zwX2_spreadChoices_2 4 rfl) (by decide)
theorem d_X2_spreadChoices_69 : decode cX2_spreadChoices 69 = .ok (.iload_n 2, 1) := zo_28 (zby_w zwX2_spreadChoices_2 5 rfl)
theorem d_X2_spreadChoices_70 : decode cX2_spreadChoices 70 = .ok (.iconst 3, 1) := zo_6 (zby_w zwX2_spreadChoices_2 6 rfl)
theorem d_X2_spreadChoices_71 : decode cX2_spreadChoices 71 = .ok (.imul, 1) := zo_104 (zby_w zwX2_spreadChoices_2 7 rfl)
theorem d_X2_spreadChoices_72 : decode cX2_spreadChoices 72 = .ok (.iload 6, 2) := zo_21 (a := 6) (zby_w zwX2_spreadChoices_2 8 rfl) (zby_w zwX2_spreadChoices_2 9 rfl) (by decide)
theorem d_X2_spreadChoices_74 : decode cX2_spreadChoices 74 = .ok (.iadd, 1) := zo_96 (zby_w zwX2_spreadChoices_2 10 rfl)
theorem d_X2_spreadChoices_75 : decode cX2_spreadChoices 75 = .ok (.laload, 1) := zo_47 (zby_w zwX2_spreadChoices_2 11 rfl)
theorem d_X2_spreadChoices_76 : decode cX2_spreadChoices 76 = .ok (.ladd, 1) := zo_97 (zby_w zwX2_spreadChoices_2 12 rfl)
theorem d_X2_spreadChoices_77 : decode cX2_spreadChoices 77 = .ok (.lastore, 1) := zo_80 (zby_w zwX2_spreadChoices_2 13 rfl)
theorem d_X2_spreadChoices_78 : decode cX2_spreadChoices 78 = .ok (.iinc 6 1, 3) := by decide +kernel
theorem d_X2_spreadChoices_81 : decode cX2_spreadChoices 81 = .ok (.goto (-34), 3) := zo_167 (a := 255) (b := 222) (zby_w zwX2_spreadChoices_2 17 rfl) (zby_w zwX2_spreadChoices_2 18 rfl) (zby_w zwX2_spreadChoices_2 19 rfl) (by decide)
theorem d_X2_spreadChoices_84 : decode cX2_spreadChoices 84 = .ok (.iinc 3 (-1), 3) := by decide +kernel
theorem d_X2_spreadChoices_87 : decode cX2_spreadChoices 87 = .ok (.goto (-55), 3) := zo_167 (a := 255) (b := 201) (zby_w zwX2_spreadChoices_2 23 rfl) (zby_w zwX2_spreadChoices_2 24 rfl) (zby_w zwX2_spreadChoices_2 25 rfl) (by decide)
theorem d_X2_spreadChoices_90 : decode cX2_spreadChoices 90 = .ok (.iload_n 1, 1) := zo_27 (zby_w zwX2_spreadChoices_2 26 rfl)
theorem d_X2_spreadChoices_91 : decode cX2_spreadChoices 91 = .ok (.iconst 3, 1) := zo_6 (zby_w zwX2_spreadChoices_2 27 rfl)
theorem d_X2_spreadChoices_92 : decode cX2_spreadChoices 92 = .ok (.imul, 1) := zo_104 (zby_w zwX2_spreadChoices_2 28 rfl)
theorem d_X2_spreadChoices_93 : decode cX2_spreadChoices 93 = .ok (.istore_n 1, 1) := zo_60 (zby_w zwX2_spreadChoices_2 29 rfl)
theorem d_X2_spreadChoices_94 : decode cX2_spreadChoices 94 = .ok (.iinc 2 1, 3) := by decide +kernel
theorem d_X2_spreadChoices_97 : decode cX2_spreadChoices 97 = .ok (.goto (-86), 3) := zo_167 (a := 255) (b := 170) (zby_w zwX2_spreadChoices_3 1 rfl) (zby_w zwX2_spreadChoices_3 2 rfl) (zby_w zwX2_spreadChoices_3 3 rfl) (by decide)
theorem d_X2_spreadChoices_100 : decode cX2_spreadChoices 100 = .ok (.iload_n 1, 1) := zo_27 (zby_w zwX2_spreadChoices_3 4 rfl)
theorem d_X2_spreadChoices_101 : decode cX2_spreadChoices 101 = .ok (.ireturn, 1) := zo_172 (zby_w zwX2_spreadChoices_3 5 rfl)
theorem d_X2_widenFront_0 : decode cX2_widenFront 0 = .ok (.iconst 0, 1) := zo_3 (zby_w zwX2_widenFront_0 0 rfl)
theorem d_X2_widenFront_1 : decode cX2_widenFront 1 = .ok (.istore_n 3, 1) := zo_62 (zby_w zwX2_widenFront_0 1 rfl)
theorem d_X2_widenFront_2 : decode cX2_widenFront 2 = .ok (.iconst 0, 1) := zo_3 (zby_w zwX2_widenFront_0 2 rfl)
theorem d_X2_widenFront_3 : decode cX2_widenFront 3 = .ok (.istore 4, 2) := zo_54 (a := 4) (zby_w zwX2_widenFront_0 3 rfl) (zby_w zwX2_widenFront_0 4 rfl) (by decide)
theorem d_X2_widenFront_5 : decode cX2_widenFront 5 = .ok (.iconst 0, 1) := zo_3 (zby_w zwX2_widenFront_0 5 rfl)
theorem d_X2_widenFront_6 : decode cX2_widenFront 6 = .ok (.istore 5, 2) := zo_54 (a := 5) (zby_w zwX2_widenFront_0 6 rfl) (zby_w zwX2_widenFront_0 7 rfl) (by decide)
theorem d_X2_widenFront_8 : decode cX2_widenFront 8 = .ok (.iconst 0, 1) := zo_3 (zby_w zwX2_widenFront_0 8 rfl)
theorem d_X2_widenFront_9 : decode cX2_widenFront 9 = .ok (.istore 6, 2) := zo_54 (a := 6) (zby_w zwX2_widenFront_0 9 rfl) (zby_w zwX2_widenFront_0 10 rfl) (by decide)
theorem d_X2_widenFront_11 : decode cX2_widenFront 11 = .ok (.iconst 0, 1) := zo_3 (zby_w zwX2_widenFront_0 11 rfl)
theorem d_X2_widenFront_12 : decode cX2_widenFront 12 = .ok (.istore 7, 2) := zo_54 (a := 7) (zby_w zwX2_widenFront_0 12 rfl) (zby_w zwX2_widenFront_0 13 rfl) (by decide)
theorem d_X2_widenFront_14 : decode cX2_widenFront 14 = .ok (.iload 7, 2) := zo_21 (a := 7) (zby_w zwX2_widenFront_0 14 rfl) (zby_w zwX2_widenFront_0 15 rfl) (by decide)
theorem d_X2_widenFront_16 : decode cX2_widenFront 16 = .ok (.iconst 3, 1) := zo_6 (zby_w zwX2_widenFront_0 16 rfl)
theorem d_X2_widenFront_17 : decode cX2_widenFront 17 = .ok (.iload_n 1, 1) := zo_27 (zby_w zwX2_widenFront_0 17 rfl)
theorem d_X2_widenFront_18 : decode cX2_widenFront 18 = .ok (.imul, 1) := zo_104 (zby_w zwX2_widenFront_0 18 rfl)
theorem d_X2_widenFront_19 : decode cX2_widenFront 19 = .ok (.if_icmp .ge 185, 3) := zo_162 (a := 0) (b := 185) (zby_w zwX2_widenFront_0 19 rfl) (zby_w zwX2_widenFront_0 20 rfl) (zby_w zwX2_widenFront_0 21 rfl) (by decide)
theorem d_X2_widenFront_22 : decode cX2_widenFront 22 = .ok (.iload_n 3, 1) := zo_29 (zby_w zwX2_widenFront_0 22 rfl)
theorem d_X2_widenFront_23 : decode cX2_widenFront 23 = .ok (.iload_n 1, 1) := zo_27 (zby_w zwX2_widenFront_0 23 rfl)
theorem d_X2_widenFront_24 : decode cX2_widenFront 24 = .ok (.if_icmp .ge 19, 3) := zo_162 (a := 0) (b := 19) (zby_w zwX2_widenFront_0 24 rfl) (zby_w zwX2_widenFront_0 25 rfl) (zby_w zwX2_widenFront_0 26 rfl) (by decide)
theorem d_X2_widenFront_27 : decode cX2_widenFront 27 = .ok (.aload_n 0, 1) := zo_42 (zby_w zwX2_widenFront_0 27 rfl)
theorem d_X2_widenFront_28 : decode cX2_widenFront 28 = .ok (.getfield 26, 3) := zo_180 (a := 0) (b := 26) (zby_w zwX2_widenFront_0 28 rfl) (zby_w zwX2_widenFront_0 29 rfl) (zby_w zwX2_widenFront_0 30 rfl) (by decide)
theorem d_X2_widenFront_31 : decode cX2_widenFront 31 = .ok (.iload_n 3, 1) := zo_29 (zby_w zwX2_widenFront_0 31 rfl)
theorem d_X2_widenFront_32 : decode cX2_widenFront 32 = .ok (.laload, 1) := zo_47 (zby_w zwX2_widenFront_1 0 rfl)
theorem d_X2_widenFront_33 : decode cX2_widenFront 33 = .ok (.aload_n 0, 1) := zo_42 (zby_w zwX2_widenFront_1 1 rfl)
theorem d_X2_widenFront_34 : decode cX2_widenFront 34 = .ok (.getfield 19, 3) := zo_180 (a := 0) (b := 19) (zby_w zwX2_widenFront_1 2 rfl) (zby_w zwX2_widenFront_1 3 rfl) (zby_w zwX2_widenFront_1 4 rfl) (by decide)
theorem d_X2_widenFront_37 : decode cX2_widenFront 37 = .ok (.iload_n 2, 1) := zo_28 (zby_w zwX2_widenFront_1 5 rfl)
theorem d_X2_widenFront_38 : decode cX2_widenFront 38 = .ok (.laload, 1) := zo_47 (zby_w zwX2_widenFront_1 6 rfl)
theorem d_X2_widenFront_39 : decode cX2_widenFront 39 = .ok (.ladd, 1) := zo_97 (zby_w zwX2_widenFront_1 7 rfl)
theorem d_X2_widenFront_40 : decode cX2_widenFront 40 = .ok (.goto 6, 3) := zo_167 (a := 0) (b := 6) (zby_w zwX2_widenFront_1 8 rfl) (zby_w zwX2_widenFront_1 9 rfl) (zby_w zwX2_widenFront_1 10 rfl) (by decide)
theorem d_X2_widenFront_43 : decode cX2_widenFront 43 = .ok (.ldc2_w 63, 3) := zo_20 (a := 0) (b := 63) (zby_w zwX2_widenFront_1 11 rfl) (zby_w zwX2_widenFront_1 12 rfl) (zby_w zwX2_widenFront_1 13 rfl) (by decide)
theorem d_X2_widenFront_46 : decode cX2_widenFront 46 = .ok (.lstore 8, 2) := zo_55 (a := 8) (zby_w zwX2_widenFront_1 14 rfl) (zby_w zwX2_widenFront_1 15 rfl) (by decide)
theorem d_X2_widenFront_48 : decode cX2_widenFront 48 = .ok (.iload 4, 2) := zo_21 (a := 4) (zby_w zwX2_widenFront_1 16 rfl) (zby_w zwX2_widenFront_1 17 rfl) (by decide)
theorem d_X2_widenFront_50 : decode cX2_widenFront 50 = .ok (.iload_n 1, 1) := zo_27 (zby_w zwX2_widenFront_1 18 rfl)
theorem d_X2_widenFront_51 : decode cX2_widenFront 51 = .ok (.if_icmp .ge 22, 3) := zo_162 (a := 0) (b := 22) (zby_w zwX2_widenFront_1 19 rfl) (zby_w zwX2_widenFront_1 20 rfl) (zby_w zwX2_widenFront_1 21 rfl) (by decide)
theorem d_X2_widenFront_54 : decode cX2_widenFront 54 = .ok (.aload_n 0, 1) := zo_42 (zby_w zwX2_widenFront_1 22 rfl)
theorem d_X2_widenFront_55 : decode cX2_widenFront 55 = .ok (.getfield 26, 3) := zo_180 (a := 0) (b := 26) (zby_w zwX2_widenFront_1 23 rfl) (zby_w zwX2_widenFront_1 24 rfl) (zby_w zwX2_widenFront_1 25 rfl) (by decide)
theorem d_X2_widenFront_58 : decode cX2_widenFront 58 = .ok (.iload 4, 2) := zo_21 (a := 4) (zby_w zwX2_widenFront_1 26 rfl) (zby_w zwX2_widenFront_1 27 rfl) (by decide)
theorem d_X2_widenFront_60 : decode cX2_widenFront 60 = .ok (.laload, 1) := zo_47 (zby_w zwX2_widenFront_1 28 rfl)
theorem d_X2_widenFront_61 : decode cX2_widenFront 61 = .ok (.aload_n 0, 1) := zo_42 (zby_w zwX2_widenFront_1 29 rfl)
theorem d_X2_widenFront_62 : decode cX2_widenFront 62 = .ok (.getfield 19, 3) := zo_180 (a := 0) (b := 19) (zby_w zwX2_widenFront_1 30 rfl) (zby_w zwX2_widenFront_1 31 rfl) (zby_w zwX2_widenFront_1 32 rfl) (by decide)
theorem d_X2_widenFront_65 : decode cX2_widenFront 65 = .ok (.iload_n 2, 1) := zo_28 (zby_w zwX2_widenFront_2 1 rfl)
theorem d_X2_widenFront_66 : decode cX2_widenFront 66 = .ok (.iconst 1, 1) := zo_4 (zby_w zwX2_widenFront_2 2 rfl)
theorem d_X2_widenFront_67 : decode cX2_widenFront 67 = .ok (.iadd, 1) := zo_96 (zby_w zwX2_widenFront_2 3 rfl)
theorem d_X2_widenFront_68 : decode cX2_widenFront 68 = .ok (.laload, 1) := zo_47 (zby_w zwX2_widenFront_2 4 rfl)
theorem d_X2_widenFront_69 : decode cX2_widenFront 69 = .ok (.ladd, 1) := zo_97 (zby_w zwX2_widenFront_2 5 rfl)
theorem d_X2_widenFront_70 : decode cX2_widenFront 70 = .ok (.goto 6, 3) := zo_167 (a := 0) (b := 6) (zby_w zwX2_widenFront_2 6 rfl) (zby_w zwX2_widenFront_2 7 rfl) (zby_w zwX2_widenFront_2 8 rfl) (by decide)
theorem d_X2_widenFront_73 : decode cX2_widenFront 73 = .ok (.ldc2_w 63, 3) := zo_20 (a := 0) (b := 63) (zby_w zwX2_widenFront_2 9 rfl) (zby_w zwX2_widenFront_2 10 rfl) (zby_w zwX2_widenFront_2 11 rfl) (by decide)
theorem d_X2_widenFront_76 : decode cX2_widenFront 76 = .ok (.lstore 10, 2) := zo_55 (a := 10) (zby_w zwX2_widenFront_2 12 rfl) (zby_w zwX2_widenFront_2 13 rfl) (by decide)
theorem d_X2_widenFront_78 : decode cX2_widenFront 78 = .ok (.iload 5, 2) := zo_21 (a := 5) (zby_w zwX2_widenFront_2 14 rfl) (zby_w zwX2_widenFront_2 15 rfl) (by decide)
theorem d_X2_widenFront_80 : decode cX2_widenFront 80 = .ok (.iload_n 1, 1) := zo_27 (zby_w zwX2_widenFront_2 16 rfl)
theorem d_X2_widenFront_81 : decode cX2_widenFront 81 = .ok (.if_icmp .ge 22, 3) := zo_162 (a := 0) (b := 22) (zby_w zwX2_widenFront_2 17 rfl) (zby_w zwX2_widenFront_2 18 rfl) (zby_w zwX2_widenFront_2 19 rfl) (by decide)
theorem d_X2_widenFront_84 : decode cX2_widenFront 84 = .ok (.aload_n 0, 1) := zo_42 (zby_w zwX2_widenFront_2 20 rfl)
theorem d_X2_widenFront_85 : decode cX2_widenFront 85 = .ok (.getfield 26, 3) := zo_180 (a := 0) (b := 26) (zby_w zwX2_widenFront_2 21 rfl) (zby_w zwX2_widenFront_2 22 rfl) (zby_w zwX2_widenFront_2 23 rfl) (by decide)
theorem d_X2_widenFront_88 : decode cX2_widenFront 88 = .ok (.iload 5, 2) := zo_21 (a := 5) (zby_w zwX2_widenFront_2 24 rfl) (zby_w zwX2_widenFront_2 25 rfl) (by decide)
theorem d_X2_widenFront_90 : decode cX2_widenFront 90 = .ok (.laload, 1) := zo_47 (zby_w zwX2_widenFront_2 26 rfl)
theorem d_X2_widenFront_91 : decode cX2_widenFront 91 = .ok (.aload_n 0, 1) := zo_42 (zby_w zwX2_widenFront_2 27 rfl)
theorem d_X2_widenFront_92 : decode cX2_widenFront 92 = .ok (.getfield 19, 3) := zo_180 (a := 0) (b := 19) (zby_w zwX2_widenFront_2 28 rfl) (zby_w zwX2_widenFront_2 29 rfl) (zby_w zwX2_widenFront_2 30 rfl) (by decide)
theorem d_X2_widenFront_95 : decode cX2_widenFront 95 = .ok (.iload_n 2, 1) := zo_28 (zby_w zwX2_widenFront_2 31 rfl)
theorem d_X2_widenFront_96 : decode cX2_widenFront 96 = .ok (.iconst 2, 1) := zo_5 (zby_w zwX2_widenFront_3 0 rfl)
theorem d_X2_widenFront_97 : decode cX2_widenFront 97 = .ok (.iadd, 1) := zo_96 (zby_w zwX2_widenFront_3 1 rfl)
theorem d_X2_widenFront_98 : decode cX2_widenFront 98 = .ok (.laload, 1) := zo_47 (zby_w zwX2_widenFront_3 2 rfl)
theorem d_X2_widenFront_99 : decode cX2_widenFront 99 = .ok (.ladd, 1) := zo_97 (zby_w zwX2_widenFront_3 3 rfl)
theorem d_X2_widenFront_100 : decode cX2_widenFront 100 = .ok (.goto 6, 3) := zo_167 (a := 0) (b := 6) (zby_w zwX2_widenFront_3 4 rfl) (zby_w zwX2_widenFront_3 5 rfl) (zby_w zwX2_widenFront_3 6 rfl) (by decide)
theorem d_X2_widenFront_103 : decode cX2_widenFront 103 = .ok (.ldc2_w 63, 3) := zo_20 (a := 0) (b := 63) (zby_w zwX2_widenFront_3 7 rfl) (zby_w zwX2_widenFront_3 8 rfl) (zby_w zwX2_widenFront_3 9 rfl) (by decide)
theorem d_X2_widenFront_106 : decode cX2_widenFront 106 = .ok (.lstore 12, 2) := zo_55 (a := 12) (zby_w zwX2_widenFront_3 10 rfl) (zby_w zwX2_widenFront_3 11 rfl) (by decide)
theorem d_X2_widenFront_108 : decode cX2_widenFront 108 = .ok (.lload 8, 2) := zo_22 (a := 8) (zby_w zwX2_widenFront_3 12 rfl) (zby_w zwX2_widenFront_3 13 rfl) (by decide)
theorem d_X2_widenFront_110 : decode cX2_widenFront 110 = .ok (.lload 10, 2) := zo_22 (a := 10) (zby_w zwX2_widenFront_3 14 rfl) (zby_w zwX2_widenFront_3 15 rfl) (by decide)
theorem d_X2_widenFront_112 : decode cX2_widenFront 112 = .ok (.lload 12, 2) := zo_22 (a := 12) (zby_w zwX2_widenFront_3 16 rfl) (zby_w zwX2_widenFront_3 17 rfl) (by decide)
theorem d_X2_widenFront_114 : decode cX2_widenFront 114 = .ok (.invokestatic 65, 3) := zo_184 (a := 0) (b := 65) (zby_w zwX2_widenFront_3 18 rfl) (zby_w zwX2_widenFront_3 19 rfl) (zby_w zwX2_widenFront_3 20 rfl) (by decide)
theorem d_X2_widenFront_117 : decode cX2_widenFront 117 = .ok (.invokestatic 65, 3) := zo_184 (a := 0) (b := 65) (zby_w zwX2_widenFront_3 21 rfl) (zby_w zwX2_widenFront_3 22 rfl) (zby_w zwX2_widenFront_3 23 rfl) (by decide)
theorem d_X2_widenFront_120 : decode cX2_widenFront 120 = .ok (.lstore 14, 2) := zo_55 (a := 14) (zby_w zwX2_widenFront_3 24 rfl) (zby_w zwX2_widenFront_3 25 rfl) (by decide)
theorem d_X2_widenFront_122 : decode cX2_widenFront 122 = .ok (.lload 14, 2) := zo_22 (a := 14) (zby_w zwX2_widenFront_3 26 rfl) (zby_w zwX2_widenFront_3 27 rfl) (by decide)
theorem d_X2_widenFront_124 : decode cX2_widenFront 124 = .ok (.lload 8, 2) := zo_22 (a := 8) (zby_w zwX2_widenFront_3 28 rfl) (zby_w zwX2_widenFront_3 29 rfl) (by decide)
theorem d_X2_widenFront_126 : decode cX2_widenFront 126 = .ok (.lcmp, 1) := zo_148 (zby_w zwX2_widenFront_3 30 rfl)
theorem d_X2_widenFront_127 : decode cX2_widenFront 127 = .ok (.ifCond .ne 9, 3) := zo_154 (a := 0) (b := 9) (zby_w zwX2_widenFront_3 31 rfl) (zby_w zwX2_widenFront_3 32 rfl) (zby_w zwX2_widenFront_3 33 rfl) (by decide)
theorem d_X2_widenFront_130 : decode cX2_widenFront 130 = .ok (.iinc 3 1, 3) := by decide +kernel
theorem d_X2_widenFront_133 : decode cX2_widenFront 133 = .ok (.goto 20, 3) := zo_167 (a := 0) (b := 20) (zby_w zwX2_widenFront_4 5 rfl) (zby_w zwX2_widenFront_4 6 rfl) (zby_w zwX2_widenFront_4 7 rfl) (by decide)
theorem d_X2_widenFront_136 : decode cX2_widenFront 136 = .ok (.lload 14, 2) := zo_22 (a := 14) (zby_w zwX2_widenFront_4 8 rfl) (zby_w zwX2_widenFront_4 9 rfl) (by decide)
theorem d_X2_widenFront_138 : decode cX2_widenFront 138 = .ok (.lload 10, 2) := zo_22 (a := 10) (zby_w zwX2_widenFront_4 10 rfl) (zby_w zwX2_widenFront_4 11 rfl) (by decide)
theorem d_X2_widenFront_140 : decode cX2_widenFront 140 = .ok (.lcmp, 1) := zo_148 (zby_w zwX2_widenFront_4 12 rfl)
theorem d_X2_widenFront_141 : decode cX2_widenFront 141 = .ok (.ifCond .ne 9, 3) := zo_154 (a := 0) (b := 9) (zby_w zwX2_widenFront_4 13 rfl) (zby_w zwX2_widenFront_4 14 rfl) (zby_w zwX2_widenFront_4 15 rfl) (by decide)
theorem d_X2_widenFront_144 : decode cX2_widenFront 144 = .ok (.iinc 4 1, 3) := by decide +kernel
theorem d_X2_widenFront_147 : decode cX2_widenFront 147 = .ok (.goto 6, 3) := zo_167 (a := 0) (b := 6) (zby_w zwX2_widenFront_4 19 rfl) (zby_w zwX2_widenFront_4 20 rfl) (zby_w zwX2_widenFront_4 21 rfl) (by decide)
theorem d_X2_widenFront_150 : decode cX2_widenFront 150 = .ok (.iinc 5 1, 3) := by decide +kernel
theorem d_X2_widenFront_153 : decode cX2_widenFront 153 = .ok (.iload 6, 2) := zo_21 (a := 6) (zby_w zwX2_widenFront_4 25 rfl) (zby_w zwX2_widenFront_4 26 rfl) (by decide)
theorem d_X2_widenFront_155 : decode cX2_widenFront 155 = .ok (.sipush 729, 3) := zo_17 (a := 2) (b := 217) (zby_w zwX2_widenFront_4 27 rfl) (zby_w zwX2_widenFront_4 28 rfl) (zby_w zwX2_widenFront_4 29 rfl) (by decide)
theorem d_X2_widenFront_158 : decode cX2_widenFront 158 = .ok (.if_icmp .ge 40, 3) := zo_162 (a := 0) (b := 40) (zby_w zwX2_widenFront_4 30 rfl) (zby_w zwX2_widenFront_4 31 rfl) (zby_w zwX2_widenFront_4 32 rfl) (by decide)
theorem d_X2_widenFront_161 : decode cX2_widenFront 161 = .ok (.iload 6, 2) := zo_21 (a := 6) (zby_w zwX2_widenFront_5 1 rfl) (zby_w zwX2_widenFront_5 2 rfl) (by decide)
theorem d_X2_widenFront_163 : decode cX2_widenFront 163 = .ok (.ifCond .eq 23, 3) := zo_153 (a := 0) (b := 23) (zby_w zwX2_widenFront_5 3 rfl) (zby_w zwX2_widenFront_5 4 rfl) (zby_w zwX2_widenFront_5 5 rfl) (by decide)
theorem d_X2_widenFront_166 : decode cX2_widenFront 166 = .ok (.lload 14, 2) := zo_22 (a := 14) (zby_w zwX2_widenFront_5 6 rfl) (zby_w zwX2_widenFront_5 7 rfl) (by decide)
theorem d_X2_widenFront_168 : decode cX2_widenFront 168 = .ok (.invokestatic 48, 3) := zo_184 (a := 0) (b := 48) (zby_w zwX2_widenFront_5 8 rfl) (zby_w zwX2_widenFront_5 9 rfl) (zby_w zwX2_widenFront_5 10 rfl) (by decide)
theorem d_X2_widenFront_171 : decode cX2_widenFront 171 = .ok (.aload_n 0, 1) := zo_42 (zby_w zwX2_widenFront_5 11 rfl)
theorem d_X2_widenFront_172 : decode cX2_widenFront 172 = .ok (.getfield 29, 3) := zo_180 (a := 0) (b := 29) (zby_w zwX2_widenFront_5 12 rfl) (zby_w zwX2_widenFront_5 13 rfl) (zby_w zwX2_widenFront_5 14 rfl) (by decide)
theorem d_X2_widenFront_175 : decode cX2_widenFront 175 = .ok (.iload 6, 2) := zo_21 (a := 6) (zby_w zwX2_widenFront_5 15 rfl) (zby_w zwX2_widenFront_5 16 rfl) (by decide)
theorem d_X2_widenFront_177 : decode cX2_widenFront 177 = .ok (.iconst 1, 1) := zo_4 (zby_w zwX2_widenFront_5 17 rfl)
theorem d_X2_widenFront_178 : decode cX2_widenFront 178 = .ok (.isub, 1) := zo_100 (zby_w zwX2_widenFront_5 18 rfl)
theorem d_X2_widenFront_179 : decode cX2_widenFront 179 = .ok (.laload, 1) := zo_47 (zby_w zwX2_widenFront_5 19 rfl)
theorem d_X2_widenFront_180 : decode cX2_widenFront 180 = .ok (.invokestatic 48, 3) := zo_184 (a := 0) (b := 48) (zby_w zwX2_widenFront_5 20 rfl) (zby_w zwX2_widenFront_5 21 rfl) (zby_w zwX2_widenFront_5 22 rfl) (by decide)
theorem d_X2_widenFront_183 : decode cX2_widenFront 183 = .ok (.if_icmp .ge 15, 3) := zo_162 (a := 0) (b := 15) (zby_w zwX2_widenFront_5 23 rfl) (zby_w zwX2_widenFront_5 24 rfl) (zby_w zwX2_widenFront_5 25 rfl) (by decide)
theorem d_X2_widenFront_186 : decode cX2_widenFront 186 = .ok (.aload_n 0, 1) := zo_42 (zby_w zwX2_widenFront_5 26 rfl)
theorem d_X2_widenFront_187 : decode cX2_widenFront 187 = .ok (.getfield 29, 3) := zo_180 (a := 0) (b := 29) (zby_w zwX2_widenFront_5 27 rfl) (zby_w zwX2_widenFront_5 28 rfl) (zby_w zwX2_widenFront_5 29 rfl) (by decide)
theorem d_X2_widenFront_190 : decode cX2_widenFront 190 = .ok (.iload 6, 2) := zo_21 (a := 6) (zby_w zwX2_widenFront_5 30 rfl) (zby_w zwX2_widenFront_5 31 rfl) (by decide)
theorem d_X2_widenFront_192 : decode cX2_widenFront 192 = .ok (.lload 14, 2) := zo_22 (a := 14) (zby_w zwX2_widenFront_6 0 rfl) (zby_w zwX2_widenFront_6 1 rfl) (by decide)
theorem d_X2_widenFront_194 : decode cX2_widenFront 194 = .ok (.lastore, 1) := zo_80 (zby_w zwX2_widenFront_6 2 rfl)
theorem d_X2_widenFront_195 : decode cX2_widenFront 195 = .ok (.iinc 6 1, 3) := by decide +kernel
theorem d_X2_widenFront_198 : decode cX2_widenFront 198 = .ok (.iinc 7 1, 3) := by decide +kernel
theorem d_X2_widenFront_201 : decode cX2_widenFront 201 = .ok (.goto (-187), 3) := zo_167 (a := 255) (b := 69) (zby_w zwX2_widenFront_6 9 rfl) (zby_w zwX2_widenFront_6 10 rfl) (zby_w zwX2_widenFront_6 11 rfl) (by decide)
theorem d_X2_widenFront_204 : decode cX2_widenFront 204 = .ok (.aload_n 0, 1) := zo_42 (zby_w zwX2_widenFront_6 12 rfl)
theorem d_X2_widenFront_205 : decode cX2_widenFront 205 = .ok (.getfield 29, 3) := zo_180 (a := 0) (b := 29) (zby_w zwX2_widenFront_6 13 rfl) (zby_w zwX2_widenFront_6 14 rfl) (zby_w zwX2_widenFront_6 15 rfl) (by decide)
theorem d_X2_widenFront_208 : decode cX2_widenFront 208 = .ok (.iconst 0, 1) := zo_3 (zby_w zwX2_widenFront_6 16 rfl)
theorem d_X2_widenFront_209 : decode cX2_widenFront 209 = .ok (.aload_n 0, 1) := zo_42 (zby_w zwX2_widenFront_6 17 rfl)
theorem d_X2_widenFront_210 : decode cX2_widenFront 210 = .ok (.getfield 26, 3) := zo_180 (a := 0) (b := 26) (zby_w zwX2_widenFront_6 18 rfl) (zby_w zwX2_widenFront_6 19 rfl) (zby_w zwX2_widenFront_6 20 rfl) (by decide)
theorem d_X2_widenFront_213 : decode cX2_widenFront 213 = .ok (.iconst 0, 1) := zo_3 (zby_w zwX2_widenFront_6 21 rfl)
theorem d_X2_widenFront_214 : decode cX2_widenFront 214 = .ok (.iload 6, 2) := zo_21 (a := 6) (zby_w zwX2_widenFront_6 22 rfl) (zby_w zwX2_widenFront_6 23 rfl) (by decide)
theorem d_X2_widenFront_216 : decode cX2_widenFront 216 = .ok (.invokestatic 71, 3) := zo_184 (a := 0) (b := 71) (zby_w zwX2_widenFront_6 24 rfl) (zby_w zwX2_widenFront_6 25 rfl) (zby_w zwX2_widenFront_6 26 rfl) (by decide)
theorem d_X2_widenFront_219 : decode cX2_widenFront 219 = .ok (.iload 6, 2) := zo_21 (a := 6) (zby_w zwX2_widenFront_6 27 rfl) (zby_w zwX2_widenFront_6 28 rfl) (by decide)
theorem d_X2_widenFront_221 : decode cX2_widenFront 221 = .ok (.ireturn, 1) := zo_172 (zby_w zwX2_widenFront_6 29 rfl)
theorem d_X2_worstIn_0 : decode cX2_worstIn 0 = .ok (.lload_n 0, 1) := zo_30 (zby_w zwX2_worstIn_0 0 rfl)
theorem d_X2_worstIn_1 : decode cX2_worstIn 1 = .ok (.l2i, 1) := zo_136 (zby_w zwX2_worstIn_0 1 rfl)
theorem d_X2_worstIn_2 : decode cX2_worstIn 2 = .ok (.ireturn, 1) := zo_172 (zby_w zwX2_worstIn_0 2 rfl)
theorem d_X3_become_0 : decode cX3_become 0 = .ok (.aload_n 0, 1) := zo_42 (zby_w zwX3_become_0 0 rfl)
theorem d_X3_become_1 : decode cX3_become 1 = .ok (.aload_n 1, 1) := zo_43 (zby_w zwX3_become_0 1 rfl)
theorem d_X3_become_2 : decode cX3_become 2 = .ok (.getfield 9, 3) := zo_180 (a := 0) (b := 9) (zby_w zwX3_become_0 2 rfl) (zby_w zwX3_become_0 3 rfl) (zby_w zwX3_become_0 4 rfl) (by decide)
theorem d_X3_become_5 : decode cX3_become 5 = .ok (.putfield 9, 3) := zo_181 (a := 0) (b := 9) (zby_w zwX3_become_0 5 rfl) (zby_w zwX3_become_0 6 rfl) (zby_w zwX3_become_0 7 rfl) (by decide)
theorem d_X3_become_8 : decode cX3_become 8 = .ok (.aload_n 1, 1) := zo_43 (zby_w zwX3_become_0 8 rfl)
theorem d_X3_become_9 : decode cX3_become 9 = .ok (.getfield 15, 3) := zo_180 (a := 0) (b := 15) (zby_w zwX3_become_0 9 rfl) (zby_w zwX3_become_0 10 rfl) (zby_w zwX3_become_0 11 rfl) (by decide)
theorem d_X3_become_12 : decode cX3_become 12 = .ok (.iconst 0, 1) := zo_3 (zby_w zwX3_become_0 12 rfl)
theorem d_X3_become_13 : decode cX3_become 13 = .ok (.aload_n 0, 1) := zo_42 (zby_w zwX3_become_0 13 rfl)
theorem d_X3_become_14 : decode cX3_become 14 = .ok (.getfield 15, 3) := zo_180 (a := 0) (b := 15) (zby_w zwX3_become_0 14 rfl) (zby_w zwX3_become_0 15 rfl) (zby_w zwX3_become_0 16 rfl) (by decide)
theorem d_X3_become_17 : decode cX3_become 17 = .ok (.iconst 0, 1) := zo_3 (zby_w zwX3_become_0 17 rfl)
theorem d_X3_become_18 : decode cX3_become 18 = .ok (.iconst 4, 1) := zo_7 (zby_w zwX3_become_0 18 rfl)
theorem d_X3_become_19 : decode cX3_become 19 = .ok (.invokestatic 22, 3) := zo_184 (a := 0) (b := 22) (zby_w zwX3_become_0 19 rfl) (zby_w zwX3_become_0 20 rfl) (zby_w zwX3_become_0 21 rfl) (by decide)
theorem d_X3_become_22 : decode cX3_become 22 = .ok (.aload_n 1, 1) := zo_43 (zby_w zwX3_become_0 22 rfl)
theorem d_X3_become_23 : decode cX3_become 23 = .ok (.getfield 19, 3) := zo_180 (a := 0) (b := 19) (zby_w zwX3_become_0 23 rfl) (zby_w zwX3_become_0 24 rfl) (zby_w zwX3_become_0 25 rfl) (by decide)
theorem d_X3_become_26 : decode cX3_become 26 = .ok (.iconst 0, 1) := zo_3 (zby_w zwX3_become_0 26 rfl)
theorem d_X3_become_27 : decode cX3_become 27 = .ok (.aload_n 0, 1) := zo_42 (zby_w zwX3_become_0 27 rfl)
theorem d_X3_become_28 : decode cX3_become 28 = .ok (.getfield 19, 3) := zo_180 (a := 0) (b := 19) (zby_w zwX3_become_0 28 rfl) (zby_w zwX3_become_0 29 rfl) (zby_w zwX3_become_0 30 rfl) (by decide)
theorem d_X3_become_31 : decode cX3_become 31 = .ok (.iconst 0, 1) := zo_3 (zby_w zwX3_become_0 31 rfl)
theorem d_X3_become_32 : decode cX3_become 32 = .ok (.iconst 4, 1) := zo_7 (zby_w zwX3_become_1 0 rfl)
theorem d_X3_become_33 : decode cX3_become 33 = .ok (.invokestatic 22, 3) := zo_184 (a := 0) (b := 22) (zby_w zwX3_become_1 1 rfl) (zby_w zwX3_become_1 2 rfl) (zby_w zwX3_become_1 3 rfl) (by decide)
theorem d_X3_become_36 : decode cX3_become 36 = .ok (.return_, 1) := zo_177 (zby_w zwX3_become_1 4 rfl)
theorem d_X3_paysOf_0 : decode cX3_paysOf 0 = .ok (.iload_n 1, 1) := zo_27 (zby_w zwX3_paysOf_0 0 rfl)
theorem d_X3_paysOf_1 : decode cX3_paysOf 1 = .ok (.aload_n 0, 1) := zo_42 (zby_w zwX3_paysOf_0 1 rfl)
theorem d_X3_paysOf_2 : decode cX3_paysOf 2 = .ok (.getfield 19, 3) := zo_180 (a := 0) (b := 19) (zby_w zwX3_paysOf_0 2 rfl) (zby_w zwX3_paysOf_0 3 rfl) (zby_w zwX3_paysOf_0 4 rfl) (by decide)
theorem d_X3_paysOf_5 : decode cX3_paysOf 5 = .ok (.invokestatic 28, 3) := zo_184 (a := 0) (b := 28) (zby_w zwX3_paysOf_0 5 rfl) (zby_w zwX3_paysOf_0 6 rfl) (zby_w zwX3_paysOf_0 7 rfl) (by decide)
theorem d_X3_paysOf_8 : decode cX3_paysOf 8 = .ok (.ireturn, 1) := zo_172 (zby_w zwX3_paysOf_0 8 rfl)
theorem d_X3_premiumsOf_0 : decode cX3_premiumsOf 0 = .ok (.iload_n 1, 1) := zo_27 (zby_w zwX3_premiumsOf_0 0 rfl)
theorem d_X3_premiumsOf_1 : decode cX3_premiumsOf 1 = .ok (.aload_n 0, 1) := zo_42 (zby_w zwX3_premiumsOf_0 1 rfl)
theorem d_X3_premiumsOf_2 : decode cX3_premiumsOf 2 = .ok (.getfield 15, 3) := zo_180 (a := 0) (b := 15) (zby_w zwX3_premiumsOf_0 2 rfl) (zby_w zwX3_premiumsOf_0 3 rfl) (zby_w zwX3_premiumsOf_0 4 rfl) (by decide)
theorem d_X3_premiumsOf_5 : decode cX3_premiumsOf 5 = .ok (.invokestatic 28, 3) := zo_184 (a := 0) (b := 28) (zby_w zwX3_premiumsOf_0 5 rfl) (zby_w zwX3_premiumsOf_0 6 rfl) (zby_w zwX3_premiumsOf_0 7 rfl) (by decide)
theorem d_X3_premiumsOf_8 : decode cX3_premiumsOf 8 = .ok (.ireturn, 1) := zo_172 (zby_w zwX3_premiumsOf_0 8 rfl)
theorem d_X3_sumOver_0 : decode cX3_sumOver 0 = .ok (.iconst 0, 1) := zo_3 (zby_w zwX3_sumOver_0 0 rfl)
theorem d_X3_sumOver_1 : decode cX3_sumOver 1 = .ok (.istore_n 2, 1) := zo_61 (zby_w zwX3_sumOver_0 1 rfl)
theorem d_X3_sumOver_2 : decode cX3_sumOver 2 = .ok (.iconst 0, 1) := zo_3 (zby_w zwX3_sumOver_0 2 rfl)
theorem d_X3_sumOver_3 : decode cX3_sumOver 3 = .ok (.istore_n 3, 1) := zo_62 (zby_w zwX3_sumOver_0 3 rfl)
theorem d_X3_sumOver_4 : decode cX3_sumOver 4 = .ok (.iload_n 3, 1) := zo_29 (zby_w zwX3_sumOver_0 4 rfl)
theorem d_X3_sumOver_5 : decode cX3_sumOver 5 = .ok (.iconst 4, 1) := zo_7 (zby_w zwX3_sumOver_0 5 rfl)
theorem d_X3_sumOver_6 : decode cX3_sumOver 6 = .ok (.if_icmp .ge 30, 3) := zo_162 (a := 0) (b := 30) (zby_w zwX3_sumOver_0 6 rfl) (zby_w zwX3_sumOver_0 7 rfl) (zby_w zwX3_sumOver_0 8 rfl) (by decide)
theorem d_X3_sumOver_9 : decode cX3_sumOver 9 = .ok (.iload_n 3, 1) := zo_29 (zby_w zwX3_sumOver_0 9 rfl)
theorem d_X3_sumOver_10 : decode cX3_sumOver 10 = .ok (.aload_n 1, 1) := zo_43 (zby_w zwX3_sumOver_0 10 rfl)
theorem d_X3_sumOver_11 : decode cX3_sumOver 11 = .ok (.arraylength, 1) := zo_190 (zby_w zwX3_sumOver_0 11 rfl)
theorem d_X3_sumOver_12 : decode cX3_sumOver 12 = .ok (.if_icmp .ge 24, 3) := zo_162 (a := 0) (b := 24) (zby_w zwX3_sumOver_0 12 rfl) (zby_w zwX3_sumOver_0 13 rfl) (zby_w zwX3_sumOver_0 14 rfl) (by decide)
theorem d_X3_sumOver_15 : decode cX3_sumOver 15 = .ok (.iload_n 0, 1) := zo_26 (zby_w zwX3_sumOver_0 15 rfl)
theorem d_X3_sumOver_16 : decode cX3_sumOver 16 = .ok (.iload_n 3, 1) := zo_29 (zby_w zwX3_sumOver_0 16 rfl)
theorem d_X3_sumOver_17 : decode cX3_sumOver 17 = .ok (.ishr, 1) := zo_122 (zby_w zwX3_sumOver_0 17 rfl)
theorem d_X3_sumOver_18 : decode cX3_sumOver 18 = .ok (.iconst 1, 1) := zo_4 (zby_w zwX3_sumOver_0 18 rfl)
theorem d_X3_sumOver_19 : decode cX3_sumOver 19 = .ok (.iand, 1) := zo_126 (zby_w zwX3_sumOver_0 19 rfl)
theorem d_X3_sumOver_20 : decode cX3_sumOver 20 = .ok (.iconst 1, 1) := zo_4 (zby_w zwX3_sumOver_0 20 rfl)
theorem d_X3_sumOver_21 : decode cX3_sumOver 21 = .ok (.if_icmp .ne 9, 3) := zo_160 (a := 0) (b := 9) (zby_w zwX3_sumOver_0 21 rfl) (zby_w zwX3_sumOver_0 22 rfl) (zby_w zwX3_sumOver_0 23 rfl) (by decide)
theorem d_X3_sumOver_24 : decode cX3_sumOver 24 = .ok (.iload_n 2, 1) := zo_28 (zby_w zwX3_sumOver_0 24 rfl)
theorem d_X3_sumOver_25 : decode cX3_sumOver 25 = .ok (.aload_n 1, 1) := zo_43 (zby_w zwX3_sumOver_0 25 rfl)
theorem d_X3_sumOver_26 : decode cX3_sumOver 26 = .ok (.iload_n 3, 1) := zo_29 (zby_w zwX3_sumOver_0 26 rfl)
theorem d_X3_sumOver_27 : decode cX3_sumOver 27 = .ok (.iaload, 1) := zo_46 (zby_w zwX3_sumOver_0 27 rfl)
theorem d_X3_sumOver_28 : decode cX3_sumOver 28 = .ok (.iadd, 1) := zo_96 (zby_w zwX3_sumOver_0 28 rfl)
theorem d_X3_sumOver_29 : decode cX3_sumOver 29 = .ok (.istore_n 2, 1) := zo_61 (zby_w zwX3_sumOver_0 29 rfl)
theorem d_X3_sumOver_30 : decode cX3_sumOver 30 = .ok (.iinc 3 1, 3) := by decide +kernel
theorem d_X3_sumOver_33 : decode cX3_sumOver 33 = .ok (.goto (-29), 3) := zo_167 (a := 255) (b := 227) (zby_w zwX3_sumOver_1 1 rfl) (zby_w zwX3_sumOver_1 2 rfl) (zby_w zwX3_sumOver_1 3 rfl) (by decide)
theorem d_X3_sumOver_36 : decode cX3_sumOver 36 = .ok (.iload_n 2, 1) := zo_28 (zby_w zwX3_sumOver_1 4 rfl)
theorem d_X3_sumOver_37 : decode cX3_sumOver 37 = .ok (.ireturn, 1) := zo_172 (zby_w zwX3_sumOver_1 5 rfl)
theorem d_X3_worthTaking_0 : decode cX3_worthTaking 0 = .ok (.iconst 0, 1) := zo_3 (zby_w zwX3_worthTaking_0 0 rfl)
theorem d_X3_worthTaking_1 : decode cX3_worthTaking 1 = .ok (.istore_n 2, 1) := zo_61 (zby_w zwX3_worthTaking_0 1 rfl)
theorem d_X3_worthTaking_2 : decode cX3_worthTaking 2 = .ok (.iconst 0, 1) := zo_3 (zby_w zwX3_worthTaking_0 2 rfl)
theorem d_X3_worthTaking_3 : decode cX3_worthTaking 3 = .ok (.istore_n 3, 1) := zo_62 (zby_w zwX3_worthTaking_0 3 rfl)
theorem d_X3_worthTaking_4 : decode cX3_worthTaking 4 = .ok (.iload_n 3, 1) := zo_29 (zby_w zwX3_worthTaking_0 4 rfl)
theorem d_X3_worthTaking_5 : decode cX3_worthTaking 5 = .ok (.iconst 4, 1) := zo_7 (zby_w zwX3_worthTaking_0 5 rfl)
theorem d_X3_worthTaking_6 : decode cX3_worthTaking 6 = .ok (.if_icmp .ge 47, 3) := zo_162 (a := 0) (b := 47) (zby_w zwX3_worthTaking_0 6 rfl) (zby_w zwX3_worthTaking_0 7 rfl) (zby_w zwX3_worthTaking_0 8 rfl) (by decide)
theorem d_X3_worthTaking_9 : decode cX3_worthTaking 9 = .ok (.aload_n 0, 1) := zo_42 (zby_w zwX3_worthTaking_0 9 rfl)
theorem d_X3_worthTaking_10 : decode cX3_worthTaking 10 = .ok (.getfield 9, 3) := zo_180 (a := 0) (b := 9) (zby_w zwX3_worthTaking_0 10 rfl) (zby_w zwX3_worthTaking_0 11 rfl) (zby_w zwX3_worthTaking_0 12 rfl) (by decide)
theorem d_X3_worthTaking_13 : decode cX3_worthTaking 13 = .ok (.iload_n 3, 1) := zo_29 (zby_w zwX3_worthTaking_0 13 rfl)
theorem d_X3_worthTaking_14 : decode cX3_worthTaking 14 = .ok (.ishr, 1) := zo_122 (zby_w zwX3_worthTaking_0 14 rfl)
theorem d_X3_worthTaking_15 : decode cX3_worthTaking 15 = .ok (.iconst 1, 1) := zo_4 (zby_w zwX3_worthTaking_0 15 rfl)
theorem d_X3_worthTaking_16 : decode cX3_worthTaking 16 = .ok (.iand, 1) := zo_126 (zby_w zwX3_worthTaking_0 16 rfl)
theorem d_X3_worthTaking_17 : decode cX3_worthTaking 17 = .ok (.iconst 1, 1) := zo_4 (zby_w zwX3_worthTaking_0 17 rfl)
theorem d_X3_worthTaking_18 : decode cX3_worthTaking 18 = .ok (.if_icmp .ne 29, 3) := zo_160 (a := 0) (b := 29) (zby_w zwX3_worthTaking_0 18 rfl) (zby_w zwX3_worthTaking_0 19 rfl) (zby_w zwX3_worthTaking_0 20 rfl) (by decide)
theorem d_X3_worthTaking_21 : decode cX3_worthTaking 21 = .ok (.bipush 10, 2) := zo_16 (a := 10) (zby_w zwX3_worthTaking_0 21 rfl) (zby_w zwX3_worthTaking_0 22 rfl) (by decide)
theorem d_X3_worthTaking_23 : decode cX3_worthTaking 23 = .ok (.aload_n 0, 1) := zo_42 (zby_w zwX3_worthTaking_0 23 rfl)
theorem d_X3_worthTaking_24 : decode cX3_worthTaking 24 = .ok (.getfield 15, 3) := zo_180 (a := 0) (b := 15) (zby_w zwX3_worthTaking_0 24 rfl) (zby_w zwX3_worthTaking_0 25 rfl) (zby_w zwX3_worthTaking_0 26 rfl) (by decide)
theorem d_X3_worthTaking_27 : decode cX3_worthTaking 27 = .ok (.iload_n 3, 1) := zo_29 (zby_w zwX3_worthTaking_0 27 rfl)
theorem d_X3_worthTaking_28 : decode cX3_worthTaking 28 = .ok (.iaload, 1) := zo_46 (zby_w zwX3_worthTaking_0 28 rfl)
theorem d_X3_worthTaking_29 : decode cX3_worthTaking 29 = .ok (.imul, 1) := zo_104 (zby_w zwX3_worthTaking_0 29 rfl)
theorem d_X3_worthTaking_30 : decode cX3_worthTaking 30 = .ok (.iload_n 1, 1) := zo_27 (zby_w zwX3_worthTaking_0 30 rfl)
theorem d_X3_worthTaking_31 : decode cX3_worthTaking 31 = .ok (.aload_n 0, 1) := zo_42 (zby_w zwX3_worthTaking_0 31 rfl)
theorem d_X3_worthTaking_32 : decode cX3_worthTaking 32 = .ok (.getfield 19, 3) := zo_180 (a := 0) (b := 19) (zby_w zwX3_worthTaking_1 0 rfl) (zby_w zwX3_worthTaking_1 1 rfl) (zby_w zwX3_worthTaking_1 2 rfl) (by decide)
theorem d_X3_worthTaking_35 : decode cX3_worthTaking 35 = .ok (.iload_n 3, 1) := zo_29 (zby_w zwX3_worthTaking_1 3 rfl)
theorem d_X3_worthTaking_36 : decode cX3_worthTaking 36 = .ok (.iaload, 1) := zo_46 (zby_w zwX3_worthTaking_1 4 rfl)
theorem d_X3_worthTaking_37 : decode cX3_worthTaking 37 = .ok (.imul, 1) := zo_104 (zby_w zwX3_worthTaking_1 5 rfl)
theorem d_X3_worthTaking_38 : decode cX3_worthTaking 38 = .ok (.if_icmp .ge 9, 3) := zo_162 (a := 0) (b := 9) (zby_w zwX3_worthTaking_1 6 rfl) (zby_w zwX3_worthTaking_1 7 rfl) (zby_w zwX3_worthTaking_1 8 rfl) (by decide)
theorem d_X3_worthTaking_41 : decode cX3_worthTaking 41 = .ok (.iload_n 2, 1) := zo_28 (zby_w zwX3_worthTaking_1 9 rfl)
theorem d_X3_worthTaking_42 : decode cX3_worthTaking 42 = .ok (.iconst 1, 1) := zo_4 (zby_w zwX3_worthTaking_1 10 rfl)
theorem d_X3_worthTaking_43 : decode cX3_worthTaking 43 = .ok (.iload_n 3, 1) := zo_29 (zby_w zwX3_worthTaking_1 11 rfl)
theorem d_X3_worthTaking_44 : decode cX3_worthTaking 44 = .ok (.ishl, 1) := zo_120 (zby_w zwX3_worthTaking_1 12 rfl)
theorem d_X3_worthTaking_45 : decode cX3_worthTaking 45 = .ok (.ior, 1) := zo_128 (zby_w zwX3_worthTaking_1 13 rfl)
theorem d_X3_worthTaking_46 : decode cX3_worthTaking 46 = .ok (.istore_n 2, 1) := zo_61 (zby_w zwX3_worthTaking_1 14 rfl)
theorem d_X3_worthTaking_47 : decode cX3_worthTaking 47 = .ok (.iinc 3 1, 3) := by decide +kernel
theorem d_X3_worthTaking_50 : decode cX3_worthTaking 50 = .ok (.goto (-46), 3) := zo_167 (a := 255) (b := 210) (zby_w zwX3_worthTaking_1 18 rfl) (zby_w zwX3_worthTaking_1 19 rfl) (zby_w zwX3_worthTaking_1 20 rfl) (by decide)
theorem d_X3_worthTaking_53 : decode cX3_worthTaking 53 = .ok (.iload_n 2, 1) := zo_28 (zby_w zwX3_worthTaking_1 21 rfl)
theorem d_X3_worthTaking_54 : decode cX3_worthTaking 54 = .ok (.ireturn, 1) := zo_172 (zby_w zwX3_worthTaking_1 22 rfl)
theorem d_X4_clear_0 : decode cX4_clear 0 = .ok (.aload_n 0, 1) := zo_42 (zby_w zwX4_clear_0 0 rfl)
theorem d_X4_clear_1 : decode cX4_clear 1 = .ok (.getfield 15, 3) := zo_180 (a := 0) (b := 15) (zby_w zwX4_clear_0 1 rfl) (zby_w zwX4_clear_0 2 rfl) (zby_w zwX4_clear_0 3 rfl) (by decide)
theorem d_X4_clear_4 : decode cX4_clear 4 = .ok (.istore_n 1, 1) := zo_60 (zby_w zwX4_clear_0 4 rfl)
theorem d_X4_clear_5 : decode cX4_clear 5 = .ok (.aload_n 0, 1) := zo_42 (zby_w zwX4_clear_0 5 rfl)
theorem d_X4_clear_6 : decode cX4_clear 6 = .ok (.iconst 0, 1) := zo_3 (zby_w zwX4_clear_0 6 rfl)
theorem d_X4_clear_7 : decode cX4_clear 7 = .ok (.putfield 15, 3) := zo_181 (a := 0) (b := 15) (zby_w zwX4_clear_0 7 rfl) (zby_w zwX4_clear_0 8 rfl) (zby_w zwX4_clear_0 9 rfl) (by decide)
theorem d_X4_clear_10 : decode cX4_clear 10 = .ok (.iload_n 1, 1) := zo_27 (zby_w zwX4_clear_0 10 rfl)
theorem d_X4_clear_11 : decode cX4_clear 11 = .ok (.ireturn, 1) := zo_172 (zby_w zwX4_clear_0 11 rfl)
theorem d_X4_faultAsSeason_0 : decode cX4_faultAsSeason 0 = .ok (.iconst 0, 1) := zo_3 (zby_w zwX4_faultAsSeason_0 0 rfl)
theorem d_X4_faultAsSeason_1 : decode cX4_faultAsSeason 1 = .ok (.istore_n 1, 1) := zo_60 (zby_w zwX4_faultAsSeason_0 1 rfl)
theorem d_X4_faultAsSeason_2 : decode cX4_faultAsSeason 2 = .ok (.iconst 0, 1) := zo_3 (zby_w zwX4_faultAsSeason_0 2 rfl)
theorem d_X4_faultAsSeason_3 : decode cX4_faultAsSeason 3 = .ok (.istore_n 2, 1) := zo_61 (zby_w zwX4_faultAsSeason_0 3 rfl)
theorem d_X4_faultAsSeason_4 : decode cX4_faultAsSeason 4 = .ok (.iload_n 2, 1) := zo_28 (zby_w zwX4_faultAsSeason_0 4 rfl)
theorem d_X4_faultAsSeason_5 : decode cX4_faultAsSeason 5 = .ok (.aload_n 0, 1) := zo_42 (zby_w zwX4_faultAsSeason_0 5 rfl)
theorem d_X4_faultAsSeason_6 : decode cX4_faultAsSeason 6 = .ok (.getfield 15, 3) := zo_180 (a := 0) (b := 15) (zby_w zwX4_faultAsSeason_0 6 rfl) (zby_w zwX4_faultAsSeason_0 7 rfl) (zby_w zwX4_faultAsSeason_0 8 rfl) (by decide)
theorem d_X4_faultAsSeason_9 : decode cX4_faultAsSeason 9 = .ok (.if_icmp .ge 85, 3) := zo_162 (a := 0) (b := 85) (zby_w zwX4_faultAsSeason_0 9 rfl) (zby_w zwX4_faultAsSeason_0 10 rfl) (zby_w zwX4_faultAsSeason_0 11 rfl) (by decide)
theorem d_X4_faultAsSeason_12 : decode cX4_faultAsSeason 12 = .ok (.iload_n 2, 1) := zo_28 (zby_w zwX4_faultAsSeason_0 12 rfl)
theorem d_X4_faultAsSeason_13 : decode cX4_faultAsSeason 13 = .ok (.bipush 60, 2) := zo_16 (a := 60) (zby_w zwX4_faultAsSeason_0 13 rfl) (zby_w zwX4_faultAsSeason_0 14 rfl) (by decide)
theorem d_X4_faultAsSeason_15 : decode cX4_faultAsSeason 15 = .ok (.if_icmp .ge 79, 3) := zo_162 (a := 0) (b := 79) (zby_w zwX4_faultAsSeason_0 15 rfl) (zby_w zwX4_faultAsSeason_0 16 rfl) (zby_w zwX4_faultAsSeason_0 17 rfl) (by decide)
theorem d_X4_faultAsSeason_18 : decode cX4_faultAsSeason 18 = .ok (.iload_n 1, 1) := zo_27 (zby_w zwX4_faultAsSeason_0 18 rfl)
theorem d_X4_faultAsSeason_19 : decode cX4_faultAsSeason 19 = .ok (.ifCond .eq 21, 3) := zo_153 (a := 0) (b := 21) (zby_w zwX4_faultAsSeason_0 19 rfl) (zby_w zwX4_faultAsSeason_0 20 rfl) (zby_w zwX4_faultAsSeason_0 21 rfl) (by decide)
theorem d_X4_faultAsSeason_22 : decode cX4_faultAsSeason 22 = .ok (.aload_n 0, 1) := zo_42 (zby_w zwX4_faultAsSeason_0 22 rfl)
theorem d_X4_faultAsSeason_23 : decode cX4_faultAsSeason 23 = .ok (.iload_n 2, 1) := zo_28 (zby_w zwX4_faultAsSeason_0 23 rfl)
theorem d_X4_faultAsSeason_24 : decode cX4_faultAsSeason 24 = .ok (.invokevirtual 23, 3) := zo_182 (a := 0) (b := 23) (zby_w zwX4_faultAsSeason_0 24 rfl) (zby_w zwX4_faultAsSeason_0 25 rfl) (zby_w zwX4_faultAsSeason_0 26 rfl) (by decide)
theorem d_X4_faultAsSeason_27 : decode cX4_faultAsSeason 27 = .ok (.bipush (-6), 2) := zo_16 (a := 250) (zby_w zwX4_faultAsSeason_0 27 rfl) (zby_w zwX4_faultAsSeason_0 28 rfl) (by decide)
theorem d_X4_faultAsSeason_29 : decode cX4_faultAsSeason 29 = .ok (.if_icmp .eq 7, 3) := zo_159 (a := 0) (b := 7) (zby_w zwX4_faultAsSeason_0 29 rfl) (zby_w zwX4_faultAsSeason_0 30 rfl) (zby_w zwX4_faultAsSeason_0 31 rfl) (by decide)
theorem d_X4_faultAsSeason_32 : decode cX4_faultAsSeason 32 = .ok (.iconst 1, 1) := zo_4 (zby_w zwX4_faultAsSeason_1 0 rfl)
theorem d_X4_faultAsSeason_33 : decode cX4_faultAsSeason 33 = .ok (.goto 30, 3) := zo_167 (a := 0) (b := 30) (zby_w zwX4_faultAsSeason_1 1 rfl) (zby_w zwX4_faultAsSeason_1 2 rfl) (zby_w zwX4_faultAsSeason_1 3 rfl) (by decide)
theorem d_X4_faultAsSeason_36 : decode cX4_faultAsSeason 36 = .ok (.iconst 0, 1) := zo_3 (zby_w zwX4_faultAsSeason_1 4 rfl)
theorem d_X4_faultAsSeason_37 : decode cX4_faultAsSeason 37 = .ok (.goto 26, 3) := zo_167 (a := 0) (b := 26) (zby_w zwX4_faultAsSeason_1 5 rfl) (zby_w zwX4_faultAsSeason_1 6 rfl) (zby_w zwX4_faultAsSeason_1 7 rfl) (by decide)
theorem d_X4_faultAsSeason_40 : decode cX4_faultAsSeason 40 = .ok (.aload_n 0, 1) := zo_42 (zby_w zwX4_faultAsSeason_1 8 rfl)
theorem d_X4_faultAsSeason_41 : decode cX4_faultAsSeason 41 = .ok (.iload_n 2, 1) := zo_28 (zby_w zwX4_faultAsSeason_1 9 rfl)
theorem d_X4_faultAsSeason_42 : decode cX4_faultAsSeason 42 = .ok (.invokevirtual 27, 3) := zo_182 (a := 0) (b := 27) (zby_w zwX4_faultAsSeason_1 10 rfl) (zby_w zwX4_faultAsSeason_1 11 rfl) (zby_w zwX4_faultAsSeason_1 12 rfl) (by decide)
theorem d_X4_faultAsSeason_45 : decode cX4_faultAsSeason 45 = .ok (.ifCond .ne 13, 3) := zo_154 (a := 0) (b := 13) (zby_w zwX4_faultAsSeason_1 13 rfl) (zby_w zwX4_faultAsSeason_1 14 rfl) (zby_w zwX4_faultAsSeason_1 15 rfl) (by decide)
theorem d_X4_faultAsSeason_48 : decode cX4_faultAsSeason 48 = .ok (.aload_n 0, 1) := zo_42 (zby_w zwX4_faultAsSeason_1 16 rfl)
theorem d_X4_faultAsSeason_49 : decode cX4_faultAsSeason 49 = .ok (.iload_n 2, 1) := zo_28 (zby_w zwX4_faultAsSeason_1 17 rfl)
theorem d_X4_faultAsSeason_50 : decode cX4_faultAsSeason 50 = .ok (.invokevirtual 31, 3) := zo_182 (a := 0) (b := 31) (zby_w zwX4_faultAsSeason_1 18 rfl) (zby_w zwX4_faultAsSeason_1 19 rfl) (zby_w zwX4_faultAsSeason_1 20 rfl) (by decide)
theorem d_X4_faultAsSeason_53 : decode cX4_faultAsSeason 53 = .ok (.bipush (-6), 2) := zo_16 (a := 250) (zby_w zwX4_faultAsSeason_1 21 rfl) (zby_w zwX4_faultAsSeason_1 22 rfl) (by decide)
theorem d_X4_faultAsSeason_55 : decode cX4_faultAsSeason 55 = .ok (.if_icmp .eq 7, 3) := zo_159 (a := 0) (b := 7) (zby_w zwX4_faultAsSeason_1 23 rfl) (zby_w zwX4_faultAsSeason_1 24 rfl) (zby_w zwX4_faultAsSeason_1 25 rfl) (by decide)
theorem d_X4_faultAsSeason_58 : decode cX4_faultAsSeason 58 = .ok (.iconst 1, 1) := zo_4 (zby_w zwX4_faultAsSeason_1 26 rfl)
theorem d_X4_faultAsSeason_59 : decode cX4_faultAsSeason 59 = .ok (.goto 4, 3) := zo_167 (a := 0) (b := 4) (zby_w zwX4_faultAsSeason_1 27 rfl) (zby_w zwX4_faultAsSeason_1 28 rfl) (zby_w zwX4_faultAsSeason_1 29 rfl) (by decide)
theorem d_X4_faultAsSeason_62 : decode cX4_faultAsSeason 62 = .ok (.iconst 0, 1) := zo_3 (zby_w zwX4_faultAsSeason_1 30 rfl)
theorem d_X4_faultAsSeason_63 : decode cX4_faultAsSeason 63 = .ok (.istore_n 3, 1) := zo_62 (zby_w zwX4_faultAsSeason_1 31 rfl)
theorem d_X4_faultAsSeason_64 : decode cX4_faultAsSeason 64 = .ok (.iload_n 3, 1) := zo_29 (zby_w zwX4_faultAsSeason_2 0 rfl)
theorem d_X4_faultAsSeason_65 : decode cX4_faultAsSeason 65 = .ok (.ifCond .ne 5, 3) := zo_154 (a := 0) (b := 5) (zby_w zwX4_faultAsSeason_2 1 rfl) (zby_w zwX4_faultAsSeason_2 2 rfl) (zby_w zwX4_faultAsSeason_2 3 rfl) (by decide)
theorem d_X4_faultAsSeason_68 : decode cX4_faultAsSeason 68 = .ok (.iload_n 2, 1) := zo_28 (zby_w zwX4_faultAsSeason_2 4 rfl)
theorem d_X4_faultAsSeason_69 : decode cX4_faultAsSeason 69 = .ok (.ireturn, 1) := zo_172 (zby_w zwX4_faultAsSeason_2 5 rfl)
theorem d_X4_faultAsSeason_70 : decode cX4_faultAsSeason 70 = .ok (.iload_n 1, 1) := zo_27 (zby_w zwX4_faultAsSeason_2 6 rfl)
theorem d_X4_faultAsSeason_71 : decode cX4_faultAsSeason 71 = .ok (.ifCond .ne 15, 3) := zo_154 (a := 0) (b := 15) (zby_w zwX4_faultAsSeason_2 7 rfl) (zby_w zwX4_faultAsSeason_2 8 rfl) (zby_w zwX4_faultAsSeason_2 9 rfl) (by decide)
theorem d_X4_faultAsSeason_74 : decode cX4_faultAsSeason 74 = .ok (.aload_n 0, 1) := zo_42 (zby_w zwX4_faultAsSeason_2 10 rfl)
theorem d_X4_faultAsSeason_75 : decode cX4_faultAsSeason 75 = .ok (.iload_n 2, 1) := zo_28 (zby_w zwX4_faultAsSeason_2 11 rfl)
theorem d_X4_faultAsSeason_76 : decode cX4_faultAsSeason 76 = .ok (.invokevirtual 27, 3) := zo_182 (a := 0) (b := 27) (zby_w zwX4_faultAsSeason_2 12 rfl) (zby_w zwX4_faultAsSeason_2 13 rfl) (zby_w zwX4_faultAsSeason_2 14 rfl) (by decide)
theorem d_X4_faultAsSeason_79 : decode cX4_faultAsSeason 79 = .ok (.ifCond .ne 7, 3) := zo_154 (a := 0) (b := 7) (zby_w zwX4_faultAsSeason_2 15 rfl) (zby_w zwX4_faultAsSeason_2 16 rfl) (zby_w zwX4_faultAsSeason_2 17 rfl) (by decide)
theorem d_X4_faultAsSeason_82 : decode cX4_faultAsSeason 82 = .ok (.iconst 1, 1) := zo_4 (zby_w zwX4_faultAsSeason_2 18 rfl)
theorem d_X4_faultAsSeason_83 : decode cX4_faultAsSeason 83 = .ok (.goto 4, 3) := zo_167 (a := 0) (b := 4) (zby_w zwX4_faultAsSeason_2 19 rfl) (zby_w zwX4_faultAsSeason_2 20 rfl) (zby_w zwX4_faultAsSeason_2 21 rfl) (by decide)
theorem d_X4_faultAsSeason_86 : decode cX4_faultAsSeason 86 = .ok (.iconst 0, 1) := zo_3 (zby_w zwX4_faultAsSeason_2 22 rfl)
theorem d_X4_faultAsSeason_87 : decode cX4_faultAsSeason 87 = .ok (.istore_n 1, 1) := zo_60 (zby_w zwX4_faultAsSeason_2 23 rfl)
theorem d_X4_faultAsSeason_88 : decode cX4_faultAsSeason 88 = .ok (.iinc 2 1, 3) := by decide +kernel
theorem d_X4_faultAsSeason_91 : decode cX4_faultAsSeason 91 = .ok (.goto (-87), 3) := zo_167 (a := 255) (b := 169) (zby_w zwX4_faultAsSeason_2 27 rfl) (zby_w zwX4_faultAsSeason_2 28 rfl) (zby_w zwX4_faultAsSeason_2 29 rfl) (by decide)
theorem d_X4_faultAsSeason_94 : decode cX4_faultAsSeason 94 = .ok (.iload_n 1, 1) := zo_27 (zby_w zwX4_faultAsSeason_2 30 rfl)
theorem d_X4_faultAsSeason_95 : decode cX4_faultAsSeason 95 = .ok (.ifCond .eq 10, 3) := zo_153 (a := 0) (b := 10) (zby_w zwX4_faultAsSeason_2 31 rfl) (zby_w zwX4_faultAsSeason_2 32 rfl) (zby_w zwX4_faultAsSeason_2 33 rfl) (by decide)
theorem d_X4_faultAsSeason_98 : decode cX4_faultAsSeason 98 = .ok (.aload_n 0, 1) := zo_42 (zby_w zwX4_faultAsSeason_3 2 rfl)
theorem d_X4_faultAsSeason_99 : decode cX4_faultAsSeason 99 = .ok (.getfield 15, 3) := zo_180 (a := 0) (b := 15) (zby_w zwX4_faultAsSeason_3 3 rfl) (zby_w zwX4_faultAsSeason_3 4 rfl) (zby_w zwX4_faultAsSeason_3 5 rfl) (by decide)
theorem d_X4_faultAsSeason_102 : decode cX4_faultAsSeason 102 = .ok (.goto 5, 3) := zo_167 (a := 0) (b := 5) (zby_w zwX4_faultAsSeason_3 6 rfl) (zby_w zwX4_faultAsSeason_3 7 rfl) (zby_w zwX4_faultAsSeason_3 8 rfl) (by decide)
theorem d_X4_faultAsSeason_105 : decode cX4_faultAsSeason 105 = .ok (.bipush (-6), 2) := zo_16 (a := 250) (zby_w zwX4_faultAsSeason_3 9 rfl) (zby_w zwX4_faultAsSeason_3 10 rfl) (by decide)
theorem d_X4_faultAsSeason_107 : decode cX4_faultAsSeason 107 = .ok (.ireturn, 1) := zo_172 (zby_w zwX4_faultAsSeason_3 11 rfl)
theorem d_X4_faultAsTide_0 : decode cX4_faultAsTide 0 = .ok (.iconst 0, 1) := zo_3 (zby_w zwX4_faultAsTide_0 0 rfl)
theorem d_X4_faultAsTide_1 : decode cX4_faultAsTide 1 = .ok (.istore_n 1, 1) := zo_60 (zby_w zwX4_faultAsTide_0 1 rfl)
theorem d_X4_faultAsTide_2 : decode cX4_faultAsTide 2 = .ok (.iload_n 1, 1) := zo_27 (zby_w zwX4_faultAsTide_0 2 rfl)
theorem d_X4_faultAsTide_3 : decode cX4_faultAsTide 3 = .ok (.aload_n 0, 1) := zo_42 (zby_w zwX4_faultAsTide_0 3 rfl)
theorem d_X4_faultAsTide_4 : decode cX4_faultAsTide 4 = .ok (.getfield 15, 3) := zo_180 (a := 0) (b := 15) (zby_w zwX4_faultAsTide_0 4 rfl) (zby_w zwX4_faultAsTide_0 5 rfl) (zby_w zwX4_faultAsTide_0 6 rfl) (by decide)
theorem d_X4_faultAsTide_7 : decode cX4_faultAsTide 7 = .ok (.if_icmp .ge 39, 3) := zo_162 (a := 0) (b := 39) (zby_w zwX4_faultAsTide_0 7 rfl) (zby_w zwX4_faultAsTide_0 8 rfl) (zby_w zwX4_faultAsTide_0 9 rfl) (by decide)
theorem d_X4_faultAsTide_10 : decode cX4_faultAsTide 10 = .ok (.iload_n 1, 1) := zo_27 (zby_w zwX4_faultAsTide_0 10 rfl)
theorem d_X4_faultAsTide_11 : decode cX4_faultAsTide 11 = .ok (.bipush 60, 2) := zo_16 (a := 60) (zby_w zwX4_faultAsTide_0 11 rfl) (zby_w zwX4_faultAsTide_0 12 rfl) (by decide)
theorem d_X4_faultAsTide_13 : decode cX4_faultAsTide 13 = .ok (.if_icmp .ge 33, 3) := zo_162 (a := 0) (b := 33) (zby_w zwX4_faultAsTide_0 13 rfl) (zby_w zwX4_faultAsTide_0 14 rfl) (zby_w zwX4_faultAsTide_0 15 rfl) (by decide)
theorem d_X4_faultAsTide_16 : decode cX4_faultAsTide 16 = .ok (.iload_n 1, 1) := zo_27 (zby_w zwX4_faultAsTide_0 16 rfl)
theorem d_X4_faultAsTide_17 : decode cX4_faultAsTide 17 = .ok (.bipush 24, 2) := zo_16 (a := 24) (zby_w zwX4_faultAsTide_0 17 rfl) (zby_w zwX4_faultAsTide_0 18 rfl) (by decide)
theorem d_X4_faultAsTide_19 : decode cX4_faultAsTide 19 = .ok (.if_icmp .ge 19, 3) := zo_162 (a := 0) (b := 19) (zby_w zwX4_faultAsTide_0 19 rfl) (zby_w zwX4_faultAsTide_0 20 rfl) (zby_w zwX4_faultAsTide_0 21 rfl) (by decide)
theorem d_X4_faultAsTide_22 : decode cX4_faultAsTide 22 = .ok (.aload_n 0, 1) := zo_42 (zby_w zwX4_faultAsTide_0 22 rfl)
theorem d_X4_faultAsTide_23 : decode cX4_faultAsTide 23 = .ok (.getfield 9, 3) := zo_180 (a := 0) (b := 9) (zby_w zwX4_faultAsTide_0 23 rfl) (zby_w zwX4_faultAsTide_0 24 rfl) (zby_w zwX4_faultAsTide_0 25 rfl) (by decide)
theorem d_X4_faultAsTide_26 : decode cX4_faultAsTide 26 = .ok (.iload_n 1, 1) := zo_27 (zby_w zwX4_faultAsTide_0 26 rfl)
theorem d_X4_faultAsTide_27 : decode cX4_faultAsTide 27 = .ok (.iaload, 1) := zo_46 (zby_w zwX4_faultAsTide_0 27 rfl)
theorem d_X4_faultAsTide_28 : decode cX4_faultAsTide 28 = .ok (.bipush 48, 2) := zo_16 (a := 48) (zby_w zwX4_faultAsTide_0 28 rfl) (zby_w zwX4_faultAsTide_0 29 rfl) (by decide)
theorem d_X4_faultAsTide_30 : decode cX4_faultAsTide 30 = .ok (.bipush 57, 2) := zo_16 (a := 57) (zby_w zwX4_faultAsTide_0 30 rfl) (zby_w zwX4_faultAsTide_0 31 rfl) (by decide)
theorem d_X4_faultAsTide_32 : decode cX4_faultAsTide 32 = .ok (.invokestatic 19, 3) := zo_184 (a := 0) (b := 19) (zby_w zwX4_faultAsTide_1 0 rfl) (zby_w zwX4_faultAsTide_1 1 rfl) (zby_w zwX4_faultAsTide_1 2 rfl) (by decide)
theorem d_X4_faultAsTide_35 : decode cX4_faultAsTide 35 = .ok (.ifCond .ne 5, 3) := zo_154 (a := 0) (b := 5) (zby_w zwX4_faultAsTide_1 3 rfl) (zby_w zwX4_faultAsTide_1 4 rfl) (zby_w zwX4_faultAsTide_1 5 rfl) (by decide)
theorem d_X4_faultAsTide_38 : decode cX4_faultAsTide 38 = .ok (.iload_n 1, 1) := zo_27 (zby_w zwX4_faultAsTide_1 6 rfl)
theorem d_X4_faultAsTide_39 : decode cX4_faultAsTide 39 = .ok (.ireturn, 1) := zo_172 (zby_w zwX4_faultAsTide_1 7 rfl)
theorem d_X4_faultAsTide_40 : decode cX4_faultAsTide 40 = .ok (.iinc 1 1, 3) := by decide +kernel
theorem d_X4_faultAsTide_43 : decode cX4_faultAsTide 43 = .ok (.goto (-41), 3) := zo_167 (a := 255) (b := 215) (zby_w zwX4_faultAsTide_1 11 rfl) (zby_w zwX4_faultAsTide_1 12 rfl) (zby_w zwX4_faultAsTide_1 13 rfl) (by decide)
theorem d_X4_faultAsTide_46 : decode cX4_faultAsTide 46 = .ok (.aload_n 0, 1) := zo_42 (zby_w zwX4_faultAsTide_1 14 rfl)
theorem d_X4_faultAsTide_47 : decode cX4_faultAsTide 47 = .ok (.getfield 15, 3) := zo_180 (a := 0) (b := 15) (zby_w zwX4_faultAsTide_1 15 rfl) (zby_w zwX4_faultAsTide_1 16 rfl) (zby_w zwX4_faultAsTide_1 17 rfl) (by decide)
theorem d_X4_faultAsTide_50 : decode cX4_faultAsTide 50 = .ok (.ifCond .ne 7, 3) := zo_154 (a := 0) (b := 7) (zby_w zwX4_faultAsTide_1 18 rfl) (zby_w zwX4_faultAsTide_1 19 rfl) (zby_w zwX4_faultAsTide_1 20 rfl) (by decide)
theorem d_X4_faultAsTide_53 : decode cX4_faultAsTide 53 = .ok (.iconst 0, 1) := zo_3 (zby_w zwX4_faultAsTide_1 21 rfl)
theorem d_X4_faultAsTide_54 : decode cX4_faultAsTide 54 = .ok (.goto 5, 3) := zo_167 (a := 0) (b := 5) (zby_w zwX4_faultAsTide_1 22 rfl) (zby_w zwX4_faultAsTide_1 23 rfl) (zby_w zwX4_faultAsTide_1 24 rfl) (by decide)
theorem d_X4_faultAsTide_57 : decode cX4_faultAsTide 57 = .ok (.bipush (-6), 2) := zo_16 (a := 250) (zby_w zwX4_faultAsTide_1 25 rfl) (zby_w zwX4_faultAsTide_1 26 rfl) (by decide)
theorem d_X4_faultAsTide_59 : decode cX4_faultAsTide 59 = .ok (.ireturn, 1) := zo_172 (zby_w zwX4_faultAsTide_1 27 rfl)
theorem d_X4_holds_0 : decode cX4_holds 0 = .ok (.iload_n 1, 1) := zo_27 (zby_w zwX4_holds_0 0 rfl)
theorem d_X4_holds_1 : decode cX4_holds 1 = .ok (.ifCond .lt 21, 3) := zo_155 (a := 0) (b := 21) (zby_w zwX4_holds_0 1 rfl) (zby_w zwX4_holds_0 2 rfl) (zby_w zwX4_holds_0 3 rfl) (by decide)
theorem d_X4_holds_4 : decode cX4_holds 4 = .ok (.iload_n 1, 1) := zo_27 (zby_w zwX4_holds_0 4 rfl)
theorem d_X4_holds_5 : decode cX4_holds 5 = .ok (.aload_n 0, 1) := zo_42 (zby_w zwX4_holds_0 5 rfl)
theorem d_X4_holds_6 : decode cX4_holds 6 = .ok (.getfield 15, 3) := zo_180 (a := 0) (b := 15) (zby_w zwX4_holds_0 6 rfl) (zby_w zwX4_holds_0 7 rfl) (zby_w zwX4_holds_0 8 rfl) (by decide)
theorem d_X4_holds_9 : decode cX4_holds 9 = .ok (.if_icmp .ge 13, 3) := zo_162 (a := 0) (b := 13) (zby_w zwX4_holds_0 9 rfl) (zby_w zwX4_holds_0 10 rfl) (zby_w zwX4_holds_0 11 rfl) (by decide)
theorem d_X4_holds_12 : decode cX4_holds 12 = .ok (.iload_n 1, 1) := zo_27 (zby_w zwX4_holds_0 12 rfl)
theorem d_X4_holds_13 : decode cX4_holds 13 = .ok (.bipush 60, 2) := zo_16 (a := 60) (zby_w zwX4_holds_0 13 rfl) (zby_w zwX4_holds_0 14 rfl) (by decide)
theorem d_X4_holds_15 : decode cX4_holds 15 = .ok (.if_icmp .ge 7, 3) := zo_162 (a := 0) (b := 7) (zby_w zwX4_holds_0 15 rfl) (zby_w zwX4_holds_0 16 rfl) (zby_w zwX4_holds_0 17 rfl) (by decide)
theorem d_X4_holds_18 : decode cX4_holds 18 = .ok (.iconst 1, 1) := zo_4 (zby_w zwX4_holds_0 18 rfl)
theorem d_X4_holds_19 : decode cX4_holds 19 = .ok (.goto 4, 3) := zo_167 (a := 0) (b := 4) (zby_w zwX4_holds_0 19 rfl) (zby_w zwX4_holds_0 20 rfl) (zby_w zwX4_holds_0 21 rfl) (by decide)
theorem d_X4_holds_22 : decode cX4_holds 22 = .ok (.iconst 0, 1) := zo_3 (zby_w zwX4_holds_0 22 rfl)
theorem d_X4_holds_23 : decode cX4_holds 23 = .ok (.ireturn, 1) := zo_172 (zby_w zwX4_holds_0 23 rfl)
theorem d_X4_hourPassesAt_0 : decode cX4_hourPassesAt 0 = .ok (.aload_n 0, 1) := zo_42 (zby_w zwX4_hourPassesAt_0 0 rfl)
theorem d_X4_hourPassesAt_1 : decode cX4_hourPassesAt 1 = .ok (.iload_n 1, 1) := zo_27 (zby_w zwX4_hourPassesAt_0 1 rfl)
theorem d_X4_hourPassesAt_2 : decode cX4_hourPassesAt 2 = .ok (.invokevirtual 34, 3) := zo_182 (a := 0) (b := 34) (zby_w zwX4_hourPassesAt_0 2 rfl) (zby_w zwX4_hourPassesAt_0 3 rfl) (zby_w zwX4_hourPassesAt_0 4 rfl) (by decide)
theorem d_X4_hourPassesAt_5 : decode cX4_hourPassesAt 5 = .ok (.ifCond .eq 18, 3) := zo_153 (a := 0) (b := 18) (zby_w zwX4_hourPassesAt_0 5 rfl) (zby_w zwX4_hourPassesAt_0 6 rfl) (zby_w zwX4_hourPassesAt_0 7 rfl) (by decide)
theorem d_X4_hourPassesAt_8 : decode cX4_hourPassesAt 8 = .ok (.aload_n 0, 1) := zo_42 (zby_w zwX4_hourPassesAt_0 8 rfl)
theorem d_X4_hourPassesAt_9 : decode cX4_hourPassesAt 9 = .ok (.getfield 9, 3) := zo_180 (a := 0) (b := 9) (zby_w zwX4_hourPassesAt_0 9 rfl) (zby_w zwX4_hourPassesAt_0 10 rfl) (zby_w zwX4_hourPassesAt_0 11 rfl) (by decide)
theorem d_X4_hourPassesAt_12 : decode cX4_hourPassesAt 12 = .ok (.iload_n 1, 1) := zo_27 (zby_w zwX4_hourPassesAt_0 12 rfl)
theorem d_X4_hourPassesAt_13 : decode cX4_hourPassesAt 13 = .ok (.iaload, 1) := zo_46 (zby_w zwX4_hourPassesAt_0 13 rfl)
theorem d_X4_hourPassesAt_14 : decode cX4_hourPassesAt 14 = .ok (.bipush 46, 2) := zo_16 (a := 46) (zby_w zwX4_hourPassesAt_0 14 rfl) (zby_w zwX4_hourPassesAt_0 15 rfl) (by decide)
theorem d_X4_hourPassesAt_16 : decode cX4_hourPassesAt 16 = .ok (.if_icmp .ne 7, 3) := zo_160 (a := 0) (b := 7) (zby_w zwX4_hourPassesAt_0 16 rfl) (zby_w zwX4_hourPassesAt_0 17 rfl) (zby_w zwX4_hourPassesAt_0 18 rfl) (by decide)
theorem d_X4_hourPassesAt_19 : decode cX4_hourPassesAt 19 = .ok (.iconst 1, 1) := zo_4 (zby_w zwX4_hourPassesAt_0 19 rfl)
theorem d_X4_hourPassesAt_20 : decode cX4_hourPassesAt 20 = .ok (.goto 4, 3) := zo_167 (a := 0) (b := 4) (zby_w zwX4_hourPassesAt_0 20 rfl) (zby_w zwX4_hourPassesAt_0 21 rfl) (zby_w zwX4_hourPassesAt_0 22 rfl) (by decide)
theorem d_X4_hourPassesAt_23 : decode cX4_hourPassesAt 23 = .ok (.iconst 0, 1) := zo_3 (zby_w zwX4_hourPassesAt_0 23 rfl)
theorem d_X4_hourPassesAt_24 : decode cX4_hourPassesAt 24 = .ok (.ireturn, 1) := zo_172 (zby_w zwX4_hourPassesAt_0 24 rfl)
theorem d_X4_shipAt_0 : decode cX4_shipAt 0 = .ok (.aload_n 0, 1) := zo_42 (zby_w zwX4_shipAt_0 0 rfl)
theorem d_X4_shipAt_1 : decode cX4_shipAt 1 = .ok (.iload_n 1, 1) := zo_27 (zby_w zwX4_shipAt_0 1 rfl)
theorem d_X4_shipAt_2 : decode cX4_shipAt 2 = .ok (.invokevirtual 34, 3) := zo_182 (a := 0) (b := 34) (zby_w zwX4_shipAt_0 2 rfl) (zby_w zwX4_shipAt_0 3 rfl) (zby_w zwX4_shipAt_0 4 rfl) (by decide)
theorem d_X4_shipAt_5 : decode cX4_shipAt 5 = .ok (.ifCond .eq 31, 3) := zo_153 (a := 0) (b := 31) (zby_w zwX4_shipAt_0 5 rfl) (zby_w zwX4_shipAt_0 6 rfl) (zby_w zwX4_shipAt_0 7 rfl) (by decide)
theorem d_X4_shipAt_8 : decode cX4_shipAt 8 = .ok (.aload_n 0, 1) := zo_42 (zby_w zwX4_shipAt_0 8 rfl)
theorem d_X4_shipAt_9 : decode cX4_shipAt 9 = .ok (.getfield 9, 3) := zo_180 (a := 0) (b := 9) (zby_w zwX4_shipAt_0 9 rfl) (zby_w zwX4_shipAt_0 10 rfl) (zby_w zwX4_shipAt_0 11 rfl) (by decide)
theorem d_X4_shipAt_12 : decode cX4_shipAt 12 = .ok (.iload_n 1, 1) := zo_27 (zby_w zwX4_shipAt_0 12 rfl)
theorem d_X4_shipAt_13 : decode cX4_shipAt 13 = .ok (.iaload, 1) := zo_46 (zby_w zwX4_shipAt_0 13 rfl)
theorem d_X4_shipAt_14 : decode cX4_shipAt 14 = .ok (.bipush 65, 2) := zo_16 (a := 65) (zby_w zwX4_shipAt_0 14 rfl) (zby_w zwX4_shipAt_0 15 rfl) (by decide)
theorem d_X4_shipAt_16 : decode cX4_shipAt 16 = .ok (.bipush 70, 2) := zo_16 (a := 70) (zby_w zwX4_shipAt_0 16 rfl) (zby_w zwX4_shipAt_0 17 rfl) (by decide)
theorem d_X4_shipAt_18 : decode cX4_shipAt 18 = .ok (.invokestatic 19, 3) := zo_184 (a := 0) (b := 19) (zby_w zwX4_shipAt_0 18 rfl) (zby_w zwX4_shipAt_0 19 rfl) (zby_w zwX4_shipAt_0 20 rfl) (by decide)
theorem d_X4_shipAt_21 : decode cX4_shipAt 21 = .ok (.ifCond .eq 15, 3) := zo_153 (a := 0) (b := 15) (zby_w zwX4_shipAt_0 21 rfl) (zby_w zwX4_shipAt_0 22 rfl) (zby_w zwX4_shipAt_0 23 rfl) (by decide)
theorem d_X4_shipAt_24 : decode cX4_shipAt 24 = .ok (.aload_n 0, 1) := zo_42 (zby_w zwX4_shipAt_0 24 rfl)
theorem d_X4_shipAt_25 : decode cX4_shipAt 25 = .ok (.getfield 9, 3) := zo_180 (a := 0) (b := 9) (zby_w zwX4_shipAt_0 25 rfl) (zby_w zwX4_shipAt_0 26 rfl) (zby_w zwX4_shipAt_0 27 rfl) (by decide)
theorem d_X4_shipAt_28 : decode cX4_shipAt 28 = .ok (.iload_n 1, 1) := zo_27 (zby_w zwX4_shipAt_0 28 rfl)
theorem d_X4_shipAt_29 : decode cX4_shipAt 29 = .ok (.iaload, 1) := zo_46 (zby_w zwX4_shipAt_0 29 rfl)
theorem d_X4_shipAt_30 : decode cX4_shipAt 30 = .ok (.bipush 65, 2) := zo_16 (a := 65) (zby_w zwX4_shipAt_0 30 rfl) (zby_w zwX4_shipAt_0 31 rfl) (by decide)
theorem d_X4_shipAt_32 : decode cX4_shipAt 32 = .ok (.isub, 1) := zo_100 (zby_w zwX4_shipAt_1 0 rfl)
theorem d_X4_shipAt_33 : decode cX4_shipAt 33 = .ok (.goto 5, 3) := zo_167 (a := 0) (b := 5) (zby_w zwX4_shipAt_1 1 rfl) (zby_w zwX4_shipAt_1 2 rfl) (zby_w zwX4_shipAt_1 3 rfl) (by decide)
theorem d_X4_shipAt_36 : decode cX4_shipAt 36 = .ok (.bipush (-6), 2) := zo_16 (a := 250) (zby_w zwX4_shipAt_1 4 rfl) (zby_w zwX4_shipAt_1 5 rfl) (by decide)
theorem d_X4_shipAt_38 : decode cX4_shipAt 38 = .ok (.ireturn, 1) := zo_172 (zby_w zwX4_shipAt_1 6 rfl)
theorem d_X4_sideAt_0 : decode cX4_sideAt 0 = .ok (.aload_n 0, 1) := zo_42 (zby_w zwX4_sideAt_0 0 rfl)
theorem d_X4_sideAt_1 : decode cX4_sideAt 1 = .ok (.iload_n 1, 1) := zo_27 (zby_w zwX4_sideAt_0 1 rfl)
theorem d_X4_sideAt_2 : decode cX4_sideAt 2 = .ok (.invokevirtual 34, 3) := zo_182 (a := 0) (b := 34) (zby_w zwX4_sideAt_0 2 rfl) (zby_w zwX4_sideAt_0 3 rfl) (zby_w zwX4_sideAt_0 4 rfl) (by decide)
theorem d_X4_sideAt_5 : decode cX4_sideAt 5 = .ok (.ifCond .ne 6, 3) := zo_154 (a := 0) (b := 6) (zby_w zwX4_sideAt_0 5 rfl) (zby_w zwX4_sideAt_0 6 rfl) (zby_w zwX4_sideAt_0 7 rfl) (by decide)
theorem d_X4_sideAt_8 : decode cX4_sideAt 8 = .ok (.bipush (-6), 2) := zo_16 (a := 250) (zby_w zwX4_sideAt_0 8 rfl) (zby_w zwX4_sideAt_0 9 rfl) (by decide)
theorem d_X4_sideAt_10 : decode cX4_sideAt 10 = .ok (.ireturn, 1) := zo_172 (zby_w zwX4_sideAt_0 10 rfl)
theorem d_X4_sideAt_11 : decode cX4_sideAt 11 = .ok (.aload_n 0, 1) := zo_42 (zby_w zwX4_sideAt_0 11 rfl)
theorem d_X4_sideAt_12 : decode cX4_sideAt 12 = .ok (.getfield 9, 3) := zo_180 (a := 0) (b := 9) (zby_w zwX4_sideAt_0 12 rfl) (zby_w zwX4_sideAt_0 13 rfl) (zby_w zwX4_sideAt_0 14 rfl) (by decide)
theorem d_X4_sideAt_15 : decode cX4_sideAt 15 = .ok (.iload_n 1, 1) := zo_27 (zby_w zwX4_sideAt_0 15 rfl)
theorem d_X4_sideAt_16 : decode cX4_sideAt 16 = .ok (.iaload, 1) := zo_46 (zby_w zwX4_sideAt_0 16 rfl)
theorem d_X4_sideAt_17 : decode cX4_sideAt 17 = .ok (.lookupswitch 41 #[(67, 39), (84, 35), (87, 37)], 35) := by decide +kernel
theorem d_X4_sideAt_52 : decode cX4_sideAt 52 = .ok (.iconst 0, 1) := zo_3 (zby_w zwX4_sideAt_1 20 rfl)
theorem d_X4_sideAt_53 : decode cX4_sideAt 53 = .ok (.ireturn, 1) := zo_172 (zby_w zwX4_sideAt_1 21 rfl)
theorem d_X4_sideAt_54 : decode cX4_sideAt 54 = .ok (.iconst 1, 1) := zo_4 (zby_w zwX4_sideAt_1 22 rfl)
theorem d_X4_sideAt_55 : decode cX4_sideAt 55 = .ok (.ireturn, 1) := zo_172 (zby_w zwX4_sideAt_1 23 rfl)
theorem d_X4_sideAt_56 : decode cX4_sideAt 56 = .ok (.iconst 2, 1) := zo_5 (zby_w zwX4_sideAt_1 24 rfl)
theorem d_X4_sideAt_57 : decode cX4_sideAt 57 = .ok (.ireturn, 1) := zo_172 (zby_w zwX4_sideAt_1 25 rfl)
theorem d_X4_sideAt_58 : decode cX4_sideAt 58 = .ok (.bipush (-6), 2) := zo_16 (a := 250) (zby_w zwX4_sideAt_1 26 rfl) (zby_w zwX4_sideAt_1 27 rfl) (by decide)
theorem d_X4_sideAt_60 : decode cX4_sideAt 60 = .ok (.ireturn, 1) := zo_172 (zby_w zwX4_sideAt_1 28 rfl)
theorem d_X5_become_0 : decode cX5_become 0 = .ok (.aload_n 0, 1) := zo_42 (zby_w zwX5_become_0 0 rfl)
theorem d_X5_become_1 : decode cX5_become 1 = .ok (.aload_n 1, 1) := zo_43 (zby_w zwX5_become_0 1 rfl)
theorem d_X5_become_2 : decode cX5_become 2 = .ok (.getfield 9, 3) := zo_180 (a := 0) (b := 9) (zby_w zwX5_become_0 2 rfl) (zby_w zwX5_become_0 3 rfl) (zby_w zwX5_become_0 4 rfl) (by decide)
theorem d_X5_become_5 : decode cX5_become 5 = .ok (.putfield 9, 3) := zo_181 (a := 0) (b := 9) (zby_w zwX5_become_0 5 rfl) (zby_w zwX5_become_0 6 rfl) (zby_w zwX5_become_0 7 rfl) (by decide)
theorem d_X5_become_8 : decode cX5_become 8 = .ok (.aload_n 1, 1) := zo_43 (zby_w zwX5_become_0 8 rfl)
theorem d_X5_become_9 : decode cX5_become 9 = .ok (.getfield 15, 3) := zo_180 (a := 0) (b := 15) (zby_w zwX5_become_0 9 rfl) (zby_w zwX5_become_0 10 rfl) (zby_w zwX5_become_0 11 rfl) (by decide)
theorem d_X5_become_12 : decode cX5_become 12 = .ok (.iconst 0, 1) := zo_3 (zby_w zwX5_become_0 12 rfl)
theorem d_X5_become_13 : decode cX5_become 13 = .ok (.aload_n 0, 1) := zo_42 (zby_w zwX5_become_0 13 rfl)
theorem d_X5_become_14 : decode cX5_become 14 = .ok (.getfield 15, 3) := zo_180 (a := 0) (b := 15) (zby_w zwX5_become_0 14 rfl) (zby_w zwX5_become_0 15 rfl) (zby_w zwX5_become_0 16 rfl) (by decide)
theorem d_X5_become_17 : decode cX5_become 17 = .ok (.iconst 0, 1) := zo_3 (zby_w zwX5_become_0 17 rfl)
theorem d_X5_become_18 : decode cX5_become 18 = .ok (.bipush 6, 2) := zo_16 (a := 6) (zby_w zwX5_become_0 18 rfl) (zby_w zwX5_become_0 19 rfl) (by decide)
theorem d_X5_become_20 : decode cX5_become 20 = .ok (.invokestatic 22, 3) := zo_184 (a := 0) (b := 22) (zby_w zwX5_become_0 20 rfl) (zby_w zwX5_become_0 21 rfl) (zby_w zwX5_become_0 22 rfl) (by decide)
theorem d_X5_become_23 : decode cX5_become 23 = .ok (.aload_n 1, 1) := zo_43 (zby_w zwX5_become_0 23 rfl)
theorem d_X5_become_24 : decode cX5_become 24 = .ok (.getfield 19, 3) := zo_180 (a := 0) (b := 19) (zby_w zwX5_become_0 24 rfl) (zby_w zwX5_become_0 25 rfl) (zby_w zwX5_become_0 26 rfl) (by decide)
theorem d_X5_become_27 : decode cX5_become 27 = .ok (.iconst 0, 1) := zo_3 (zby_w zwX5_become_0 27 rfl)
theorem d_X5_become_28 : decode cX5_become 28 = .ok (.aload_n 0, 1) := zo_42 (zby_w zwX5_become_0 28 rfl)
theorem d_X5_become_29 : decode cX5_become 29 = .ok (.getfield 19, 3) := zo_180 (a := 0) (b := 19) (zby_w zwX5_become_0 29 rfl) (zby_w zwX5_become_0 30 rfl) (zby_w zwX5_become_0 31 rfl) (by decide)
theorem d_X5_become_32 : decode cX5_become 32 = .ok (.iconst 0, 1) := zo_3 (zby_w zwX5_become_1 0 rfl)
theorem d_X5_become_33 : decode cX5_become 33 = .ok (.bipush 6, 2) := zo_16 (a := 6) (zby_w zwX5_become_1 1 rfl) (zby_w zwX5_become_1 2 rfl) (by decide)
theorem d_X5_become_35 : decode cX5_become 35 = .ok (.invokestatic 22, 3) := zo_184 (a := 0) (b := 22) (zby_w zwX5_become_1 3 rfl) (zby_w zwX5_become_1 4 rfl) (zby_w zwX5_become_1 5 rfl) (by decide)
theorem d_X5_become_38 : decode cX5_become 38 = .ok (.return_, 1) := zo_177 (zby_w zwX5_become_1 6 rfl)
theorem d_X5_namesOnTwo_0 : decode cX5_namesOnTwo 0 = .ok (.iconst 0, 1) := zo_3 (zby_w zwX5_namesOnTwo_0 0 rfl)
theorem d_X5_namesOnTwo_1 : decode cX5_namesOnTwo 1 = .ok (.istore_n 2, 1) := zo_61 (zby_w zwX5_namesOnTwo_0 1 rfl)
theorem d_X5_namesOnTwo_2 : decode cX5_namesOnTwo 2 = .ok (.iconst 0, 1) := zo_3 (zby_w zwX5_namesOnTwo_0 2 rfl)
theorem d_X5_namesOnTwo_3 : decode cX5_namesOnTwo 3 = .ok (.istore_n 3, 1) := zo_62 (zby_w zwX5_namesOnTwo_0 3 rfl)
theorem d_X5_namesOnTwo_4 : decode cX5_namesOnTwo 4 = .ok (.iload_n 3, 1) := zo_29 (zby_w zwX5_namesOnTwo_0 4 rfl)
theorem d_X5_namesOnTwo_5 : decode cX5_namesOnTwo 5 = .ok (.bipush 8, 2) := zo_16 (a := 8) (zby_w zwX5_namesOnTwo_0 5 rfl) (zby_w zwX5_namesOnTwo_0 6 rfl) (by decide)
theorem d_X5_namesOnTwo_7 : decode cX5_namesOnTwo 7 = .ok (.if_icmp .ge 25, 3) := zo_162 (a := 0) (b := 25) (zby_w zwX5_namesOnTwo_0 7 rfl) (zby_w zwX5_namesOnTwo_0 8 rfl) (zby_w zwX5_namesOnTwo_0 9 rfl) (by decide)
theorem d_X5_namesOnTwo_10 : decode cX5_namesOnTwo 10 = .ok (.aload_n 0, 1) := zo_42 (zby_w zwX5_namesOnTwo_0 10 rfl)
theorem d_X5_namesOnTwo_11 : decode cX5_namesOnTwo 11 = .ok (.iload_n 3, 1) := zo_29 (zby_w zwX5_namesOnTwo_0 11 rfl)
theorem d_X5_namesOnTwo_12 : decode cX5_namesOnTwo 12 = .ok (.iload_n 1, 1) := zo_27 (zby_w zwX5_namesOnTwo_0 12 rfl)
theorem d_X5_namesOnTwo_13 : decode cX5_namesOnTwo 13 = .ok (.invokevirtual 28, 3) := zo_182 (a := 0) (b := 28) (zby_w zwX5_namesOnTwo_0 13 rfl) (zby_w zwX5_namesOnTwo_0 14 rfl) (zby_w zwX5_namesOnTwo_0 15 rfl) (by decide)
theorem d_X5_namesOnTwo_16 : decode cX5_namesOnTwo 16 = .ok (.iconst 2, 1) := zo_5 (zby_w zwX5_namesOnTwo_0 16 rfl)
theorem d_X5_namesOnTwo_17 : decode cX5_namesOnTwo 17 = .ok (.if_icmp .lt 9, 3) := zo_161 (a := 0) (b := 9) (zby_w zwX5_namesOnTwo_0 17 rfl) (zby_w zwX5_namesOnTwo_0 18 rfl) (zby_w zwX5_namesOnTwo_0 19 rfl) (by decide)
theorem d_X5_namesOnTwo_20 : decode cX5_namesOnTwo 20 = .ok (.iload_n 2, 1) := zo_28 (zby_w zwX5_namesOnTwo_0 20 rfl)
theorem d_X5_namesOnTwo_21 : decode cX5_namesOnTwo 21 = .ok (.iconst 1, 1) := zo_4 (zby_w zwX5_namesOnTwo_0 21 rfl)
theorem d_X5_namesOnTwo_22 : decode cX5_namesOnTwo 22 = .ok (.iload_n 3, 1) := zo_29 (zby_w zwX5_namesOnTwo_0 22 rfl)
theorem d_X5_namesOnTwo_23 : decode cX5_namesOnTwo 23 = .ok (.ishl, 1) := zo_120 (zby_w zwX5_namesOnTwo_0 23 rfl)
theorem d_X5_namesOnTwo_24 : decode cX5_namesOnTwo 24 = .ok (.ior, 1) := zo_128 (zby_w zwX5_namesOnTwo_0 24 rfl)
theorem d_X5_namesOnTwo_25 : decode cX5_namesOnTwo 25 = .ok (.istore_n 2, 1) := zo_61 (zby_w zwX5_namesOnTwo_0 25 rfl)
theorem d_X5_namesOnTwo_26 : decode cX5_namesOnTwo 26 = .ok (.iinc 3 1, 3) := by decide +kernel
theorem d_X5_namesOnTwo_29 : decode cX5_namesOnTwo 29 = .ok (.goto (-25), 3) := zo_167 (a := 255) (b := 231) (zby_w zwX5_namesOnTwo_0 29 rfl) (zby_w zwX5_namesOnTwo_0 30 rfl) (zby_w zwX5_namesOnTwo_0 31 rfl) (by decide)
theorem d_X5_namesOnTwo_32 : decode cX5_namesOnTwo 32 = .ok (.iload_n 2, 1) := zo_28 (zby_w zwX5_namesOnTwo_1 0 rfl)
theorem d_X5_namesOnTwo_33 : decode cX5_namesOnTwo 33 = .ok (.ireturn, 1) := zo_172 (zby_w zwX5_namesOnTwo_1 1 rfl)
theorem d_X5_rollsWith_0 : decode cX5_rollsWith 0 = .ok (.iconst 0, 1) := zo_3 (zby_w zwX5_rollsWith_0 0 rfl)
theorem d_X5_rollsWith_1 : decode cX5_rollsWith 1 = .ok (.istore_n 3, 1) := zo_62 (zby_w zwX5_rollsWith_0 1 rfl)
theorem d_X5_rollsWith_2 : decode cX5_rollsWith 2 = .ok (.iconst 0, 1) := zo_3 (zby_w zwX5_rollsWith_0 2 rfl)
theorem d_X5_rollsWith_3 : decode cX5_rollsWith 3 = .ok (.istore 4, 2) := zo_54 (a := 4) (zby_w zwX5_rollsWith_0 3 rfl) (zby_w zwX5_rollsWith_0 4 rfl) (by decide)
theorem d_X5_rollsWith_5 : decode cX5_rollsWith 5 = .ok (.iload 4, 2) := zo_21 (a := 4) (zby_w zwX5_rollsWith_0 5 rfl) (zby_w zwX5_rollsWith_0 6 rfl) (by decide)
theorem d_X5_rollsWith_7 : decode cX5_rollsWith 7 = .ok (.aload_n 0, 1) := zo_42 (zby_w zwX5_rollsWith_0 7 rfl)
theorem d_X5_rollsWith_8 : decode cX5_rollsWith 8 = .ok (.getfield 9, 3) := zo_180 (a := 0) (b := 9) (zby_w zwX5_rollsWith_0 8 rfl) (zby_w zwX5_rollsWith_0 9 rfl) (zby_w zwX5_rollsWith_0 10 rfl) (by decide)
theorem d_X5_rollsWith_11 : decode cX5_rollsWith 11 = .ok (.if_icmp .ge 48, 3) := zo_162 (a := 0) (b := 48) (zby_w zwX5_rollsWith_0 11 rfl) (zby_w zwX5_rollsWith_0 12 rfl) (zby_w zwX5_rollsWith_0 13 rfl) (by decide)
theorem d_X5_rollsWith_14 : decode cX5_rollsWith 14 = .ok (.iload 4, 2) := zo_21 (a := 4) (zby_w zwX5_rollsWith_0 14 rfl) (zby_w zwX5_rollsWith_0 15 rfl) (by decide)
theorem d_X5_rollsWith_16 : decode cX5_rollsWith 16 = .ok (.bipush 6, 2) := zo_16 (a := 6) (zby_w zwX5_rollsWith_0 16 rfl) (zby_w zwX5_rollsWith_0 17 rfl) (by decide)
theorem d_X5_rollsWith_18 : decode cX5_rollsWith 18 = .ok (.if_icmp .ge 41, 3) := zo_162 (a := 0) (b := 41) (zby_w zwX5_rollsWith_0 18 rfl) (zby_w zwX5_rollsWith_0 19 rfl) (zby_w zwX5_rollsWith_0 20 rfl) (by decide)
theorem d_X5_rollsWith_21 : decode cX5_rollsWith 21 = .ok (.aload_n 0, 1) := zo_42 (zby_w zwX5_rollsWith_0 21 rfl)
theorem d_X5_rollsWith_22 : decode cX5_rollsWith 22 = .ok (.getfield 15, 3) := zo_180 (a := 0) (b := 15) (zby_w zwX5_rollsWith_0 22 rfl) (zby_w zwX5_rollsWith_0 23 rfl) (zby_w zwX5_rollsWith_0 24 rfl) (by decide)
theorem d_X5_rollsWith_25 : decode cX5_rollsWith 25 = .ok (.iload 4, 2) := zo_21 (a := 4) (zby_w zwX5_rollsWith_0 25 rfl) (zby_w zwX5_rollsWith_0 26 rfl) (by decide)
theorem d_X5_rollsWith_27 : decode cX5_rollsWith 27 = .ok (.iaload, 1) := zo_46 (zby_w zwX5_rollsWith_0 27 rfl)
theorem d_X5_rollsWith_28 : decode cX5_rollsWith 28 = .ok (.iload_n 1, 1) := zo_27 (zby_w zwX5_rollsWith_0 28 rfl)
theorem d_X5_rollsWith_29 : decode cX5_rollsWith 29 = .ok (.ishr, 1) := zo_122 (zby_w zwX5_rollsWith_0 29 rfl)
theorem d_X5_rollsWith_30 : decode cX5_rollsWith 30 = .ok (.iconst 1, 1) := zo_4 (zby_w zwX5_rollsWith_0 30 rfl)
theorem d_X5_rollsWith_31 : decode cX5_rollsWith 31 = .ok (.iand, 1) := zo_126 (zby_w zwX5_rollsWith_0 31 rfl)
theorem d_X5_rollsWith_32 : decode cX5_rollsWith 32 = .ok (.iconst 1, 1) := zo_4 (zby_w zwX5_rollsWith_1 0 rfl)
theorem d_X5_rollsWith_33 : decode cX5_rollsWith 33 = .ok (.if_icmp .eq 17, 3) := zo_159 (a := 0) (b := 17) (zby_w zwX5_rollsWith_1 1 rfl) (zby_w zwX5_rollsWith_1 2 rfl) (zby_w zwX5_rollsWith_1 3 rfl) (by decide)
theorem d_X5_rollsWith_36 : decode cX5_rollsWith 36 = .ok (.iload_n 2, 1) := zo_28 (zby_w zwX5_rollsWith_1 4 rfl)
theorem d_X5_rollsWith_37 : decode cX5_rollsWith 37 = .ok (.ifCond .eq 16, 3) := zo_153 (a := 0) (b := 16) (zby_w zwX5_rollsWith_1 5 rfl) (zby_w zwX5_rollsWith_1 6 rfl) (zby_w zwX5_rollsWith_1 7 rfl) (by decide)
theorem d_X5_rollsWith_40 : decode cX5_rollsWith 40 = .ok (.aload_n 0, 1) := zo_42 (zby_w zwX5_rollsWith_1 8 rfl)
theorem d_X5_rollsWith_41 : decode cX5_rollsWith 41 = .ok (.getfield 19, 3) := zo_180 (a := 0) (b := 19) (zby_w zwX5_rollsWith_1 9 rfl) (zby_w zwX5_rollsWith_1 10 rfl) (zby_w zwX5_rollsWith_1 11 rfl) (by decide)
theorem d_X5_rollsWith_44 : decode cX5_rollsWith 44 = .ok (.iload 4, 2) := zo_21 (a := 4) (zby_w zwX5_rollsWith_1 12 rfl) (zby_w zwX5_rollsWith_1 13 rfl) (by decide)
theorem d_X5_rollsWith_46 : decode cX5_rollsWith 46 = .ok (.iaload, 1) := zo_46 (zby_w zwX5_rollsWith_1 14 rfl)
theorem d_X5_rollsWith_47 : decode cX5_rollsWith 47 = .ok (.ifCond .le 6, 3) := zo_158 (a := 0) (b := 6) (zby_w zwX5_rollsWith_1 15 rfl) (zby_w zwX5_rollsWith_1 16 rfl) (zby_w zwX5_rollsWith_1 17 rfl) (by decide)
theorem d_X5_rollsWith_50 : decode cX5_rollsWith 50 = .ok (.iinc 3 1, 3) := by decide +kernel
theorem d_X5_rollsWith_53 : decode cX5_rollsWith 53 = .ok (.iinc 4 1, 3) := by decide +kernel
theorem d_X5_rollsWith_56 : decode cX5_rollsWith 56 = .ok (.goto (-51), 3) := zo_167 (a := 255) (b := 205) (zby_w zwX5_rollsWith_1 24 rfl) (zby_w zwX5_rollsWith_1 25 rfl) (zby_w zwX5_rollsWith_1 26 rfl) (by decide)
theorem d_X5_rollsWith_59 : decode cX5_rollsWith 59 = .ok (.iload_n 3, 1) := zo_29 (zby_w zwX5_rollsWith_1 27 rfl)
theorem d_X5_rollsWith_60 : decode cX5_rollsWith 60 = .ok (.ireturn, 1) := zo_172 (zby_w zwX5_rollsWith_1 28 rfl)
theorem d_X6_become_0 : decode cX6_become 0 = .ok (.aload_n 0, 1) := zo_42 (zby_w zwX6_become_0 0 rfl)
theorem d_X6_become_1 : decode cX6_become 1 = .ok (.aload_n 1, 1) := zo_43 (zby_w zwX6_become_0 1 rfl)
theorem d_X6_become_2 : decode cX6_become 2 = .ok (.getfield 9, 3) := zo_180 (a := 0) (b := 9) (zby_w zwX6_become_0 2 rfl) (zby_w zwX6_become_0 3 rfl) (zby_w zwX6_become_0 4 rfl) (by decide)
theorem d_X6_become_5 : decode cX6_become 5 = .ok (.putfield 9, 3) := zo_181 (a := 0) (b := 9) (zby_w zwX6_become_0 5 rfl) (zby_w zwX6_become_0 6 rfl) (zby_w zwX6_become_0 7 rfl) (by decide)
theorem d_X6_become_8 : decode cX6_become 8 = .ok (.aload_n 1, 1) := zo_43 (zby_w zwX6_become_0 8 rfl)
theorem d_X6_become_9 : decode cX6_become 9 = .ok (.getfield 15, 3) := zo_180 (a := 0) (b := 15) (zby_w zwX6_become_0 9 rfl) (zby_w zwX6_become_0 10 rfl) (zby_w zwX6_become_0 11 rfl) (by decide)
theorem d_X6_become_12 : decode cX6_become 12 = .ok (.iconst 0, 1) := zo_3 (zby_w zwX6_become_0 12 rfl)
theorem d_X6_become_13 : decode cX6_become 13 = .ok (.aload_n 0, 1) := zo_42 (zby_w zwX6_become_0 13 rfl)
theorem d_X6_become_14 : decode cX6_become 14 = .ok (.getfield 15, 3) := zo_180 (a := 0) (b := 15) (zby_w zwX6_become_0 14 rfl) (zby_w zwX6_become_0 15 rfl) (zby_w zwX6_become_0 16 rfl) (by decide)
theorem d_X6_become_17 : decode cX6_become 17 = .ok (.iconst 0, 1) := zo_3 (zby_w zwX6_become_0 17 rfl)
theorem d_X6_become_18 : decode cX6_become 18 = .ok (.bipush 6, 2) := zo_16 (a := 6) (zby_w zwX6_become_0 18 rfl) (zby_w zwX6_become_0 19 rfl) (by decide)
theorem d_X6_become_20 : decode cX6_become 20 = .ok (.invokestatic 48, 3) := zo_184 (a := 0) (b := 48) (zby_w zwX6_become_0 20 rfl) (zby_w zwX6_become_0 21 rfl) (zby_w zwX6_become_0 22 rfl) (by decide)
theorem d_X6_become_23 : decode cX6_become 23 = .ok (.aload_n 1, 1) := zo_43 (zby_w zwX6_become_0 23 rfl)
theorem d_X6_become_24 : decode cX6_become 24 = .ok (.getfield 19, 3) := zo_180 (a := 0) (b := 19) (zby_w zwX6_become_0 24 rfl) (zby_w zwX6_become_0 25 rfl) (zby_w zwX6_become_0 26 rfl) (by decide)
theorem d_X6_become_27 : decode cX6_become 27 = .ok (.iconst 0, 1) := zo_3 (zby_w zwX6_become_0 27 rfl)
theorem d_X6_become_28 : decode cX6_become 28 = .ok (.aload_n 0, 1) := zo_42 (zby_w zwX6_become_0 28 rfl)
theorem d_X6_become_29 : decode cX6_become 29 = .ok (.getfield 19, 3) := zo_180 (a := 0) (b := 19) (zby_w zwX6_become_0 29 rfl) (zby_w zwX6_become_0 30 rfl) (zby_w zwX6_become_0 31 rfl) (by decide)
theorem d_X6_become_32 : decode cX6_become 32 = .ok (.iconst 0, 1) := zo_3 (zby_w zwX6_become_1 0 rfl)
theorem d_X6_become_33 : decode cX6_become 33 = .ok (.bipush 6, 2) := zo_16 (a := 6) (zby_w zwX6_become_1 1 rfl) (zby_w zwX6_become_1 2 rfl) (by decide)
theorem d_X6_become_35 : decode cX6_become 35 = .ok (.invokestatic 48, 3) := zo_184 (a := 0) (b := 48) (zby_w zwX6_become_1 3 rfl) (zby_w zwX6_become_1 4 rfl) (zby_w zwX6_become_1 5 rfl) (by decide)
theorem d_X6_become_38 : decode cX6_become 38 = .ok (.aload_n 1, 1) := zo_43 (zby_w zwX6_become_1 6 rfl)
theorem d_X6_become_39 : decode cX6_become 39 = .ok (.getfield 22, 3) := zo_180 (a := 0) (b := 22) (zby_w zwX6_become_1 7 rfl) (zby_w zwX6_become_1 8 rfl) (zby_w zwX6_become_1 9 rfl) (by decide)
theorem d_X6_become_42 : decode cX6_become 42 = .ok (.iconst 0, 1) := zo_3 (zby_w zwX6_become_1 10 rfl)
theorem d_X6_become_43 : decode cX6_become 43 = .ok (.aload_n 0, 1) := zo_42 (zby_w zwX6_become_1 11 rfl)
theorem d_X6_become_44 : decode cX6_become 44 = .ok (.getfield 22, 3) := zo_180 (a := 0) (b := 22) (zby_w zwX6_become_1 12 rfl) (zby_w zwX6_become_1 13 rfl) (zby_w zwX6_become_1 14 rfl) (by decide)
theorem d_X6_become_47 : decode cX6_become 47 = .ok (.iconst 0, 1) := zo_3 (zby_w zwX6_become_1 15 rfl)
theorem d_X6_become_48 : decode cX6_become 48 = .ok (.bipush 6, 2) := zo_16 (a := 6) (zby_w zwX6_become_1 16 rfl) (zby_w zwX6_become_1 17 rfl) (by decide)
theorem d_X6_become_50 : decode cX6_become 50 = .ok (.invokestatic 48, 3) := zo_184 (a := 0) (b := 48) (zby_w zwX6_become_1 18 rfl) (zby_w zwX6_become_1 19 rfl) (zby_w zwX6_become_1 20 rfl) (by decide)
theorem d_X6_become_53 : decode cX6_become 53 = .ok (.aload_n 1, 1) := zo_43 (zby_w zwX6_become_1 21 rfl)
theorem d_X6_become_54 : decode cX6_become 54 = .ok (.getfield 25, 3) := zo_180 (a := 0) (b := 25) (zby_w zwX6_become_1 22 rfl) (zby_w zwX6_become_1 23 rfl) (zby_w zwX6_become_1 24 rfl) (by decide)
theorem d_X6_become_57 : decode cX6_become 57 = .ok (.iconst 0, 1) := zo_3 (zby_w zwX6_become_1 25 rfl)
theorem d_X6_become_58 : decode cX6_become 58 = .ok (.aload_n 0, 1) := zo_42 (zby_w zwX6_become_1 26 rfl)
theorem d_X6_become_59 : decode cX6_become 59 = .ok (.getfield 25, 3) := zo_180 (a := 0) (b := 25) (zby_w zwX6_become_1 27 rfl) (zby_w zwX6_become_1 28 rfl) (zby_w zwX6_become_1 29 rfl) (by decide)
theorem d_X6_become_62 : decode cX6_become 62 = .ok (.iconst 0, 1) := zo_3 (zby_w zwX6_become_1 30 rfl)
theorem d_X6_become_63 : decode cX6_become 63 = .ok (.bipush 6, 2) := zo_16 (a := 6) (zby_w zwX6_become_1 31 rfl) (zby_w zwX6_become_1 32 rfl) (by decide)
theorem d_X6_become_65 : decode cX6_become 65 = .ok (.invokestatic 48, 3) := zo_184 (a := 0) (b := 48) (zby_w zwX6_become_2 1 rfl) (zby_w zwX6_become_2 2 rfl) (zby_w zwX6_become_2 3 rfl) (by decide)
theorem d_X6_become_68 : decode cX6_become 68 = .ok (.aload_n 1, 1) := zo_43 (zby_w zwX6_become_2 4 rfl)
theorem d_X6_become_69 : decode cX6_become 69 = .ok (.getfield 36, 3) := zo_180 (a := 0) (b := 36) (zby_w zwX6_become_2 5 rfl) (zby_w zwX6_become_2 6 rfl) (zby_w zwX6_become_2 7 rfl) (by decide)
theorem d_X6_become_72 : decode cX6_become 72 = .ok (.iconst 0, 1) := zo_3 (zby_w zwX6_become_2 8 rfl)
theorem d_X6_become_73 : decode cX6_become 73 = .ok (.aload_n 0, 1) := zo_42 (zby_w zwX6_become_2 9 rfl)
theorem d_X6_become_74 : decode cX6_become 74 = .ok (.getfield 36, 3) := zo_180 (a := 0) (b := 36) (zby_w zwX6_become_2 10 rfl) (zby_w zwX6_become_2 11 rfl) (zby_w zwX6_become_2 12 rfl) (by decide)
theorem d_X6_become_77 : decode cX6_become 77 = .ok (.iconst 0, 1) := zo_3 (zby_w zwX6_become_2 13 rfl)
theorem d_X6_become_78 : decode cX6_become 78 = .ok (.bipush 8, 2) := zo_16 (a := 8) (zby_w zwX6_become_2 14 rfl) (zby_w zwX6_become_2 15 rfl) (by decide)
theorem d_X6_become_80 : decode cX6_become 80 = .ok (.invokestatic 48, 3) := zo_184 (a := 0) (b := 48) (zby_w zwX6_become_2 16 rfl) (zby_w zwX6_become_2 17 rfl) (zby_w zwX6_become_2 18 rfl) (by decide)
theorem d_X6_become_83 : decode cX6_become 83 = .ok (.aload_n 1, 1) := zo_43 (zby_w zwX6_become_2 19 rfl)
theorem d_X6_become_84 : decode cX6_become 84 = .ok (.getfield 39, 3) := zo_180 (a := 0) (b := 39) (zby_w zwX6_become_2 20 rfl) (zby_w zwX6_become_2 21 rfl) (zby_w zwX6_become_2 22 rfl) (by decide)
theorem d_X6_become_87 : decode cX6_become 87 = .ok (.iconst 0, 1) := zo_3 (zby_w zwX6_become_2 23 rfl)
theorem d_X6_become_88 : decode cX6_become 88 = .ok (.aload_n 0, 1) := zo_42 (zby_w zwX6_become_2 24 rfl)
theorem d_X6_become_89 : decode cX6_become 89 = .ok (.getfield 39, 3) := zo_180 (a := 0) (b := 39) (zby_w zwX6_become_2 25 rfl) (zby_w zwX6_become_2 26 rfl) (zby_w zwX6_become_2 27 rfl) (by decide)
theorem d_X6_become_92 : decode cX6_become 92 = .ok (.iconst 0, 1) := zo_3 (zby_w zwX6_become_2 28 rfl)
theorem d_X6_become_93 : decode cX6_become 93 = .ok (.bipush 24, 2) := zo_16 (a := 24) (zby_w zwX6_become_2 29 rfl) (zby_w zwX6_become_2 30 rfl) (by decide)
theorem d_X6_become_95 : decode cX6_become 95 = .ok (.invokestatic 48, 3) := zo_184 (a := 0) (b := 48) (zby_w zwX6_become_2 31 rfl) (zby_w zwX6_become_2 32 rfl) (zby_w zwX6_become_2 33 rfl) (by decide)
theorem d_X6_become_98 : decode cX6_become 98 = .ok (.aload_n 0, 1) := zo_42 (zby_w zwX6_become_3 2 rfl)
theorem d_X6_become_99 : decode cX6_become 99 = .ok (.aload_n 1, 1) := zo_43 (zby_w zwX6_become_3 3 rfl)
theorem d_X6_become_100 : decode cX6_become 100 = .ok (.getfield 42, 3) := zo_180 (a := 0) (b := 42) (zby_w zwX6_become_3 4 rfl) (zby_w zwX6_become_3 5 rfl) (zby_w zwX6_become_3 6 rfl) (by decide)
theorem d_X6_become_103 : decode cX6_become 103 = .ok (.putfield 42, 3) := zo_181 (a := 0) (b := 42) (zby_w zwX6_become_3 7 rfl) (zby_w zwX6_become_3 8 rfl) (zby_w zwX6_become_3 9 rfl) (by decide)
theorem d_X6_become_106 : decode cX6_become 106 = .ok (.aload_n 1, 1) := zo_43 (zby_w zwX6_become_3 10 rfl)
theorem d_X6_become_107 : decode cX6_become 107 = .ok (.getfield 45, 3) := zo_180 (a := 0) (b := 45) (zby_w zwX6_become_3 11 rfl) (zby_w zwX6_become_3 12 rfl) (zby_w zwX6_become_3 13 rfl) (by decide)
theorem d_X6_become_110 : decode cX6_become 110 = .ok (.iconst 0, 1) := zo_3 (zby_w zwX6_become_3 14 rfl)
theorem d_X6_become_111 : decode cX6_become 111 = .ok (.aload_n 0, 1) := zo_42 (zby_w zwX6_become_3 15 rfl)
theorem d_X6_become_112 : decode cX6_become 112 = .ok (.getfield 45, 3) := zo_180 (a := 0) (b := 45) (zby_w zwX6_become_3 16 rfl) (zby_w zwX6_become_3 17 rfl) (zby_w zwX6_become_3 18 rfl) (by decide)
theorem d_X6_become_115 : decode cX6_become 115 = .ok (.iconst 0, 1) := zo_3 (zby_w zwX6_become_3 19 rfl)
theorem d_X6_become_116 : decode cX6_become 116 = .ok (.iconst 3, 1) := zo_6 (zby_w zwX6_become_3 20 rfl)
theorem d_X6_become_117 : decode cX6_become 117 = .ok (.invokestatic 48, 3) := zo_184 (a := 0) (b := 48) (zby_w zwX6_become_3 21 rfl) (zby_w zwX6_become_3 22 rfl) (zby_w zwX6_become_3 23 rfl) (by decide)
theorem d_X6_become_120 : decode cX6_become 120 = .ok (.return_, 1) := zo_177 (zby_w zwX6_become_3 24 rfl)
theorem d_X6_captainGets_0 : decode cX6_captainGets 0 = .ok (.iload_n 2, 1) := zo_28 (zby_w zwX6_captainGets_0 0 rfl)
theorem d_X6_captainGets_1 : decode cX6_captainGets 1 = .ok (.ifCond .ne 25, 3) := zo_154 (a := 0) (b := 25) (zby_w zwX6_captainGets_0 1 rfl) (zby_w zwX6_captainGets_0 2 rfl) (zby_w zwX6_captainGets_0 3 rfl) (by decide)
theorem d_X6_captainGets_4 : decode cX6_captainGets 4 = .ok (.bipush 10, 2) := zo_16 (a := 10) (zby_w zwX6_captainGets_0 4 rfl) (zby_w zwX6_captainGets_0 5 rfl) (by decide)
theorem d_X6_captainGets_6 : decode cX6_captainGets 6 = .ok (.aload_n 0, 1) := zo_42 (zby_w zwX6_captainGets_0 6 rfl)
theorem d_X6_captainGets_7 : decode cX6_captainGets 7 = .ok (.aload_n 0, 1) := zo_42 (zby_w zwX6_captainGets_0 7 rfl)
theorem d_X6_captainGets_8 : decode cX6_captainGets 8 = .ok (.getfield 19, 3) := zo_180 (a := 0) (b := 19) (zby_w zwX6_captainGets_0 8 rfl) (zby_w zwX6_captainGets_0 9 rfl) (zby_w zwX6_captainGets_0 10 rfl) (by decide)
theorem d_X6_captainGets_11 : decode cX6_captainGets 11 = .ok (.iload_n 1, 1) := zo_27 (zby_w zwX6_captainGets_0 11 rfl)
theorem d_X6_captainGets_12 : decode cX6_captainGets 12 = .ok (.iaload, 1) := zo_46 (zby_w zwX6_captainGets_0 12 rfl)
theorem d_X6_captainGets_13 : decode cX6_captainGets 13 = .ok (.aload_n 0, 1) := zo_42 (zby_w zwX6_captainGets_0 13 rfl)
theorem d_X6_captainGets_14 : decode cX6_captainGets 14 = .ok (.iload_n 1, 1) := zo_27 (zby_w zwX6_captainGets_0 14 rfl)
theorem d_X6_captainGets_15 : decode cX6_captainGets 15 = .ok (.invokevirtual 77, 3) := zo_182 (a := 0) (b := 77) (zby_w zwX6_captainGets_0 15 rfl) (zby_w zwX6_captainGets_0 16 rfl) (zby_w zwX6_captainGets_0 17 rfl) (by decide)
theorem d_X6_captainGets_18 : decode cX6_captainGets 18 = .ok (.isub, 1) := zo_100 (zby_w zwX6_captainGets_0 18 rfl)
theorem d_X6_captainGets_19 : decode cX6_captainGets 19 = .ok (.iload 4, 2) := zo_21 (a := 4) (zby_w zwX6_captainGets_0 19 rfl) (zby_w zwX6_captainGets_0 20 rfl) (by decide)
theorem d_X6_captainGets_21 : decode cX6_captainGets 21 = .ok (.invokevirtual 115, 3) := zo_182 (a := 0) (b := 115) (zby_w zwX6_captainGets_0 21 rfl) (zby_w zwX6_captainGets_0 22 rfl) (zby_w zwX6_captainGets_0 23 rfl) (by decide)
theorem d_X6_captainGets_24 : decode cX6_captainGets 24 = .ok (.imul, 1) := zo_104 (zby_w zwX6_captainGets_0 24 rfl)
theorem d_X6_captainGets_25 : decode cX6_captainGets 25 = .ok (.ireturn, 1) := zo_172 (zby_w zwX6_captainGets_0 25 rfl)
theorem d_X6_captainGets_26 : decode cX6_captainGets 26 = .ok (.aload_n 0, 1) := zo_42 (zby_w zwX6_captainGets_0 26 rfl)
theorem d_X6_captainGets_27 : decode cX6_captainGets 27 = .ok (.aload_n 0, 1) := zo_42 (zby_w zwX6_captainGets_0 27 rfl)
theorem d_X6_captainGets_28 : decode cX6_captainGets 28 = .ok (.getfield 19, 3) := zo_180 (a := 0) (b := 19) (zby_w zwX6_captainGets_0 28 rfl) (zby_w zwX6_captainGets_0 29 rfl) (zby_w zwX6_captainGets_0 30 rfl) (by decide)
theorem d_X6_captainGets_31 : decode cX6_captainGets 31 = .ok (.iload_n 1, 1) := zo_27 (zby_w zwX6_captainGets_0 31 rfl)
theorem d_X6_captainGets_32 : decode cX6_captainGets 32 = .ok (.iaload, 1) := zo_46 (zby_w zwX6_captainGets_1 0 rfl)
theorem d_X6_captainGets_33 : decode cX6_captainGets 33 = .ok (.iload 4, 2) := zo_21 (a := 4) (zby_w zwX6_captainGets_1 1 rfl) (zby_w zwX6_captainGets_1 2 rfl) (by decide)
theorem d_X6_captainGets_35 : decode cX6_captainGets 35 = .ok (.invokevirtual 115, 3) := zo_182 (a := 0) (b := 115) (zby_w zwX6_captainGets_1 3 rfl) (zby_w zwX6_captainGets_1 4 rfl) (zby_w zwX6_captainGets_1 5 rfl) (by decide)
theorem d_X6_captainGets_38 : decode cX6_captainGets 38 = .ok (.istore 5, 2) := zo_54 (a := 5) (zby_w zwX6_captainGets_1 6 rfl) (zby_w zwX6_captainGets_1 7 rfl) (by decide)
theorem d_X6_captainGets_40 : decode cX6_captainGets 40 = .ok (.iload_n 2, 1) := zo_28 (zby_w zwX6_captainGets_1 8 rfl)
theorem d_X6_captainGets_41 : decode cX6_captainGets 41 = .ok (.iconst 1, 1) := zo_4 (zby_w zwX6_captainGets_1 9 rfl)
theorem d_X6_captainGets_42 : decode cX6_captainGets 42 = .ok (.if_icmp .ne 17, 3) := zo_160 (a := 0) (b := 17) (zby_w zwX6_captainGets_1 10 rfl) (zby_w zwX6_captainGets_1 11 rfl) (zby_w zwX6_captainGets_1 12 rfl) (by decide)
theorem d_X6_captainGets_45 : decode cX6_captainGets 45 = .ok (.bipush 10, 2) := zo_16 (a := 10) (zby_w zwX6_captainGets_1 13 rfl) (zby_w zwX6_captainGets_1 14 rfl) (by decide)
theorem d_X6_captainGets_47 : decode cX6_captainGets 47 = .ok (.aload_n 0, 1) := zo_42 (zby_w zwX6_captainGets_1 15 rfl)
theorem d_X6_captainGets_48 : decode cX6_captainGets 48 = .ok (.iload_n 3, 1) := zo_29 (zby_w zwX6_captainGets_1 16 rfl)
theorem d_X6_captainGets_49 : decode cX6_captainGets 49 = .ok (.invokevirtual 92, 3) := zo_182 (a := 0) (b := 92) (zby_w zwX6_captainGets_1 17 rfl) (zby_w zwX6_captainGets_1 18 rfl) (zby_w zwX6_captainGets_1 19 rfl) (by decide)
theorem d_X6_captainGets_52 : decode cX6_captainGets 52 = .ok (.isub, 1) := zo_100 (zby_w zwX6_captainGets_1 20 rfl)
theorem d_X6_captainGets_53 : decode cX6_captainGets 53 = .ok (.iload 5, 2) := zo_21 (a := 5) (zby_w zwX6_captainGets_1 21 rfl) (zby_w zwX6_captainGets_1 22 rfl) (by decide)
theorem d_X6_captainGets_55 : decode cX6_captainGets 55 = .ok (.imul, 1) := zo_104 (zby_w zwX6_captainGets_1 23 rfl)
theorem d_X6_captainGets_56 : decode cX6_captainGets 56 = .ok (.goto 15, 3) := zo_167 (a := 0) (b := 15) (zby_w zwX6_captainGets_1 24 rfl) (zby_w zwX6_captainGets_1 25 rfl) (zby_w zwX6_captainGets_1 26 rfl) (by decide)
theorem d_X6_captainGets_59 : decode cX6_captainGets 59 = .ok (.bipush 10, 2) := zo_16 (a := 10) (zby_w zwX6_captainGets_1 27 rfl) (zby_w zwX6_captainGets_1 28 rfl) (by decide)
theorem d_X6_captainGets_61 : decode cX6_captainGets 61 = .ok (.iload 5, 2) := zo_21 (a := 5) (zby_w zwX6_captainGets_1 29 rfl) (zby_w zwX6_captainGets_1 30 rfl) (by decide)
theorem d_X6_captainGets_63 : decode cX6_captainGets 63 = .ok (.aload_n 0, 1) := zo_42 (zby_w zwX6_captainGets_1 31 rfl)
theorem d_X6_captainGets_64 : decode cX6_captainGets 64 = .ok (.getfield 36, 3) := zo_180 (a := 0) (b := 36) (zby_w zwX6_captainGets_2 0 rfl) (zby_w zwX6_captainGets_2 1 rfl) (zby_w zwX6_captainGets_2 2 rfl) (by decide)
theorem d_X6_captainGets_67 : decode cX6_captainGets 67 = .ok (.iconst 3, 1) := zo_6 (zby_w zwX6_captainGets_2 3 rfl)
theorem d_X6_captainGets_68 : decode cX6_captainGets 68 = .ok (.iaload, 1) := zo_46 (zby_w zwX6_captainGets_2 4 rfl)
theorem d_X6_captainGets_69 : decode cX6_captainGets 69 = .ok (.isub, 1) := zo_100 (zby_w zwX6_captainGets_2 5 rfl)
theorem d_X6_captainGets_70 : decode cX6_captainGets 70 = .ok (.imul, 1) := zo_104 (zby_w zwX6_captainGets_2 6 rfl)
theorem d_X6_captainGets_71 : decode cX6_captainGets 71 = .ok (.ireturn, 1) := zo_172 (zby_w zwX6_captainGets_2 7 rfl)
theorem d_X6_captainsSide_0 : decode cX6_captainsSide 0 = .ok (.iconst 0, 1) := zo_3 (zby_w zwX6_captainsSide_0 0 rfl)
theorem d_X6_captainsSide_1 : decode cX6_captainsSide 1 = .ok (.istore 4, 2) := zo_54 (a := 4) (zby_w zwX6_captainsSide_0 1 rfl) (zby_w zwX6_captainsSide_0 2 rfl) (by decide)
theorem d_X6_captainsSide_3 : decode cX6_captainsSide 3 = .ok (.iconst 1, 1) := zo_4 (zby_w zwX6_captainsSide_0 3 rfl)
theorem d_X6_captainsSide_4 : decode cX6_captainsSide 4 = .ok (.istore 5, 2) := zo_54 (a := 5) (zby_w zwX6_captainsSide_0 4 rfl) (zby_w zwX6_captainsSide_0 5 rfl) (by decide)
theorem d_X6_captainsSide_6 : decode cX6_captainsSide 6 = .ok (.iload 5, 2) := zo_21 (a := 5) (zby_w zwX6_captainsSide_0 6 rfl) (zby_w zwX6_captainsSide_0 7 rfl) (by decide)
theorem d_X6_captainsSide_8 : decode cX6_captainsSide 8 = .ok (.iconst 3, 1) := zo_6 (zby_w zwX6_captainsSide_0 8 rfl)
theorem d_X6_captainsSide_9 : decode cX6_captainsSide 9 = .ok (.if_icmp .ge 34, 3) := zo_162 (a := 0) (b := 34) (zby_w zwX6_captainsSide_0 9 rfl) (zby_w zwX6_captainsSide_0 10 rfl) (zby_w zwX6_captainsSide_0 11 rfl) (by decide)
theorem d_X6_captainsSide_12 : decode cX6_captainsSide 12 = .ok (.aload_n 0, 1) := zo_42 (zby_w zwX6_captainsSide_0 12 rfl)
theorem d_X6_captainsSide_13 : decode cX6_captainsSide 13 = .ok (.iload_n 1, 1) := zo_27 (zby_w zwX6_captainsSide_0 13 rfl)
theorem d_X6_captainsSide_14 : decode cX6_captainsSide 14 = .ok (.iload 5, 2) := zo_21 (a := 5) (zby_w zwX6_captainsSide_0 14 rfl) (zby_w zwX6_captainsSide_0 15 rfl) (by decide)
theorem d_X6_captainsSide_16 : decode cX6_captainsSide 16 = .ok (.iload_n 2, 1) := zo_28 (zby_w zwX6_captainsSide_0 16 rfl)
theorem d_X6_captainsSide_17 : decode cX6_captainsSide 17 = .ok (.iload_n 3, 1) := zo_29 (zby_w zwX6_captainsSide_0 17 rfl)
theorem d_X6_captainsSide_18 : decode cX6_captainsSide 18 = .ok (.invokevirtual 111, 3) := zo_182 (a := 0) (b := 111) (zby_w zwX6_captainsSide_0 18 rfl) (zby_w zwX6_captainsSide_0 19 rfl) (zby_w zwX6_captainsSide_0 20 rfl) (by decide)
theorem d_X6_captainsSide_21 : decode cX6_captainsSide 21 = .ok (.aload_n 0, 1) := zo_42 (zby_w zwX6_captainsSide_0 21 rfl)
theorem d_X6_captainsSide_22 : decode cX6_captainsSide 22 = .ok (.iload_n 1, 1) := zo_27 (zby_w zwX6_captainsSide_0 22 rfl)
theorem d_X6_captainsSide_23 : decode cX6_captainsSide 23 = .ok (.iload 4, 2) := zo_21 (a := 4) (zby_w zwX6_captainsSide_0 23 rfl) (zby_w zwX6_captainsSide_0 24 rfl) (by decide)
theorem d_X6_captainsSide_25 : decode cX6_captainsSide 25 = .ok (.iload_n 2, 1) := zo_28 (zby_w zwX6_captainsSide_0 25 rfl)
theorem d_X6_captainsSide_26 : decode cX6_captainsSide 26 = .ok (.iload_n 3, 1) := zo_29 (zby_w zwX6_captainsSide_0 26 rfl)
theorem d_X6_captainsSide_27 : decode cX6_captainsSide 27 = .ok (.invokevirtual 111, 3) := zo_182 (a := 0) (b := 111) (zby_w zwX6_captainsSide_0 27 rfl) (zby_w zwX6_captainsSide_0 28 rfl) (zby_w zwX6_captainsSide_0 29 rfl) (by decide)
theorem d_X6_captainsSide_30 : decode cX6_captainsSide 30 = .ok (.if_icmp .le 7, 3) := zo_164 (a := 0) (b := 7) (zby_w zwX6_captainsSide_0 30 rfl) (zby_w zwX6_captainsSide_0 31 rfl) (zby_w zwX6_captainsSide_0 32 rfl) (by decide)
theorem d_X6_captainsSide_33 : decode cX6_captainsSide 33 = .ok (.iload 5, 2) := zo_21 (a := 5) (zby_w zwX6_captainsSide_1 1 rfl) (zby_w zwX6_captainsSide_1 2 rfl) (by decide)
theorem d_X6_captainsSide_35 : decode cX6_captainsSide 35 = .ok (.istore 4, 2) := zo_54 (a := 4) (zby_w zwX6_captainsSide_1 3 rfl) (zby_w zwX6_captainsSide_1 4 rfl) (by decide)
theorem d_X6_captainsSide_37 : decode cX6_captainsSide 37 = .ok (.iinc 5 1, 3) := by decide +kernel
theorem d_X6_captainsSide_40 : decode cX6_captainsSide 40 = .ok (.goto (-34), 3) := zo_167 (a := 255) (b := 222) (zby_w zwX6_captainsSide_1 8 rfl) (zby_w zwX6_captainsSide_1 9 rfl) (zby_w zwX6_captainsSide_1 10 rfl) (by decide)
theorem d_X6_captainsSide_43 : decode cX6_captainsSide 43 = .ok (.iload 4, 2) := zo_21 (a := 4) (zby_w zwX6_captainsSide_1 11 rfl) (zby_w zwX6_captainsSide_1 12 rfl) (by decide)
theorem d_X6_captainsSide_45 : decode cX6_captainsSide 45 = .ok (.ireturn, 1) := zo_172 (zby_w zwX6_captainsSide_1 13 rfl)
theorem d_X6_digitAt_0 : decode cX6_digitAt 0 = .ok (.iload_n 1, 1) := zo_27 (zby_w zwX6_digitAt_0 0 rfl)
theorem d_X6_digitAt_1 : decode cX6_digitAt 1 = .ok (.ifCond .lt 16, 3) := zo_155 (a := 0) (b := 16) (zby_w zwX6_digitAt_0 1 rfl) (zby_w zwX6_digitAt_0 2 rfl) (zby_w zwX6_digitAt_0 3 rfl) (by decide)
theorem d_X6_digitAt_4 : decode cX6_digitAt 4 = .ok (.aload_n 0, 1) := zo_42 (zby_w zwX6_digitAt_0 4 rfl)
theorem d_X6_digitAt_5 : decode cX6_digitAt 5 = .ok (.getfield 42, 3) := zo_180 (a := 0) (b := 42) (zby_w zwX6_digitAt_0 5 rfl) (zby_w zwX6_digitAt_0 6 rfl) (zby_w zwX6_digitAt_0 7 rfl) (by decide)
theorem d_X6_digitAt_8 : decode cX6_digitAt 8 = .ok (.iconst 1, 1) := zo_4 (zby_w zwX6_digitAt_0 8 rfl)
theorem d_X6_digitAt_9 : decode cX6_digitAt 9 = .ok (.bipush 24, 2) := zo_16 (a := 24) (zby_w zwX6_digitAt_0 9 rfl) (zby_w zwX6_digitAt_0 10 rfl) (by decide)
theorem d_X6_digitAt_11 : decode cX6_digitAt 11 = .ok (.invokestatic 54, 3) := zo_184 (a := 0) (b := 54) (zby_w zwX6_digitAt_0 11 rfl) (zby_w zwX6_digitAt_0 12 rfl) (zby_w zwX6_digitAt_0 13 rfl) (by decide)
theorem d_X6_digitAt_14 : decode cX6_digitAt 14 = .ok (.ifCond .ne 5, 3) := zo_154 (a := 0) (b := 5) (zby_w zwX6_digitAt_0 14 rfl) (zby_w zwX6_digitAt_0 15 rfl) (zby_w zwX6_digitAt_0 16 rfl) (by decide)
theorem d_X6_digitAt_17 : decode cX6_digitAt 17 = .ok (.iconst 0, 1) := zo_3 (zby_w zwX6_digitAt_0 17 rfl)
theorem d_X6_digitAt_18 : decode cX6_digitAt 18 = .ok (.ireturn, 1) := zo_172 (zby_w zwX6_digitAt_0 18 rfl)
theorem d_X6_digitAt_19 : decode cX6_digitAt 19 = .ok (.aload_n 0, 1) := zo_42 (zby_w zwX6_digitAt_0 19 rfl)
theorem d_X6_digitAt_20 : decode cX6_digitAt 20 = .ok (.getfield 39, 3) := zo_180 (a := 0) (b := 39) (zby_w zwX6_digitAt_0 20 rfl) (zby_w zwX6_digitAt_0 21 rfl) (zby_w zwX6_digitAt_0 22 rfl) (by decide)
theorem d_X6_digitAt_23 : decode cX6_digitAt 23 = .ok (.iload_n 1, 1) := zo_27 (zby_w zwX6_digitAt_0 23 rfl)
theorem d_X6_digitAt_24 : decode cX6_digitAt 24 = .ok (.aload_n 0, 1) := zo_42 (zby_w zwX6_digitAt_0 24 rfl)
theorem d_X6_digitAt_25 : decode cX6_digitAt 25 = .ok (.getfield 42, 3) := zo_180 (a := 0) (b := 42) (zby_w zwX6_digitAt_0 25 rfl) (zby_w zwX6_digitAt_0 26 rfl) (zby_w zwX6_digitAt_0 27 rfl) (by decide)
theorem d_X6_digitAt_28 : decode cX6_digitAt 28 = .ok (.irem, 1) := zo_112 (zby_w zwX6_digitAt_0 28 rfl)
theorem d_X6_digitAt_29 : decode cX6_digitAt 29 = .ok (.iaload, 1) := zo_46 (zby_w zwX6_digitAt_0 29 rfl)
theorem d_X6_digitAt_30 : decode cX6_digitAt 30 = .ok (.ireturn, 1) := zo_172 (zby_w zwX6_digitAt_0 30 rfl)
theorem d_X6_fare_0 : decode cX6_fare 0 = .ok (.aload_n 0, 1) := zo_42 (zby_w zwX6_fare_0 0 rfl)
theorem d_X6_fare_1 : decode cX6_fare 1 = .ok (.getfield 36, 3) := zo_180 (a := 0) (b := 36) (zby_w zwX6_fare_0 1 rfl) (zby_w zwX6_fare_0 2 rfl) (zby_w zwX6_fare_0 3 rfl) (by decide)
theorem d_X6_fare_4 : decode cX6_fare 4 = .ok (.iconst 2, 1) := zo_5 (zby_w zwX6_fare_0 4 rfl)
theorem d_X6_fare_5 : decode cX6_fare 5 = .ok (.iaload, 1) := zo_46 (zby_w zwX6_fare_0 5 rfl)
theorem d_X6_fare_6 : decode cX6_fare 6 = .ok (.aload_n 0, 1) := zo_42 (zby_w zwX6_fare_0 6 rfl)
theorem d_X6_fare_7 : decode cX6_fare 7 = .ok (.getfield 36, 3) := zo_180 (a := 0) (b := 36) (zby_w zwX6_fare_0 7 rfl) (zby_w zwX6_fare_0 8 rfl) (zby_w zwX6_fare_0 9 rfl) (by decide)
theorem d_X6_fare_10 : decode cX6_fare 10 = .ok (.iconst 3, 1) := zo_6 (zby_w zwX6_fare_0 10 rfl)
theorem d_X6_fare_11 : decode cX6_fare 11 = .ok (.iaload, 1) := zo_46 (zby_w zwX6_fare_0 11 rfl)
theorem d_X6_fare_12 : decode cX6_fare 12 = .ok (.imul, 1) := zo_104 (zby_w zwX6_fare_0 12 rfl)
theorem d_X6_fare_13 : decode cX6_fare 13 = .ok (.aload_n 0, 1) := zo_42 (zby_w zwX6_fare_0 13 rfl)
theorem d_X6_fare_14 : decode cX6_fare 14 = .ok (.getfield 19, 3) := zo_180 (a := 0) (b := 19) (zby_w zwX6_fare_0 14 rfl) (zby_w zwX6_fare_0 15 rfl) (zby_w zwX6_fare_0 16 rfl) (by decide)
theorem d_X6_fare_17 : decode cX6_fare 17 = .ok (.iload_n 1, 1) := zo_27 (zby_w zwX6_fare_0 17 rfl)
theorem d_X6_fare_18 : decode cX6_fare 18 = .ok (.iaload, 1) := zo_46 (zby_w zwX6_fare_0 18 rfl)
theorem d_X6_fare_19 : decode cX6_fare 19 = .ok (.imul, 1) := zo_104 (zby_w zwX6_fare_0 19 rfl)
theorem d_X6_fare_20 : decode cX6_fare 20 = .ok (.ireturn, 1) := zo_172 (zby_w zwX6_fare_0 20 rfl)
theorem d_X6_has_0 : decode cX6_has 0 = .ok (.iload_n 1, 1) := zo_27 (zby_w zwX6_has_0 0 rfl)
theorem d_X6_has_1 : decode cX6_has 1 = .ok (.iconst 0, 1) := zo_3 (zby_w zwX6_has_0 1 rfl)
theorem d_X6_has_2 : decode cX6_has 2 = .ok (.iconst 5, 1) := zo_8 (zby_w zwX6_has_0 2 rfl)
theorem d_X6_has_3 : decode cX6_has 3 = .ok (.invokestatic 54, 3) := zo_184 (a := 0) (b := 54) (zby_w zwX6_has_0 3 rfl) (zby_w zwX6_has_0 4 rfl) (zby_w zwX6_has_0 5 rfl) (by decide)
theorem d_X6_has_6 : decode cX6_has 6 = .ok (.ifCond .eq 19, 3) := zo_153 (a := 0) (b := 19) (zby_w zwX6_has_0 6 rfl) (zby_w zwX6_has_0 7 rfl) (zby_w zwX6_has_0 8 rfl) (by decide)
theorem d_X6_has_9 : decode cX6_has 9 = .ok (.aload_n 0, 1) := zo_42 (zby_w zwX6_has_0 9 rfl)
theorem d_X6_has_10 : decode cX6_has 10 = .ok (.getfield 9, 3) := zo_180 (a := 0) (b := 9) (zby_w zwX6_has_0 10 rfl) (zby_w zwX6_has_0 11 rfl) (zby_w zwX6_has_0 12 rfl) (by decide)
theorem d_X6_has_13 : decode cX6_has 13 = .ok (.iload_n 1, 1) := zo_27 (zby_w zwX6_has_0 13 rfl)
theorem d_X6_has_14 : decode cX6_has 14 = .ok (.ishr, 1) := zo_122 (zby_w zwX6_has_0 14 rfl)
theorem d_X6_has_15 : decode cX6_has 15 = .ok (.iconst 1, 1) := zo_4 (zby_w zwX6_has_0 15 rfl)
theorem d_X6_has_16 : decode cX6_has 16 = .ok (.iand, 1) := zo_126 (zby_w zwX6_has_0 16 rfl)
theorem d_X6_has_17 : decode cX6_has 17 = .ok (.iconst 1, 1) := zo_4 (zby_w zwX6_has_0 17 rfl)
theorem d_X6_has_18 : decode cX6_has 18 = .ok (.if_icmp .ne 7, 3) := zo_160 (a := 0) (b := 7) (zby_w zwX6_has_0 18 rfl) (zby_w zwX6_has_0 19 rfl) (zby_w zwX6_has_0 20 rfl) (by decide)
theorem d_X6_has_21 : decode cX6_has 21 = .ok (.iconst 1, 1) := zo_4 (zby_w zwX6_has_0 21 rfl)
theorem d_X6_has_22 : decode cX6_has 22 = .ok (.goto 4, 3) := zo_167 (a := 0) (b := 4) (zby_w zwX6_has_0 22 rfl) (zby_w zwX6_has_0 23 rfl) (zby_w zwX6_has_0 24 rfl) (by decide)
theorem d_X6_has_25 : decode cX6_has 25 = .ok (.iconst 0, 1) := zo_3 (zby_w zwX6_has_0 25 rfl)
theorem d_X6_has_26 : decode cX6_has 26 = .ok (.ireturn, 1) := zo_172 (zby_w zwX6_has_0 26 rfl)
theorem d_X6_leastMean_0 : decode cX6_leastMean 0 = .ok (.aload_n 0, 1) := zo_42 (zby_w zwX6_leastMean_0 0 rfl)
theorem d_X6_leastMean_1 : decode cX6_leastMean 1 = .ok (.iload_n 1, 1) := zo_27 (zby_w zwX6_leastMean_0 1 rfl)
theorem d_X6_leastMean_2 : decode cX6_leastMean 2 = .ok (.aload_n 0, 1) := zo_42 (zby_w zwX6_leastMean_0 2 rfl)
theorem d_X6_leastMean_3 : decode cX6_leastMean 3 = .ok (.iload_n 1, 1) := zo_27 (zby_w zwX6_leastMean_0 3 rfl)
theorem d_X6_leastMean_4 : decode cX6_leastMean 4 = .ok (.iload_n 2, 1) := zo_28 (zby_w zwX6_leastMean_0 4 rfl)
theorem d_X6_leastMean_5 : decode cX6_leastMean 5 = .ok (.invokevirtual 108, 3) := zo_182 (a := 0) (b := 108) (zby_w zwX6_leastMean_0 5 rfl) (zby_w zwX6_leastMean_0 6 rfl) (zby_w zwX6_leastMean_0 7 rfl) (by decide)
theorem d_X6_leastMean_8 : decode cX6_leastMean 8 = .ok (.iload_n 2, 1) := zo_28 (zby_w zwX6_leastMean_0 8 rfl)
theorem d_X6_leastMean_9 : decode cX6_leastMean 9 = .ok (.invokevirtual 104, 3) := zo_182 (a := 0) (b := 104) (zby_w zwX6_leastMean_0 9 rfl) (zby_w zwX6_leastMean_0 10 rfl) (zby_w zwX6_leastMean_0 11 rfl) (by decide)
theorem d_X6_leastMean_12 : decode cX6_leastMean 12 = .ok (.ireturn, 1) := zo_172 (zby_w zwX6_leastMean_0 12 rfl)
theorem d_X6_look_0 : decode cX6_look 0 = .ok (.iload_n 2, 1) := zo_28 (zby_w zwX6_look_0 0 rfl)
theorem d_X6_look_1 : decode cX6_look 1 = .ok (.ifCond .ne 10, 3) := zo_154 (a := 0) (b := 10) (zby_w zwX6_look_0 1 rfl) (zby_w zwX6_look_0 2 rfl) (zby_w zwX6_look_0 3 rfl) (by decide)
theorem d_X6_look_4 : decode cX6_look 4 = .ok (.aload_n 0, 1) := zo_42 (zby_w zwX6_look_0 4 rfl)
theorem d_X6_look_5 : decode cX6_look 5 = .ok (.getfield 15, 3) := zo_180 (a := 0) (b := 15) (zby_w zwX6_look_0 5 rfl) (zby_w zwX6_look_0 6 rfl) (zby_w zwX6_look_0 7 rfl) (by decide)
theorem d_X6_look_8 : decode cX6_look 8 = .ok (.iload_n 1, 1) := zo_27 (zby_w zwX6_look_0 8 rfl)
theorem d_X6_look_9 : decode cX6_look 9 = .ok (.iaload, 1) := zo_46 (zby_w zwX6_look_0 9 rfl)
theorem d_X6_look_10 : decode cX6_look 10 = .ok (.ireturn, 1) := zo_172 (zby_w zwX6_look_0 10 rfl)
theorem d_X6_look_11 : decode cX6_look 11 = .ok (.iload_n 2, 1) := zo_28 (zby_w zwX6_look_0 11 rfl)
theorem d_X6_look_12 : decode cX6_look 12 = .ok (.iconst 1, 1) := zo_4 (zby_w zwX6_look_0 12 rfl)
theorem d_X6_look_13 : decode cX6_look 13 = .ok (.if_icmp .ne 12, 3) := zo_160 (a := 0) (b := 12) (zby_w zwX6_look_0 13 rfl) (zby_w zwX6_look_0 14 rfl) (zby_w zwX6_look_0 15 rfl) (by decide)
theorem d_X6_look_16 : decode cX6_look 16 = .ok (.aload_n 0, 1) := zo_42 (zby_w zwX6_look_0 16 rfl)
theorem d_X6_look_17 : decode cX6_look 17 = .ok (.getfield 19, 3) := zo_180 (a := 0) (b := 19) (zby_w zwX6_look_0 17 rfl) (zby_w zwX6_look_0 18 rfl) (zby_w zwX6_look_0 19 rfl) (by decide)
theorem d_X6_look_20 : decode cX6_look 20 = .ok (.iload_n 1, 1) := zo_27 (zby_w zwX6_look_0 20 rfl)
theorem d_X6_look_21 : decode cX6_look 21 = .ok (.iaload, 1) := zo_46 (zby_w zwX6_look_0 21 rfl)
theorem d_X6_look_22 : decode cX6_look 22 = .ok (.goto 9, 3) := zo_167 (a := 0) (b := 9) (zby_w zwX6_look_0 22 rfl) (zby_w zwX6_look_0 23 rfl) (zby_w zwX6_look_0 24 rfl) (by decide)
theorem d_X6_look_25 : decode cX6_look 25 = .ok (.aload_n 0, 1) := zo_42 (zby_w zwX6_look_0 25 rfl)
theorem d_X6_look_26 : decode cX6_look 26 = .ok (.getfield 22, 3) := zo_180 (a := 0) (b := 22) (zby_w zwX6_look_0 26 rfl) (zby_w zwX6_look_0 27 rfl) (zby_w zwX6_look_0 28 rfl) (by decide)
theorem d_X6_look_29 : decode cX6_look 29 = .ok (.iload_n 1, 1) := zo_27 (zby_w zwX6_look_0 29 rfl)
theorem d_X6_look_30 : decode cX6_look 30 = .ok (.iaload, 1) := zo_46 (zby_w zwX6_look_0 30 rfl)
theorem d_X6_look_31 : decode cX6_look 31 = .ok (.ireturn, 1) := zo_172 (zby_w zwX6_look_0 31 rfl)
theorem d_X6_lose_0 : decode cX6_lose 0 = .ok (.aload_n 0, 1) := zo_42 (zby_w zwX6_lose_0 0 rfl)
theorem d_X6_lose_1 : decode cX6_lose 1 = .ok (.getfield 45, 3) := zo_180 (a := 0) (b := 45) (zby_w zwX6_lose_0 1 rfl) (zby_w zwX6_lose_0 2 rfl) (zby_w zwX6_lose_0 3 rfl) (by decide)
theorem d_X6_lose_4 : decode cX6_lose 4 = .ok (.iconst 0, 1) := zo_3 (zby_w zwX6_lose_0 4 rfl)
theorem d_X6_lose_5 : decode cX6_lose 5 = .ok (.dup2, 1) := zo_92 (zby_w zwX6_lose_0 5 rfl)
theorem d_X6_lose_6 : decode cX6_lose 6 = .ok (.iaload, 1) := zo_46 (zby_w zwX6_lose_0 6 rfl)
theorem d_X6_lose_7 : decode cX6_lose 7 = .ok (.aload_n 0, 1) := zo_42 (zby_w zwX6_lose_0 7 rfl)
theorem d_X6_lose_8 : decode cX6_lose 8 = .ok (.getfield 19, 3) := zo_180 (a := 0) (b := 19) (zby_w zwX6_lose_0 8 rfl) (zby_w zwX6_lose_0 9 rfl) (zby_w zwX6_lose_0 10 rfl) (by decide)
theorem d_X6_lose_11 : decode cX6_lose 11 = .ok (.iload_n 1, 1) := zo_27 (zby_w zwX6_lose_0 11 rfl)
theorem d_X6_lose_12 : decode cX6_lose 12 = .ok (.iaload, 1) := zo_46 (zby_w zwX6_lose_0 12 rfl)
theorem d_X6_lose_13 : decode cX6_lose 13 = .ok (.iadd, 1) := zo_96 (zby_w zwX6_lose_0 13 rfl)
theorem d_X6_lose_14 : decode cX6_lose 14 = .ok (.iastore, 1) := zo_79 (zby_w zwX6_lose_0 14 rfl)
theorem d_X6_lose_15 : decode cX6_lose 15 = .ok (.aload_n 0, 1) := zo_42 (zby_w zwX6_lose_0 15 rfl)
theorem d_X6_lose_16 : decode cX6_lose 16 = .ok (.getfield 45, 3) := zo_180 (a := 0) (b := 45) (zby_w zwX6_lose_0 16 rfl) (zby_w zwX6_lose_0 17 rfl) (zby_w zwX6_lose_0 18 rfl) (by decide)
theorem d_X6_lose_19 : decode cX6_lose 19 = .ok (.iconst 1, 1) := zo_4 (zby_w zwX6_lose_0 19 rfl)
theorem d_X6_lose_20 : decode cX6_lose 20 = .ok (.dup2, 1) := zo_92 (zby_w zwX6_lose_0 20 rfl)
theorem d_X6_lose_21 : decode cX6_lose 21 = .ok (.iaload, 1) := zo_46 (zby_w zwX6_lose_0 21 rfl)
theorem d_X6_lose_22 : decode cX6_lose 22 = .ok (.aload_n 0, 1) := zo_42 (zby_w zwX6_lose_0 22 rfl)
theorem d_X6_lose_23 : decode cX6_lose 23 = .ok (.getfield 25, 3) := zo_180 (a := 0) (b := 25) (zby_w zwX6_lose_0 23 rfl) (zby_w zwX6_lose_0 24 rfl) (zby_w zwX6_lose_0 25 rfl) (by decide)
theorem d_X6_lose_26 : decode cX6_lose 26 = .ok (.iload_n 1, 1) := zo_27 (zby_w zwX6_lose_0 26 rfl)
theorem d_X6_lose_27 : decode cX6_lose 27 = .ok (.iaload, 1) := zo_46 (zby_w zwX6_lose_0 27 rfl)
theorem d_X6_lose_28 : decode cX6_lose 28 = .ok (.iadd, 1) := zo_96 (zby_w zwX6_lose_0 28 rfl)
theorem d_X6_lose_29 : decode cX6_lose 29 = .ok (.iastore, 1) := zo_79 (zby_w zwX6_lose_0 29 rfl)
theorem d_X6_lose_30 : decode cX6_lose 30 = .ok (.aload_n 0, 1) := zo_42 (zby_w zwX6_lose_0 30 rfl)
theorem d_X6_lose_31 : decode cX6_lose 31 = .ok (.getfield 15, 3) := zo_180 (a := 0) (b := 15) (zby_w zwX6_lose_0 31 rfl) (zby_w zwX6_lose_0 32 rfl) (zby_w zwX6_lose_0 33 rfl) (by decide)
theorem d_X6_lose_34 : decode cX6_lose 34 = .ok (.iload_n 1, 1) := zo_27 (zby_w zwX6_lose_1 2 rfl)
theorem d_X6_lose_35 : decode cX6_lose 35 = .ok (.iconst 2, 1) := zo_5 (zby_w zwX6_lose_1 3 rfl)
theorem d_X6_lose_36 : decode cX6_lose 36 = .ok (.iastore, 1) := zo_79 (zby_w zwX6_lose_1 4 rfl)
theorem d_X6_lose_37 : decode cX6_lose 37 = .ok (.aload_n 0, 1) := zo_42 (zby_w zwX6_lose_1 5 rfl)
theorem d_X6_lose_38 : decode cX6_lose 38 = .ok (.getfield 19, 3) := zo_180 (a := 0) (b := 19) (zby_w zwX6_lose_1 6 rfl) (zby_w zwX6_lose_1 7 rfl) (zby_w zwX6_lose_1 8 rfl) (by decide)
theorem d_X6_lose_41 : decode cX6_lose 41 = .ok (.iload_n 1, 1) := zo_27 (zby_w zwX6_lose_1 9 rfl)
theorem d_X6_lose_42 : decode cX6_lose 42 = .ok (.iconst 0, 1) := zo_3 (zby_w zwX6_lose_1 10 rfl)
theorem d_X6_lose_43 : decode cX6_lose 43 = .ok (.iastore, 1) := zo_79 (zby_w zwX6_lose_1 11 rfl)
theorem d_X6_lose_44 : decode cX6_lose 44 = .ok (.aload_n 0, 1) := zo_42 (zby_w zwX6_lose_1 12 rfl)
theorem d_X6_lose_45 : decode cX6_lose 45 = .ok (.getfield 22, 3) := zo_180 (a := 0) (b := 22) (zby_w zwX6_lose_1 13 rfl) (zby_w zwX6_lose_1 14 rfl) (zby_w zwX6_lose_1 15 rfl) (by decide)
theorem d_X6_lose_48 : decode cX6_lose 48 = .ok (.iload_n 1, 1) := zo_27 (zby_w zwX6_lose_1 16 rfl)
theorem d_X6_lose_49 : decode cX6_lose 49 = .ok (.iconst 0, 1) := zo_3 (zby_w zwX6_lose_1 17 rfl)
theorem d_X6_lose_50 : decode cX6_lose 50 = .ok (.iastore, 1) := zo_79 (zby_w zwX6_lose_1 18 rfl)
theorem d_X6_lose_51 : decode cX6_lose 51 = .ok (.aload_n 0, 1) := zo_42 (zby_w zwX6_lose_1 19 rfl)
theorem d_X6_lose_52 : decode cX6_lose 52 = .ok (.getfield 25, 3) := zo_180 (a := 0) (b := 25) (zby_w zwX6_lose_1 20 rfl) (zby_w zwX6_lose_1 21 rfl) (zby_w zwX6_lose_1 22 rfl) (by decide)
theorem d_X6_lose_55 : decode cX6_lose 55 = .ok (.iload_n 1, 1) := zo_27 (zby_w zwX6_lose_1 23 rfl)
theorem d_X6_lose_56 : decode cX6_lose 56 = .ok (.iconst 0, 1) := zo_3 (zby_w zwX6_lose_1 24 rfl)
theorem d_X6_lose_57 : decode cX6_lose 57 = .ok (.iastore, 1) := zo_79 (zby_w zwX6_lose_1 25 rfl)
theorem d_X6_lose_58 : decode cX6_lose 58 = .ok (.return_, 1) := zo_177 (zby_w zwX6_lose_1 26 rfl)
theorem d_X6_lostToTeeth_0 : decode cX6_lostToTeeth 0 = .ok (.aload_n 0, 1) := zo_42 (zby_w zwX6_lostToTeeth_0 0 rfl)
theorem d_X6_lostToTeeth_1 : decode cX6_lostToTeeth 1 = .ok (.iload_n 1, 1) := zo_27 (zby_w zwX6_lostToTeeth_0 1 rfl)
theorem d_X6_lostToTeeth_2 : decode cX6_lostToTeeth 2 = .ok (.invokevirtual 77, 3) := zo_182 (a := 0) (b := 77) (zby_w zwX6_lostToTeeth_0 2 rfl) (zby_w zwX6_lostToTeeth_0 3 rfl) (zby_w zwX6_lostToTeeth_0 4 rfl) (by decide)
theorem d_X6_lostToTeeth_5 : decode cX6_lostToTeeth 5 = .ok (.istore_n 2, 1) := zo_61 (zby_w zwX6_lostToTeeth_0 5 rfl)
theorem d_X6_lostToTeeth_6 : decode cX6_lostToTeeth 6 = .ok (.aload_n 0, 1) := zo_42 (zby_w zwX6_lostToTeeth_0 6 rfl)
theorem d_X6_lostToTeeth_7 : decode cX6_lostToTeeth 7 = .ok (.getfield 36, 3) := zo_180 (a := 0) (b := 36) (zby_w zwX6_lostToTeeth_0 7 rfl) (zby_w zwX6_lostToTeeth_0 8 rfl) (zby_w zwX6_lostToTeeth_0 9 rfl) (by decide)
theorem d_X6_lostToTeeth_10 : decode cX6_lostToTeeth 10 = .ok (.iconst 1, 1) := zo_4 (zby_w zwX6_lostToTeeth_0 10 rfl)
theorem d_X6_lostToTeeth_11 : decode cX6_lostToTeeth 11 = .ok (.iaload, 1) := zo_46 (zby_w zwX6_lostToTeeth_0 11 rfl)
theorem d_X6_lostToTeeth_12 : decode cX6_lostToTeeth 12 = .ok (.iload_n 2, 1) := zo_28 (zby_w zwX6_lostToTeeth_0 12 rfl)
theorem d_X6_lostToTeeth_13 : decode cX6_lostToTeeth 13 = .ok (.imul, 1) := zo_104 (zby_w zwX6_lostToTeeth_0 13 rfl)
theorem d_X6_lostToTeeth_14 : decode cX6_lostToTeeth 14 = .ok (.iload_n 2, 1) := zo_28 (zby_w zwX6_lostToTeeth_0 14 rfl)
theorem d_X6_lostToTeeth_15 : decode cX6_lostToTeeth 15 = .ok (.aload_n 0, 1) := zo_42 (zby_w zwX6_lostToTeeth_0 15 rfl)
theorem d_X6_lostToTeeth_16 : decode cX6_lostToTeeth 16 = .ok (.getfield 19, 3) := zo_180 (a := 0) (b := 19) (zby_w zwX6_lostToTeeth_0 16 rfl) (zby_w zwX6_lostToTeeth_0 17 rfl) (zby_w zwX6_lostToTeeth_0 18 rfl) (by decide)
theorem d_X6_lostToTeeth_19 : decode cX6_lostToTeeth 19 = .ok (.iload_n 1, 1) := zo_27 (zby_w zwX6_lostToTeeth_0 19 rfl)
theorem d_X6_lostToTeeth_20 : decode cX6_lostToTeeth 20 = .ok (.iaload, 1) := zo_46 (zby_w zwX6_lostToTeeth_0 20 rfl)
theorem d_X6_lostToTeeth_21 : decode cX6_lostToTeeth 21 = .ok (.if_icmp .ne 12, 3) := zo_160 (a := 0) (b := 12) (zby_w zwX6_lostToTeeth_0 21 rfl) (zby_w zwX6_lostToTeeth_0 22 rfl) (zby_w zwX6_lostToTeeth_0 23 rfl) (by decide)
theorem d_X6_lostToTeeth_24 : decode cX6_lostToTeeth 24 = .ok (.aload_n 0, 1) := zo_42 (zby_w zwX6_lostToTeeth_0 24 rfl)
theorem d_X6_lostToTeeth_25 : decode cX6_lostToTeeth 25 = .ok (.getfield 25, 3) := zo_180 (a := 0) (b := 25) (zby_w zwX6_lostToTeeth_0 25 rfl) (zby_w zwX6_lostToTeeth_0 26 rfl) (zby_w zwX6_lostToTeeth_0 27 rfl) (by decide)
theorem d_X6_lostToTeeth_28 : decode cX6_lostToTeeth 28 = .ok (.iload_n 1, 1) := zo_27 (zby_w zwX6_lostToTeeth_0 28 rfl)
theorem d_X6_lostToTeeth_29 : decode cX6_lostToTeeth 29 = .ok (.iaload, 1) := zo_46 (zby_w zwX6_lostToTeeth_0 29 rfl)
theorem d_X6_lostToTeeth_30 : decode cX6_lostToTeeth 30 = .ok (.goto 4, 3) := zo_167 (a := 0) (b := 4) (zby_w zwX6_lostToTeeth_0 30 rfl) (zby_w zwX6_lostToTeeth_0 31 rfl) (zby_w zwX6_lostToTeeth_0 32 rfl) (by decide)
theorem d_X6_lostToTeeth_33 : decode cX6_lostToTeeth 33 = .ok (.iconst 0, 1) := zo_3 (zby_w zwX6_lostToTeeth_1 1 rfl)
theorem d_X6_lostToTeeth_34 : decode cX6_lostToTeeth 34 = .ok (.iadd, 1) := zo_96 (zby_w zwX6_lostToTeeth_1 2 rfl)
theorem d_X6_lostToTeeth_35 : decode cX6_lostToTeeth 35 = .ok (.ireturn, 1) := zo_172 (zby_w zwX6_lostToTeeth_1 3 rfl)
theorem d_X6_meanBy_0 : decode cX6_meanBy 0 = .ok (.iload_n 2, 1) := zo_28 (zby_w zwX6_meanBy_0 0 rfl)
theorem d_X6_meanBy_1 : decode cX6_meanBy 1 = .ok (.iconst 1, 1) := zo_4 (zby_w zwX6_meanBy_0 1 rfl)
theorem d_X6_meanBy_2 : decode cX6_meanBy 2 = .ok (.if_icmp .ne 15, 3) := zo_160 (a := 0) (b := 15) (zby_w zwX6_meanBy_0 2 rfl) (zby_w zwX6_meanBy_0 3 rfl) (zby_w zwX6_meanBy_0 4 rfl) (by decide)
theorem d_X6_meanBy_5 : decode cX6_meanBy 5 = .ok (.aload_n 0, 1) := zo_42 (zby_w zwX6_meanBy_0 5 rfl)
theorem d_X6_meanBy_6 : decode cX6_meanBy 6 = .ok (.iload_n 3, 1) := zo_29 (zby_w zwX6_meanBy_0 6 rfl)
theorem d_X6_meanBy_7 : decode cX6_meanBy 7 = .ok (.invokevirtual 92, 3) := zo_182 (a := 0) (b := 92) (zby_w zwX6_meanBy_0 7 rfl) (zby_w zwX6_meanBy_0 8 rfl) (zby_w zwX6_meanBy_0 9 rfl) (by decide)
theorem d_X6_meanBy_10 : decode cX6_meanBy 10 = .ok (.aload_n 0, 1) := zo_42 (zby_w zwX6_meanBy_0 10 rfl)
theorem d_X6_meanBy_11 : decode cX6_meanBy 11 = .ok (.iload_n 1, 1) := zo_27 (zby_w zwX6_meanBy_0 11 rfl)
theorem d_X6_meanBy_12 : decode cX6_meanBy 12 = .ok (.invokevirtual 98, 3) := zo_182 (a := 0) (b := 98) (zby_w zwX6_meanBy_0 12 rfl) (zby_w zwX6_meanBy_0 13 rfl) (zby_w zwX6_meanBy_0 14 rfl) (by decide)
theorem d_X6_meanBy_15 : decode cX6_meanBy 15 = .ok (.imul, 1) := zo_104 (zby_w zwX6_meanBy_0 15 rfl)
theorem d_X6_meanBy_16 : decode cX6_meanBy 16 = .ok (.ireturn, 1) := zo_172 (zby_w zwX6_meanBy_0 16 rfl)
theorem d_X6_meanBy_17 : decode cX6_meanBy 17 = .ok (.bipush 10, 2) := zo_16 (a := 10) (zby_w zwX6_meanBy_0 17 rfl) (zby_w zwX6_meanBy_0 18 rfl) (by decide)
theorem d_X6_meanBy_19 : decode cX6_meanBy 19 = .ok (.iload_n 2, 1) := zo_28 (zby_w zwX6_meanBy_0 19 rfl)
theorem d_X6_meanBy_20 : decode cX6_meanBy 20 = .ok (.ifCond .ne 11, 3) := zo_154 (a := 0) (b := 11) (zby_w zwX6_meanBy_0 20 rfl) (zby_w zwX6_meanBy_0 21 rfl) (zby_w zwX6_meanBy_0 22 rfl) (by decide)
theorem d_X6_meanBy_23 : decode cX6_meanBy 23 = .ok (.aload_n 0, 1) := zo_42 (zby_w zwX6_meanBy_0 23 rfl)
theorem d_X6_meanBy_24 : decode cX6_meanBy 24 = .ok (.iload_n 1, 1) := zo_27 (zby_w zwX6_meanBy_0 24 rfl)
theorem d_X6_meanBy_25 : decode cX6_meanBy 25 = .ok (.invokevirtual 101, 3) := zo_182 (a := 0) (b := 101) (zby_w zwX6_meanBy_0 25 rfl) (zby_w zwX6_meanBy_0 26 rfl) (zby_w zwX6_meanBy_0 27 rfl) (by decide)
theorem d_X6_meanBy_28 : decode cX6_meanBy 28 = .ok (.goto 8, 3) := zo_167 (a := 0) (b := 8) (zby_w zwX6_meanBy_0 28 rfl) (zby_w zwX6_meanBy_0 29 rfl) (zby_w zwX6_meanBy_0 30 rfl) (by decide)
theorem d_X6_meanBy_31 : decode cX6_meanBy 31 = .ok (.aload_n 0, 1) := zo_42 (zby_w zwX6_meanBy_0 31 rfl)
theorem d_X6_meanBy_32 : decode cX6_meanBy 32 = .ok (.iload_n 1, 1) := zo_27 (zby_w zwX6_meanBy_1 0 rfl)
theorem d_X6_meanBy_33 : decode cX6_meanBy 33 = .ok (.invokevirtual 73, 3) := zo_182 (a := 0) (b := 73) (zby_w zwX6_meanBy_1 1 rfl) (zby_w zwX6_meanBy_1 2 rfl) (zby_w zwX6_meanBy_1 3 rfl) (by decide)
theorem d_X6_meanBy_36 : decode cX6_meanBy 36 = .ok (.imul, 1) := zo_104 (zby_w zwX6_meanBy_1 4 rfl)
theorem d_X6_meanBy_37 : decode cX6_meanBy 37 = .ok (.ireturn, 1) := zo_172 (zby_w zwX6_meanBy_1 5 rfl)
theorem d_X6_menToTeeth_0 : decode cX6_menToTeeth 0 = .ok (.aload_n 0, 1) := zo_42 (zby_w zwX6_menToTeeth_0 0 rfl)
theorem d_X6_menToTeeth_1 : decode cX6_menToTeeth 1 = .ok (.getfield 19, 3) := zo_180 (a := 0) (b := 19) (zby_w zwX6_menToTeeth_0 1 rfl) (zby_w zwX6_menToTeeth_0 2 rfl) (zby_w zwX6_menToTeeth_0 3 rfl) (by decide)
theorem d_X6_menToTeeth_4 : decode cX6_menToTeeth 4 = .ok (.iload_n 1, 1) := zo_27 (zby_w zwX6_menToTeeth_0 4 rfl)
theorem d_X6_menToTeeth_5 : decode cX6_menToTeeth 5 = .ok (.iaload, 1) := zo_46 (zby_w zwX6_menToTeeth_0 5 rfl)
theorem d_X6_menToTeeth_6 : decode cX6_menToTeeth 6 = .ok (.iconst 0, 1) := zo_3 (zby_w zwX6_menToTeeth_0 6 rfl)
theorem d_X6_menToTeeth_7 : decode cX6_menToTeeth 7 = .ok (.aload_n 0, 1) := zo_42 (zby_w zwX6_menToTeeth_0 7 rfl)
theorem d_X6_menToTeeth_8 : decode cX6_menToTeeth 8 = .ok (.getfield 36, 3) := zo_180 (a := 0) (b := 36) (zby_w zwX6_menToTeeth_0 8 rfl) (zby_w zwX6_menToTeeth_0 9 rfl) (zby_w zwX6_menToTeeth_0 10 rfl) (by decide)
theorem d_X6_menToTeeth_11 : decode cX6_menToTeeth 11 = .ok (.iconst 0, 1) := zo_3 (zby_w zwX6_menToTeeth_0 11 rfl)
theorem d_X6_menToTeeth_12 : decode cX6_menToTeeth 12 = .ok (.iaload, 1) := zo_46 (zby_w zwX6_menToTeeth_0 12 rfl)
theorem d_X6_menToTeeth_13 : decode cX6_menToTeeth 13 = .ok (.aload_n 0, 1) := zo_42 (zby_w zwX6_menToTeeth_0 13 rfl)
theorem d_X6_menToTeeth_14 : decode cX6_menToTeeth 14 = .ok (.getfield 22, 3) := zo_180 (a := 0) (b := 22) (zby_w zwX6_menToTeeth_0 14 rfl) (zby_w zwX6_menToTeeth_0 15 rfl) (zby_w zwX6_menToTeeth_0 16 rfl) (by decide)
theorem d_X6_menToTeeth_17 : decode cX6_menToTeeth 17 = .ok (.iload_n 1, 1) := zo_27 (zby_w zwX6_menToTeeth_0 17 rfl)
theorem d_X6_menToTeeth_18 : decode cX6_menToTeeth 18 = .ok (.iaload, 1) := zo_46 (zby_w zwX6_menToTeeth_0 18 rfl)
theorem d_X6_menToTeeth_19 : decode cX6_menToTeeth 19 = .ok (.isub, 1) := zo_100 (zby_w zwX6_menToTeeth_0 19 rfl)
theorem d_X6_menToTeeth_20 : decode cX6_menToTeeth 20 = .ok (.invokestatic 80, 3) := zo_184 (a := 0) (b := 80) (zby_w zwX6_menToTeeth_0 20 rfl) (zby_w zwX6_menToTeeth_0 21 rfl) (zby_w zwX6_menToTeeth_0 22 rfl) (by decide)
theorem d_X6_menToTeeth_23 : decode cX6_menToTeeth 23 = .ok (.invokestatic 95, 3) := zo_184 (a := 0) (b := 95) (zby_w zwX6_menToTeeth_0 23 rfl) (zby_w zwX6_menToTeeth_0 24 rfl) (zby_w zwX6_menToTeeth_0 25 rfl) (by decide)
theorem d_X6_menToTeeth_26 : decode cX6_menToTeeth 26 = .ok (.ireturn, 1) := zo_172 (zby_w zwX6_menToTeeth_0 26 rfl)
theorem d_X6_moored_0 : decode cX6_moored 0 = .ok (.aload_n 0, 1) := zo_42 (zby_w zwX6_moored_0 0 rfl)
theorem d_X6_moored_1 : decode cX6_moored 1 = .ok (.iload_n 1, 1) := zo_27 (zby_w zwX6_moored_0 1 rfl)
theorem d_X6_moored_2 : decode cX6_moored 2 = .ok (.invokevirtual 58, 3) := zo_182 (a := 0) (b := 58) (zby_w zwX6_moored_0 2 rfl) (zby_w zwX6_moored_0 3 rfl) (zby_w zwX6_moored_0 4 rfl) (by decide)
theorem d_X6_moored_5 : decode cX6_moored 5 = .ok (.ifCond .eq 16, 3) := zo_153 (a := 0) (b := 16) (zby_w zwX6_moored_0 5 rfl) (zby_w zwX6_moored_0 6 rfl) (zby_w zwX6_moored_0 7 rfl) (by decide)
theorem d_X6_moored_8 : decode cX6_moored 8 = .ok (.aload_n 0, 1) := zo_42 (zby_w zwX6_moored_0 8 rfl)
theorem d_X6_moored_9 : decode cX6_moored 9 = .ok (.getfield 15, 3) := zo_180 (a := 0) (b := 15) (zby_w zwX6_moored_0 9 rfl) (zby_w zwX6_moored_0 10 rfl) (zby_w zwX6_moored_0 11 rfl) (by decide)
theorem d_X6_moored_12 : decode cX6_moored 12 = .ok (.iload_n 1, 1) := zo_27 (zby_w zwX6_moored_0 12 rfl)
theorem d_X6_moored_13 : decode cX6_moored 13 = .ok (.iaload, 1) := zo_46 (zby_w zwX6_moored_0 13 rfl)
theorem d_X6_moored_14 : decode cX6_moored 14 = .ok (.ifCond .ne 7, 3) := zo_154 (a := 0) (b := 7) (zby_w zwX6_moored_0 14 rfl) (zby_w zwX6_moored_0 15 rfl) (zby_w zwX6_moored_0 16 rfl) (by decide)
theorem d_X6_moored_17 : decode cX6_moored 17 = .ok (.iconst 1, 1) := zo_4 (zby_w zwX6_moored_0 17 rfl)
theorem d_X6_moored_18 : decode cX6_moored 18 = .ok (.goto 4, 3) := zo_167 (a := 0) (b := 4) (zby_w zwX6_moored_0 18 rfl) (zby_w zwX6_moored_0 19 rfl) (zby_w zwX6_moored_0 20 rfl) (by decide)
theorem d_X6_moored_21 : decode cX6_moored 21 = .ok (.iconst 0, 1) := zo_3 (zby_w zwX6_moored_0 21 rfl)
theorem d_X6_moored_22 : decode cX6_moored 22 = .ok (.ireturn, 1) := zo_172 (zby_w zwX6_moored_0 22 rfl)
theorem d_X6_ownersSide_0 : decode cX6_ownersSide 0 = .ok (.iconst 0, 1) := zo_3 (zby_w zwX6_ownersSide_0 0 rfl)
theorem d_X6_ownersSide_1 : decode cX6_ownersSide 1 = .ok (.istore_n 3, 1) := zo_62 (zby_w zwX6_ownersSide_0 1 rfl)
theorem d_X6_ownersSide_2 : decode cX6_ownersSide 2 = .ok (.iconst 1, 1) := zo_4 (zby_w zwX6_ownersSide_0 2 rfl)
theorem d_X6_ownersSide_3 : decode cX6_ownersSide 3 = .ok (.istore 4, 2) := zo_54 (a := 4) (zby_w zwX6_ownersSide_0 3 rfl) (zby_w zwX6_ownersSide_0 4 rfl) (by decide)
theorem d_X6_ownersSide_5 : decode cX6_ownersSide 5 = .ok (.iload 4, 2) := zo_21 (a := 4) (zby_w zwX6_ownersSide_0 5 rfl) (zby_w zwX6_ownersSide_0 6 rfl) (by decide)
theorem d_X6_ownersSide_7 : decode cX6_ownersSide 7 = .ok (.iconst 3, 1) := zo_6 (zby_w zwX6_ownersSide_0 7 rfl)
theorem d_X6_ownersSide_8 : decode cX6_ownersSide 8 = .ok (.if_icmp .ge 30, 3) := zo_162 (a := 0) (b := 30) (zby_w zwX6_ownersSide_0 8 rfl) (zby_w zwX6_ownersSide_0 9 rfl) (zby_w zwX6_ownersSide_0 10 rfl) (by decide)
theorem d_X6_ownersSide_11 : decode cX6_ownersSide 11 = .ok (.aload_n 0, 1) := zo_42 (zby_w zwX6_ownersSide_0 11 rfl)
theorem d_X6_ownersSide_12 : decode cX6_ownersSide 12 = .ok (.iload_n 1, 1) := zo_27 (zby_w zwX6_ownersSide_0 12 rfl)
theorem d_X6_ownersSide_13 : decode cX6_ownersSide 13 = .ok (.iload 4, 2) := zo_21 (a := 4) (zby_w zwX6_ownersSide_0 13 rfl) (zby_w zwX6_ownersSide_0 14 rfl) (by decide)
theorem d_X6_ownersSide_15 : decode cX6_ownersSide 15 = .ok (.iload_n 2, 1) := zo_28 (zby_w zwX6_ownersSide_0 15 rfl)
theorem d_X6_ownersSide_16 : decode cX6_ownersSide 16 = .ok (.invokevirtual 104, 3) := zo_182 (a := 0) (b := 104) (zby_w zwX6_ownersSide_0 16 rfl) (zby_w zwX6_ownersSide_0 17 rfl) (zby_w zwX6_ownersSide_0 18 rfl) (by decide)
theorem d_X6_ownersSide_19 : decode cX6_ownersSide 19 = .ok (.aload_n 0, 1) := zo_42 (zby_w zwX6_ownersSide_0 19 rfl)
theorem d_X6_ownersSide_20 : decode cX6_ownersSide 20 = .ok (.iload_n 1, 1) := zo_27 (zby_w zwX6_ownersSide_0 20 rfl)
theorem d_X6_ownersSide_21 : decode cX6_ownersSide 21 = .ok (.iload_n 3, 1) := zo_29 (zby_w zwX6_ownersSide_0 21 rfl)
theorem d_X6_ownersSide_22 : decode cX6_ownersSide 22 = .ok (.iload_n 2, 1) := zo_28 (zby_w zwX6_ownersSide_0 22 rfl)
theorem d_X6_ownersSide_23 : decode cX6_ownersSide 23 = .ok (.invokevirtual 104, 3) := zo_182 (a := 0) (b := 104) (zby_w zwX6_ownersSide_0 23 rfl) (zby_w zwX6_ownersSide_0 24 rfl) (zby_w zwX6_ownersSide_0 25 rfl) (by decide)
theorem d_X6_ownersSide_26 : decode cX6_ownersSide 26 = .ok (.if_icmp .ge 6, 3) := zo_162 (a := 0) (b := 6) (zby_w zwX6_ownersSide_0 26 rfl) (zby_w zwX6_ownersSide_0 27 rfl) (zby_w zwX6_ownersSide_0 28 rfl) (by decide)
theorem d_X6_ownersSide_29 : decode cX6_ownersSide 29 = .ok (.iload 4, 2) := zo_21 (a := 4) (zby_w zwX6_ownersSide_0 29 rfl) (zby_w zwX6_ownersSide_0 30 rfl) (by decide)
theorem d_X6_ownersSide_31 : decode cX6_ownersSide 31 = .ok (.istore_n 3, 1) := zo_62 (zby_w zwX6_ownersSide_0 31 rfl)
theorem d_X6_ownersSide_32 : decode cX6_ownersSide 32 = .ok (.iinc 4 1, 3) := by decide +kernel
theorem d_X6_ownersSide_35 : decode cX6_ownersSide 35 = .ok (.goto (-30), 3) := zo_167 (a := 255) (b := 226) (zby_w zwX6_ownersSide_1 3 rfl) (zby_w zwX6_ownersSide_1 4 rfl) (zby_w zwX6_ownersSide_1 5 rfl) (by decide)
theorem d_X6_ownersSide_38 : decode cX6_ownersSide 38 = .ok (.iload_n 3, 1) := zo_29 (zby_w zwX6_ownersSide_1 6 rfl)
theorem d_X6_ownersSide_39 : decode cX6_ownersSide 39 = .ok (.ireturn, 1) := zo_172 (zby_w zwX6_ownersSide_1 7 rfl)
theorem d_X6_rewardFor_0 : decode cX6_rewardFor 0 = .ok (.iload_n 1, 1) := zo_27 (zby_w zwX6_rewardFor_0 0 rfl)
theorem d_X6_rewardFor_1 : decode cX6_rewardFor 1 = .ok (.ifCond .ne 7, 3) := zo_154 (a := 0) (b := 7) (zby_w zwX6_rewardFor_0 1 rfl) (zby_w zwX6_rewardFor_0 2 rfl) (zby_w zwX6_rewardFor_0 3 rfl) (by decide)
theorem d_X6_rewardFor_4 : decode cX6_rewardFor 4 = .ok (.iconst 0, 1) := zo_3 (zby_w zwX6_rewardFor_0 4 rfl)
theorem d_X6_rewardFor_5 : decode cX6_rewardFor 5 = .ok (.goto 13, 3) := zo_167 (a := 0) (b := 13) (zby_w zwX6_rewardFor_0 5 rfl) (zby_w zwX6_rewardFor_0 6 rfl) (zby_w zwX6_rewardFor_0 7 rfl) (by decide)
theorem d_X6_rewardFor_8 : decode cX6_rewardFor 8 = .ok (.aload_n 0, 1) := zo_42 (zby_w zwX6_rewardFor_0 8 rfl)
theorem d_X6_rewardFor_9 : decode cX6_rewardFor 9 = .ok (.getfield 36, 3) := zo_180 (a := 0) (b := 36) (zby_w zwX6_rewardFor_0 9 rfl) (zby_w zwX6_rewardFor_0 10 rfl) (zby_w zwX6_rewardFor_0 11 rfl) (by decide)
theorem d_X6_rewardFor_12 : decode cX6_rewardFor 12 = .ok (.iconst 5, 1) := zo_8 (zby_w zwX6_rewardFor_0 12 rfl)
theorem d_X6_rewardFor_13 : decode cX6_rewardFor 13 = .ok (.iaload, 1) := zo_46 (zby_w zwX6_rewardFor_0 13 rfl)
theorem d_X6_rewardFor_14 : decode cX6_rewardFor 14 = .ok (.iload_n 2, 1) := zo_28 (zby_w zwX6_rewardFor_0 14 rfl)
theorem d_X6_rewardFor_15 : decode cX6_rewardFor 15 = .ok (.iload_n 1, 1) := zo_27 (zby_w zwX6_rewardFor_0 15 rfl)
theorem d_X6_rewardFor_16 : decode cX6_rewardFor 16 = .ok (.imul, 1) := zo_104 (zby_w zwX6_rewardFor_0 16 rfl)
theorem d_X6_rewardFor_17 : decode cX6_rewardFor 17 = .ok (.iadd, 1) := zo_96 (zby_w zwX6_rewardFor_0 17 rfl)
theorem d_X6_rewardFor_18 : decode cX6_rewardFor 18 = .ok (.ireturn, 1) := zo_172 (zby_w zwX6_rewardFor_0 18 rfl)
theorem d_X6_send_0 : decode cX6_send 0 = .ok (.aload_n 0, 1) := zo_42 (zby_w zwX6_send_0 0 rfl)
theorem d_X6_send_1 : decode cX6_send 1 = .ok (.iload_n 1, 1) := zo_27 (zby_w zwX6_send_0 1 rfl)
theorem d_X6_send_2 : decode cX6_send 2 = .ok (.invokevirtual 62, 3) := zo_182 (a := 0) (b := 62) (zby_w zwX6_send_0 2 rfl) (zby_w zwX6_send_0 3 rfl) (zby_w zwX6_send_0 4 rfl) (by decide)
theorem d_X6_send_5 : decode cX6_send 5 = .ok (.ifCond .ne 4, 3) := zo_154 (a := 0) (b := 4) (zby_w zwX6_send_0 5 rfl) (zby_w zwX6_send_0 6 rfl) (zby_w zwX6_send_0 7 rfl) (by decide)
theorem d_X6_send_8 : decode cX6_send 8 = .ok (.return_, 1) := zo_177 (zby_w zwX6_send_0 8 rfl)
theorem d_X6_send_9 : decode cX6_send 9 = .ok (.aload_n 0, 1) := zo_42 (zby_w zwX6_send_0 9 rfl)
theorem d_X6_send_10 : decode cX6_send 10 = .ok (.getfield 15, 3) := zo_180 (a := 0) (b := 15) (zby_w zwX6_send_0 10 rfl) (zby_w zwX6_send_0 11 rfl) (zby_w zwX6_send_0 12 rfl) (by decide)
theorem d_X6_send_13 : decode cX6_send 13 = .ok (.iload_n 1, 1) := zo_27 (zby_w zwX6_send_0 13 rfl)
theorem d_X6_send_14 : decode cX6_send 14 = .ok (.iconst 1, 1) := zo_4 (zby_w zwX6_send_0 14 rfl)
theorem d_X6_send_15 : decode cX6_send 15 = .ok (.iastore, 1) := zo_79 (zby_w zwX6_send_0 15 rfl)
theorem d_X6_send_16 : decode cX6_send 16 = .ok (.iload_n 2, 1) := zo_28 (zby_w zwX6_send_0 16 rfl)
theorem d_X6_send_17 : decode cX6_send 17 = .ok (.ifCond .ne 11, 3) := zo_154 (a := 0) (b := 11) (zby_w zwX6_send_0 17 rfl) (zby_w zwX6_send_0 18 rfl) (zby_w zwX6_send_0 19 rfl) (by decide)
theorem d_X6_send_20 : decode cX6_send 20 = .ok (.aload_n 0, 1) := zo_42 (zby_w zwX6_send_0 20 rfl)
theorem d_X6_send_21 : decode cX6_send 21 = .ok (.iload_n 1, 1) := zo_27 (zby_w zwX6_send_0 21 rfl)
theorem d_X6_send_22 : decode cX6_send 22 = .ok (.invokevirtual 65, 3) := zo_182 (a := 0) (b := 65) (zby_w zwX6_send_0 22 rfl) (zby_w zwX6_send_0 23 rfl) (zby_w zwX6_send_0 24 rfl) (by decide)
theorem d_X6_send_25 : decode cX6_send 25 = .ok (.goto 31, 3) := zo_167 (a := 0) (b := 31) (zby_w zwX6_send_0 25 rfl) (zby_w zwX6_send_0 26 rfl) (zby_w zwX6_send_0 27 rfl) (by decide)
theorem d_X6_send_28 : decode cX6_send 28 = .ok (.iload_n 2, 1) := zo_28 (zby_w zwX6_send_0 28 rfl)
theorem d_X6_send_29 : decode cX6_send 29 = .ok (.iconst 1, 1) := zo_4 (zby_w zwX6_send_0 29 rfl)
theorem d_X6_send_30 : decode cX6_send 30 = .ok (.if_icmp .ne 12, 3) := zo_160 (a := 0) (b := 12) (zby_w zwX6_send_0 30 rfl) (zby_w zwX6_send_0 31 rfl) (zby_w zwX6_send_0 32 rfl) (by decide)
theorem d_X6_send_33 : decode cX6_send 33 = .ok (.aload_n 0, 1) := zo_42 (zby_w zwX6_send_1 1 rfl)
theorem d_X6_send_34 : decode cX6_send 34 = .ok (.iload_n 1, 1) := zo_27 (zby_w zwX6_send_1 2 rfl)
theorem d_X6_send_35 : decode cX6_send 35 = .ok (.iload_n 3, 1) := zo_29 (zby_w zwX6_send_1 3 rfl)
theorem d_X6_send_36 : decode cX6_send 36 = .ok (.invokevirtual 69, 3) := zo_182 (a := 0) (b := 69) (zby_w zwX6_send_1 4 rfl) (zby_w zwX6_send_1 5 rfl) (zby_w zwX6_send_1 6 rfl) (by decide)
theorem d_X6_send_39 : decode cX6_send 39 = .ok (.goto 17, 3) := zo_167 (a := 0) (b := 17) (zby_w zwX6_send_1 7 rfl) (zby_w zwX6_send_1 8 rfl) (zby_w zwX6_send_1 9 rfl) (by decide)
theorem d_X6_send_42 : decode cX6_send 42 = .ok (.aload_n 0, 1) := zo_42 (zby_w zwX6_send_1 10 rfl)
theorem d_X6_send_43 : decode cX6_send 43 = .ok (.getfield 45, 3) := zo_180 (a := 0) (b := 45) (zby_w zwX6_send_1 11 rfl) (zby_w zwX6_send_1 12 rfl) (zby_w zwX6_send_1 13 rfl) (by decide)
theorem d_X6_send_46 : decode cX6_send 46 = .ok (.iconst 2, 1) := zo_5 (zby_w zwX6_send_1 14 rfl)
theorem d_X6_send_47 : decode cX6_send 47 = .ok (.dup2, 1) := zo_92 (zby_w zwX6_send_1 15 rfl)
theorem d_X6_send_48 : decode cX6_send 48 = .ok (.iaload, 1) := zo_46 (zby_w zwX6_send_1 16 rfl)
theorem d_X6_send_49 : decode cX6_send 49 = .ok (.aload_n 0, 1) := zo_42 (zby_w zwX6_send_1 17 rfl)
theorem d_X6_send_50 : decode cX6_send 50 = .ok (.iload_n 1, 1) := zo_27 (zby_w zwX6_send_1 18 rfl)
theorem d_X6_send_51 : decode cX6_send 51 = .ok (.invokevirtual 73, 3) := zo_182 (a := 0) (b := 73) (zby_w zwX6_send_1 19 rfl) (zby_w zwX6_send_1 20 rfl) (zby_w zwX6_send_1 21 rfl) (by decide)
theorem d_X6_send_54 : decode cX6_send 54 = .ok (.iadd, 1) := zo_96 (zby_w zwX6_send_1 22 rfl)
theorem d_X6_send_55 : decode cX6_send 55 = .ok (.iastore, 1) := zo_79 (zby_w zwX6_send_1 23 rfl)
theorem d_X6_send_56 : decode cX6_send 56 = .ok (.return_, 1) := zo_177 (zby_w zwX6_send_1 24 rfl)
theorem d_X6_sendByTeeth_0 : decode cX6_sendByTeeth 0 = .ok (.aload_n 0, 1) := zo_42 (zby_w zwX6_sendByTeeth_0 0 rfl)
theorem d_X6_sendByTeeth_1 : decode cX6_sendByTeeth 1 = .ok (.iload_n 1, 1) := zo_27 (zby_w zwX6_sendByTeeth_0 1 rfl)
theorem d_X6_sendByTeeth_2 : decode cX6_sendByTeeth 2 = .ok (.invokevirtual 77, 3) := zo_182 (a := 0) (b := 77) (zby_w zwX6_sendByTeeth_0 2 rfl) (zby_w zwX6_sendByTeeth_0 3 rfl) (zby_w zwX6_sendByTeeth_0 4 rfl) (by decide)
theorem d_X6_sendByTeeth_5 : decode cX6_sendByTeeth 5 = .ok (.istore_n 2, 1) := zo_61 (zby_w zwX6_sendByTeeth_0 5 rfl)
theorem d_X6_sendByTeeth_6 : decode cX6_sendByTeeth 6 = .ok (.aload_n 0, 1) := zo_42 (zby_w zwX6_sendByTeeth_0 6 rfl)
theorem d_X6_sendByTeeth_7 : decode cX6_sendByTeeth 7 = .ok (.getfield 22, 3) := zo_180 (a := 0) (b := 22) (zby_w zwX6_sendByTeeth_0 7 rfl) (zby_w zwX6_sendByTeeth_0 8 rfl) (zby_w zwX6_sendByTeeth_0 9 rfl) (by decide)
theorem d_X6_sendByTeeth_10 : decode cX6_sendByTeeth 10 = .ok (.iload_n 1, 1) := zo_27 (zby_w zwX6_sendByTeeth_0 10 rfl)
theorem d_X6_sendByTeeth_11 : decode cX6_sendByTeeth 11 = .ok (.iconst 0, 1) := zo_3 (zby_w zwX6_sendByTeeth_0 11 rfl)
theorem d_X6_sendByTeeth_12 : decode cX6_sendByTeeth 12 = .ok (.aload_n 0, 1) := zo_42 (zby_w zwX6_sendByTeeth_0 12 rfl)
theorem d_X6_sendByTeeth_13 : decode cX6_sendByTeeth 13 = .ok (.getfield 22, 3) := zo_180 (a := 0) (b := 22) (zby_w zwX6_sendByTeeth_0 13 rfl) (zby_w zwX6_sendByTeeth_0 14 rfl) (zby_w zwX6_sendByTeeth_0 15 rfl) (by decide)
theorem d_X6_sendByTeeth_16 : decode cX6_sendByTeeth 16 = .ok (.iload_n 1, 1) := zo_27 (zby_w zwX6_sendByTeeth_0 16 rfl)
theorem d_X6_sendByTeeth_17 : decode cX6_sendByTeeth 17 = .ok (.iaload, 1) := zo_46 (zby_w zwX6_sendByTeeth_0 17 rfl)
theorem d_X6_sendByTeeth_18 : decode cX6_sendByTeeth 18 = .ok (.aload_n 0, 1) := zo_42 (zby_w zwX6_sendByTeeth_0 18 rfl)
theorem d_X6_sendByTeeth_19 : decode cX6_sendByTeeth 19 = .ok (.getfield 36, 3) := zo_180 (a := 0) (b := 36) (zby_w zwX6_sendByTeeth_0 19 rfl) (zby_w zwX6_sendByTeeth_0 20 rfl) (zby_w zwX6_sendByTeeth_0 21 rfl) (by decide)
theorem d_X6_sendByTeeth_22 : decode cX6_sendByTeeth 22 = .ok (.iconst 0, 1) := zo_3 (zby_w zwX6_sendByTeeth_0 22 rfl)
theorem d_X6_sendByTeeth_23 : decode cX6_sendByTeeth 23 = .ok (.iaload, 1) := zo_46 (zby_w zwX6_sendByTeeth_0 23 rfl)
theorem d_X6_sendByTeeth_24 : decode cX6_sendByTeeth 24 = .ok (.isub, 1) := zo_100 (zby_w zwX6_sendByTeeth_0 24 rfl)
theorem d_X6_sendByTeeth_25 : decode cX6_sendByTeeth 25 = .ok (.invokestatic 80, 3) := zo_184 (a := 0) (b := 80) (zby_w zwX6_sendByTeeth_0 25 rfl) (zby_w zwX6_sendByTeeth_0 26 rfl) (zby_w zwX6_sendByTeeth_0 27 rfl) (by decide)
theorem d_X6_sendByTeeth_28 : decode cX6_sendByTeeth 28 = .ok (.iastore, 1) := zo_79 (zby_w zwX6_sendByTeeth_0 28 rfl)
theorem d_X6_sendByTeeth_29 : decode cX6_sendByTeeth 29 = .ok (.aload_n 0, 1) := zo_42 (zby_w zwX6_sendByTeeth_0 29 rfl)
theorem d_X6_sendByTeeth_30 : decode cX6_sendByTeeth 30 = .ok (.getfield 19, 3) := zo_180 (a := 0) (b := 19) (zby_w zwX6_sendByTeeth_0 30 rfl) (zby_w zwX6_sendByTeeth_0 31 rfl) (zby_w zwX6_sendByTeeth_0 32 rfl) (by decide)
theorem d_X6_sendByTeeth_33 : decode cX6_sendByTeeth 33 = .ok (.iload_n 1, 1) := zo_27 (zby_w zwX6_sendByTeeth_1 1 rfl)
theorem d_X6_sendByTeeth_34 : decode cX6_sendByTeeth 34 = .ok (.dup2, 1) := zo_92 (zby_w zwX6_sendByTeeth_1 2 rfl)
theorem d_X6_sendByTeeth_35 : decode cX6_sendByTeeth 35 = .ok (.iaload, 1) := zo_46 (zby_w zwX6_sendByTeeth_1 3 rfl)
theorem d_X6_sendByTeeth_36 : decode cX6_sendByTeeth 36 = .ok (.iload_n 2, 1) := zo_28 (zby_w zwX6_sendByTeeth_1 4 rfl)
theorem d_X6_sendByTeeth_37 : decode cX6_sendByTeeth 37 = .ok (.isub, 1) := zo_100 (zby_w zwX6_sendByTeeth_1 5 rfl)
theorem d_X6_sendByTeeth_38 : decode cX6_sendByTeeth 38 = .ok (.iastore, 1) := zo_79 (zby_w zwX6_sendByTeeth_1 6 rfl)
theorem d_X6_sendByTeeth_39 : decode cX6_sendByTeeth 39 = .ok (.aload_n 0, 1) := zo_42 (zby_w zwX6_sendByTeeth_1 7 rfl)
theorem d_X6_sendByTeeth_40 : decode cX6_sendByTeeth 40 = .ok (.getfield 45, 3) := zo_180 (a := 0) (b := 45) (zby_w zwX6_sendByTeeth_1 8 rfl) (zby_w zwX6_sendByTeeth_1 9 rfl) (zby_w zwX6_sendByTeeth_1 10 rfl) (by decide)
theorem d_X6_sendByTeeth_43 : decode cX6_sendByTeeth 43 = .ok (.iconst 0, 1) := zo_3 (zby_w zwX6_sendByTeeth_1 11 rfl)
theorem d_X6_sendByTeeth_44 : decode cX6_sendByTeeth 44 = .ok (.dup2, 1) := zo_92 (zby_w zwX6_sendByTeeth_1 12 rfl)
theorem d_X6_sendByTeeth_45 : decode cX6_sendByTeeth 45 = .ok (.iaload, 1) := zo_46 (zby_w zwX6_sendByTeeth_1 13 rfl)
theorem d_X6_sendByTeeth_46 : decode cX6_sendByTeeth 46 = .ok (.iload_n 2, 1) := zo_28 (zby_w zwX6_sendByTeeth_1 14 rfl)
theorem d_X6_sendByTeeth_47 : decode cX6_sendByTeeth 47 = .ok (.iadd, 1) := zo_96 (zby_w zwX6_sendByTeeth_1 15 rfl)
theorem d_X6_sendByTeeth_48 : decode cX6_sendByTeeth 48 = .ok (.iastore, 1) := zo_79 (zby_w zwX6_sendByTeeth_1 16 rfl)
theorem d_X6_sendByTeeth_49 : decode cX6_sendByTeeth 49 = .ok (.aload_n 0, 1) := zo_42 (zby_w zwX6_sendByTeeth_1 17 rfl)
theorem d_X6_sendByTeeth_50 : decode cX6_sendByTeeth 50 = .ok (.getfield 19, 3) := zo_180 (a := 0) (b := 19) (zby_w zwX6_sendByTeeth_1 18 rfl) (zby_w zwX6_sendByTeeth_1 19 rfl) (zby_w zwX6_sendByTeeth_1 20 rfl) (by decide)
theorem d_X6_sendByTeeth_53 : decode cX6_sendByTeeth 53 = .ok (.iload_n 1, 1) := zo_27 (zby_w zwX6_sendByTeeth_1 21 rfl)
theorem d_X6_sendByTeeth_54 : decode cX6_sendByTeeth 54 = .ok (.iaload, 1) := zo_46 (zby_w zwX6_sendByTeeth_1 22 rfl)
theorem d_X6_sendByTeeth_55 : decode cX6_sendByTeeth 55 = .ok (.ifCond .ne 8, 3) := zo_154 (a := 0) (b := 8) (zby_w zwX6_sendByTeeth_1 23 rfl) (zby_w zwX6_sendByTeeth_1 24 rfl) (zby_w zwX6_sendByTeeth_1 25 rfl) (by decide)
theorem d_X6_sendByTeeth_58 : decode cX6_sendByTeeth 58 = .ok (.aload_n 0, 1) := zo_42 (zby_w zwX6_sendByTeeth_1 26 rfl)
theorem d_X6_sendByTeeth_59 : decode cX6_sendByTeeth 59 = .ok (.iload_n 1, 1) := zo_27 (zby_w zwX6_sendByTeeth_1 27 rfl)
theorem d_X6_sendByTeeth_60 : decode cX6_sendByTeeth 60 = .ok (.invokevirtual 86, 3) := zo_182 (a := 0) (b := 86) (zby_w zwX6_sendByTeeth_1 28 rfl) (zby_w zwX6_sendByTeeth_1 29 rfl) (zby_w zwX6_sendByTeeth_1 30 rfl) (by decide)
theorem d_X6_sendByTeeth_63 : decode cX6_sendByTeeth 63 = .ok (.return_, 1) := zo_177 (zby_w zwX6_sendByTeeth_1 31 rfl)
theorem d_X6_sendByWhirl_0 : decode cX6_sendByWhirl 0 = .ok (.aload_n 0, 1) := zo_42 (zby_w zwX6_sendByWhirl_0 0 rfl)
theorem d_X6_sendByWhirl_1 : decode cX6_sendByWhirl 1 = .ok (.getfield 36, 3) := zo_180 (a := 0) (b := 36) (zby_w zwX6_sendByWhirl_0 1 rfl) (zby_w zwX6_sendByWhirl_0 2 rfl) (zby_w zwX6_sendByWhirl_0 3 rfl) (by decide)
theorem d_X6_sendByWhirl_4 : decode cX6_sendByWhirl 4 = .ok (.bipush 7, 2) := zo_16 (a := 7) (zby_w zwX6_sendByWhirl_0 4 rfl) (zby_w zwX6_sendByWhirl_0 5 rfl) (by decide)
theorem d_X6_sendByWhirl_6 : decode cX6_sendByWhirl 6 = .ok (.aload_n 0, 1) := zo_42 (zby_w zwX6_sendByWhirl_0 6 rfl)
theorem d_X6_sendByWhirl_7 : decode cX6_sendByWhirl 7 = .ok (.getfield 36, 3) := zo_180 (a := 0) (b := 36) (zby_w zwX6_sendByWhirl_0 7 rfl) (zby_w zwX6_sendByWhirl_0 8 rfl) (zby_w zwX6_sendByWhirl_0 9 rfl) (by decide)
theorem d_X6_sendByWhirl_10 : decode cX6_sendByWhirl 10 = .ok (.bipush 7, 2) := zo_16 (a := 7) (zby_w zwX6_sendByWhirl_0 10 rfl) (zby_w zwX6_sendByWhirl_0 11 rfl) (by decide)
theorem d_X6_sendByWhirl_12 : decode cX6_sendByWhirl 12 = .ok (.iaload, 1) := zo_46 (zby_w zwX6_sendByWhirl_0 12 rfl)
theorem d_X6_sendByWhirl_13 : decode cX6_sendByWhirl 13 = .ok (.invokestatic 89, 3) := zo_184 (a := 0) (b := 89) (zby_w zwX6_sendByWhirl_0 13 rfl) (zby_w zwX6_sendByWhirl_0 14 rfl) (zby_w zwX6_sendByWhirl_0 15 rfl) (by decide)
theorem d_X6_sendByWhirl_16 : decode cX6_sendByWhirl 16 = .ok (.iastore, 1) := zo_79 (zby_w zwX6_sendByWhirl_0 16 rfl)
theorem d_X6_sendByWhirl_17 : decode cX6_sendByWhirl 17 = .ok (.aload_n 0, 1) := zo_42 (zby_w zwX6_sendByWhirl_0 17 rfl)
theorem d_X6_sendByWhirl_18 : decode cX6_sendByWhirl 18 = .ok (.getfield 36, 3) := zo_180 (a := 0) (b := 36) (zby_w zwX6_sendByWhirl_0 18 rfl) (zby_w zwX6_sendByWhirl_0 19 rfl) (zby_w zwX6_sendByWhirl_0 20 rfl) (by decide)
theorem d_X6_sendByWhirl_21 : decode cX6_sendByWhirl 21 = .ok (.bipush 7, 2) := zo_16 (a := 7) (zby_w zwX6_sendByWhirl_0 21 rfl) (zby_w zwX6_sendByWhirl_0 22 rfl) (by decide)
theorem d_X6_sendByWhirl_23 : decode cX6_sendByWhirl 23 = .ok (.iaload, 1) := zo_46 (zby_w zwX6_sendByWhirl_0 23 rfl)
theorem d_X6_sendByWhirl_24 : decode cX6_sendByWhirl 24 = .ok (.bipush 10, 2) := zo_16 (a := 10) (zby_w zwX6_sendByWhirl_0 24 rfl) (zby_w zwX6_sendByWhirl_0 25 rfl) (by decide)
theorem d_X6_sendByWhirl_26 : decode cX6_sendByWhirl 26 = .ok (.irem, 1) := zo_112 (zby_w zwX6_sendByWhirl_0 26 rfl)
theorem d_X6_sendByWhirl_27 : decode cX6_sendByWhirl 27 = .ok (.aload_n 0, 1) := zo_42 (zby_w zwX6_sendByWhirl_0 27 rfl)
theorem d_X6_sendByWhirl_28 : decode cX6_sendByWhirl 28 = .ok (.iload_n 2, 1) := zo_28 (zby_w zwX6_sendByWhirl_0 28 rfl)
theorem d_X6_sendByWhirl_29 : decode cX6_sendByWhirl 29 = .ok (.invokevirtual 92, 3) := zo_182 (a := 0) (b := 92) (zby_w zwX6_sendByWhirl_0 29 rfl) (zby_w zwX6_sendByWhirl_0 30 rfl) (zby_w zwX6_sendByWhirl_0 31 rfl) (by decide)
theorem d_X6_sendByWhirl_32 : decode cX6_sendByWhirl 32 = .ok (.if_icmp .ge 8, 3) := zo_162 (a := 0) (b := 8) (zby_w zwX6_sendByWhirl_1 0 rfl) (zby_w zwX6_sendByWhirl_1 1 rfl) (zby_w zwX6_sendByWhirl_1 2 rfl) (by decide)
theorem d_X6_sendByWhirl_35 : decode cX6_sendByWhirl 35 = .ok (.aload_n 0, 1) := zo_42 (zby_w zwX6_sendByWhirl_1 3 rfl)
theorem d_X6_sendByWhirl_36 : decode cX6_sendByWhirl 36 = .ok (.iload_n 1, 1) := zo_27 (zby_w zwX6_sendByWhirl_1 4 rfl)
theorem d_X6_sendByWhirl_37 : decode cX6_sendByWhirl 37 = .ok (.invokevirtual 86, 3) := zo_182 (a := 0) (b := 86) (zby_w zwX6_sendByWhirl_1 5 rfl) (zby_w zwX6_sendByWhirl_1 6 rfl) (zby_w zwX6_sendByWhirl_1 7 rfl) (by decide)
theorem d_X6_sendByWhirl_40 : decode cX6_sendByWhirl 40 = .ok (.return_, 1) := zo_177 (zby_w zwX6_sendByWhirl_1 8 rfl)
theorem d_X6_whole_0 : decode cX6_whole 0 = .ok (.aload_n 0, 1) := zo_42 (zby_w zwX6_whole_0 0 rfl)
theorem d_X6_whole_1 : decode cX6_whole 1 = .ok (.getfield 36, 3) := zo_180 (a := 0) (b := 36) (zby_w zwX6_whole_0 1 rfl) (zby_w zwX6_whole_0 2 rfl) (zby_w zwX6_whole_0 3 rfl) (by decide)
theorem d_X6_whole_4 : decode cX6_whole 4 = .ok (.iconst 1, 1) := zo_4 (zby_w zwX6_whole_0 4 rfl)
theorem d_X6_whole_5 : decode cX6_whole 5 = .ok (.iaload, 1) := zo_46 (zby_w zwX6_whole_0 5 rfl)
theorem d_X6_whole_6 : decode cX6_whole 6 = .ok (.aload_n 0, 1) := zo_42 (zby_w zwX6_whole_0 6 rfl)
theorem d_X6_whole_7 : decode cX6_whole 7 = .ok (.getfield 19, 3) := zo_180 (a := 0) (b := 19) (zby_w zwX6_whole_0 7 rfl) (zby_w zwX6_whole_0 8 rfl) (zby_w zwX6_whole_0 9 rfl) (by decide)
theorem d_X6_whole_10 : decode cX6_whole 10 = .ok (.iload_n 1, 1) := zo_27 (zby_w zwX6_whole_0 10 rfl)
theorem d_X6_whole_11 : decode cX6_whole 11 = .ok (.iaload, 1) := zo_46 (zby_w zwX6_whole_0 11 rfl)
theorem d_X6_whole_12 : decode cX6_whole 12 = .ok (.imul, 1) := zo_104 (zby_w zwX6_whole_0 12 rfl)
theorem d_X6_whole_13 : decode cX6_whole 13 = .ok (.aload_n 0, 1) := zo_42 (zby_w zwX6_whole_0 13 rfl)
theorem d_X6_whole_14 : decode cX6_whole 14 = .ok (.getfield 25, 3) := zo_180 (a := 0) (b := 25) (zby_w zwX6_whole_0 14 rfl) (zby_w zwX6_whole_0 15 rfl) (zby_w zwX6_whole_0 16 rfl) (by decide)
theorem d_X6_whole_17 : decode cX6_whole 17 = .ok (.iload_n 1, 1) := zo_27 (zby_w zwX6_whole_0 17 rfl)
theorem d_X6_whole_18 : decode cX6_whole 18 = .ok (.iaload, 1) := zo_46 (zby_w zwX6_whole_0 18 rfl)
theorem d_X6_whole_19 : decode cX6_whole 19 = .ok (.iadd, 1) := zo_96 (zby_w zwX6_whole_0 19 rfl)
theorem d_X6_whole_20 : decode cX6_whole 20 = .ok (.ireturn, 1) := zo_172 (zby_w zwX6_whole_0 20 rfl)
theorem d_X6_whyNot_0 : decode cX6_whyNot 0 = .ok (.aload_n 0, 1) := zo_42 (zby_w zwX6_whyNot_0 0 rfl)
theorem d_X6_whyNot_1 : decode cX6_whyNot 1 = .ok (.iload_n 1, 1) := zo_27 (zby_w zwX6_whyNot_0 1 rfl)
theorem d_X6_whyNot_2 : decode cX6_whyNot 2 = .ok (.invokevirtual 58, 3) := zo_182 (a := 0) (b := 58) (zby_w zwX6_whyNot_0 2 rfl) (zby_w zwX6_whyNot_0 3 rfl) (zby_w zwX6_whyNot_0 4 rfl) (by decide)
theorem d_X6_whyNot_5 : decode cX6_whyNot 5 = .ok (.ifCond .ne 5, 3) := zo_154 (a := 0) (b := 5) (zby_w zwX6_whyNot_0 5 rfl) (zby_w zwX6_whyNot_0 6 rfl) (zby_w zwX6_whyNot_0 7 rfl) (by decide)
theorem d_X6_whyNot_8 : decode cX6_whyNot 8 = .ok (.iconst 1, 1) := zo_4 (zby_w zwX6_whyNot_0 8 rfl)
theorem d_X6_whyNot_9 : decode cX6_whyNot 9 = .ok (.ireturn, 1) := zo_172 (zby_w zwX6_whyNot_0 9 rfl)
theorem d_X6_whyNot_10 : decode cX6_whyNot 10 = .ok (.aload_n 0, 1) := zo_42 (zby_w zwX6_whyNot_0 10 rfl)
theorem d_X6_whyNot_11 : decode cX6_whyNot 11 = .ok (.iload_n 1, 1) := zo_27 (zby_w zwX6_whyNot_0 11 rfl)
theorem d_X6_whyNot_12 : decode cX6_whyNot 12 = .ok (.invokevirtual 62, 3) := zo_182 (a := 0) (b := 62) (zby_w zwX6_whyNot_0 12 rfl) (zby_w zwX6_whyNot_0 13 rfl) (zby_w zwX6_whyNot_0 14 rfl) (by decide)
theorem d_X6_whyNot_15 : decode cX6_whyNot 15 = .ok (.ifCond .eq 8, 3) := zo_153 (a := 0) (b := 8) (zby_w zwX6_whyNot_0 15 rfl) (zby_w zwX6_whyNot_0 16 rfl) (zby_w zwX6_whyNot_0 17 rfl) (by decide)
theorem d_X6_whyNot_18 : decode cX6_whyNot 18 = .ok (.bipush (-6), 2) := zo_16 (a := 250) (zby_w zwX6_whyNot_0 18 rfl) (zby_w zwX6_whyNot_0 19 rfl) (by decide)
theorem d_X6_whyNot_20 : decode cX6_whyNot 20 = .ok (.goto 4, 3) := zo_167 (a := 0) (b := 4) (zby_w zwX6_whyNot_0 20 rfl) (zby_w zwX6_whyNot_0 21 rfl) (zby_w zwX6_whyNot_0 22 rfl) (by decide)
theorem d_X6_whyNot_23 : decode cX6_whyNot 23 = .ok (.iconst 2, 1) := zo_5 (zby_w zwX6_whyNot_0 23 rfl)
theorem d_X6_whyNot_24 : decode cX6_whyNot 24 = .ok (.ireturn, 1) := zo_172 (zby_w zwX6_whyNot_0 24 rfl)
theorem d_X6_worstBy_0 : decode cX6_worstBy 0 = .ok (.iload_n 2, 1) := zo_28 (zby_w zwX6_worstBy_0 0 rfl)
theorem d_X6_worstBy_1 : decode cX6_worstBy 1 = .ok (.iconst 1, 1) := zo_4 (zby_w zwX6_worstBy_0 1 rfl)
theorem d_X6_worstBy_2 : decode cX6_worstBy 2 = .ok (.if_icmp .ne 21, 3) := zo_160 (a := 0) (b := 21) (zby_w zwX6_worstBy_0 2 rfl) (zby_w zwX6_worstBy_0 3 rfl) (zby_w zwX6_worstBy_0 4 rfl) (by decide)
theorem d_X6_worstBy_5 : decode cX6_worstBy 5 = .ok (.aload_n 0, 1) := zo_42 (zby_w zwX6_worstBy_0 5 rfl)
theorem d_X6_worstBy_6 : decode cX6_worstBy 6 = .ok (.iload_n 3, 1) := zo_29 (zby_w zwX6_worstBy_0 6 rfl)
theorem d_X6_worstBy_7 : decode cX6_worstBy 7 = .ok (.invokevirtual 92, 3) := zo_182 (a := 0) (b := 92) (zby_w zwX6_worstBy_0 7 rfl) (zby_w zwX6_worstBy_0 8 rfl) (zby_w zwX6_worstBy_0 9 rfl) (by decide)
theorem d_X6_worstBy_10 : decode cX6_worstBy 10 = .ok (.ifCond .le 11, 3) := zo_158 (a := 0) (b := 11) (zby_w zwX6_worstBy_0 10 rfl) (zby_w zwX6_worstBy_0 11 rfl) (zby_w zwX6_worstBy_0 12 rfl) (by decide)
theorem d_X6_worstBy_13 : decode cX6_worstBy 13 = .ok (.aload_n 0, 1) := zo_42 (zby_w zwX6_worstBy_0 13 rfl)
theorem d_X6_worstBy_14 : decode cX6_worstBy 14 = .ok (.iload_n 1, 1) := zo_27 (zby_w zwX6_worstBy_0 14 rfl)
theorem d_X6_worstBy_15 : decode cX6_worstBy 15 = .ok (.invokevirtual 98, 3) := zo_182 (a := 0) (b := 98) (zby_w zwX6_worstBy_0 15 rfl) (zby_w zwX6_worstBy_0 16 rfl) (zby_w zwX6_worstBy_0 17 rfl) (by decide)
theorem d_X6_worstBy_18 : decode cX6_worstBy 18 = .ok (.goto 4, 3) := zo_167 (a := 0) (b := 4) (zby_w zwX6_worstBy_0 18 rfl) (zby_w zwX6_worstBy_0 19 rfl) (zby_w zwX6_worstBy_0 20 rfl) (by decide)
theorem d_X6_worstBy_21 : decode cX6_worstBy 21 = .ok (.iconst 0, 1) := zo_3 (zby_w zwX6_worstBy_0 21 rfl)
theorem d_X6_worstBy_22 : decode cX6_worstBy 22 = .ok (.ireturn, 1) := zo_172 (zby_w zwX6_worstBy_0 22 rfl)
theorem d_X6_worstBy_23 : decode cX6_worstBy 23 = .ok (.iload_n 2, 1) := zo_28 (zby_w zwX6_worstBy_0 23 rfl)
theorem d_X6_worstBy_24 : decode cX6_worstBy 24 = .ok (.ifCond .ne 11, 3) := zo_154 (a := 0) (b := 11) (zby_w zwX6_worstBy_0 24 rfl) (zby_w zwX6_worstBy_0 25 rfl) (zby_w zwX6_worstBy_0 26 rfl) (by decide)
theorem d_X6_worstBy_27 : decode cX6_worstBy 27 = .ok (.aload_n 0, 1) := zo_42 (zby_w zwX6_worstBy_0 27 rfl)
theorem d_X6_worstBy_28 : decode cX6_worstBy 28 = .ok (.iload_n 1, 1) := zo_27 (zby_w zwX6_worstBy_0 28 rfl)
theorem d_X6_worstBy_29 : decode cX6_worstBy 29 = .ok (.invokevirtual 101, 3) := zo_182 (a := 0) (b := 101) (zby_w zwX6_worstBy_0 29 rfl) (zby_w zwX6_worstBy_0 30 rfl) (zby_w zwX6_worstBy_0 31 rfl) (by decide)
theorem d_X6_worstBy_32 : decode cX6_worstBy 32 = .ok (.goto 8, 3) := zo_167 (a := 0) (b := 8) (zby_w zwX6_worstBy_1 0 rfl) (zby_w zwX6_worstBy_1 1 rfl) (zby_w zwX6_worstBy_1 2 rfl) (by decide)
theorem d_X6_worstBy_35 : decode cX6_worstBy 35 = .ok (.aload_n 0, 1) := zo_42 (zby_w zwX6_worstBy_1 3 rfl)
theorem d_X6_worstBy_36 : decode cX6_worstBy 36 = .ok (.iload_n 1, 1) := zo_27 (zby_w zwX6_worstBy_1 4 rfl)
theorem d_X6_worstBy_37 : decode cX6_worstBy 37 = .ok (.invokevirtual 73, 3) := zo_182 (a := 0) (b := 73) (zby_w zwX6_worstBy_1 5 rfl) (zby_w zwX6_worstBy_1 6 rfl) (zby_w zwX6_worstBy_1 7 rfl) (by decide)
theorem d_X6_worstBy_40 : decode cX6_worstBy 40 = .ok (.ireturn, 1) := zo_172 (zby_w zwX6_worstBy_1 8 rfl)
theorem d_X7_tryOut_0 : decode cX7_tryOut 0 = .ok (.aload_n 0, 1) := zo_42 (zby_w zwX7_tryOut_0 0 rfl)
theorem d_X7_tryOut_1 : decode cX7_tryOut 1 = .ok (.getfield 12, 3) := zo_180 (a := 0) (b := 12) (zby_w zwX7_tryOut_0 1 rfl) (zby_w zwX7_tryOut_0 2 rfl) (zby_w zwX7_tryOut_0 3 rfl) (by decide)
theorem d_X7_tryOut_4 : decode cX7_tryOut 4 = .ok (.aload_n 2, 1) := zo_44 (zby_w zwX7_tryOut_0 4 rfl)
theorem d_X7_tryOut_5 : decode cX7_tryOut 5 = .ok (.invokevirtual 25, 3) := zo_182 (a := 0) (b := 25) (zby_w zwX7_tryOut_0 5 rfl) (zby_w zwX7_tryOut_0 6 rfl) (zby_w zwX7_tryOut_0 7 rfl) (by decide)
theorem d_X7_tryOut_8 : decode cX7_tryOut 8 = .ok (.aload_n 0, 1) := zo_42 (zby_w zwX7_tryOut_0 8 rfl)
theorem d_X7_tryOut_9 : decode cX7_tryOut 9 = .ok (.iconst 0, 1) := zo_3 (zby_w zwX7_tryOut_0 9 rfl)
theorem d_X7_tryOut_10 : decode cX7_tryOut 10 = .ok (.putfield 18, 3) := zo_181 (a := 0) (b := 18) (zby_w zwX7_tryOut_0 10 rfl) (zby_w zwX7_tryOut_0 11 rfl) (zby_w zwX7_tryOut_0 12 rfl) (by decide)
theorem d_X7_tryOut_13 : decode cX7_tryOut 13 = .ok (.aload_n 0, 1) := zo_42 (zby_w zwX7_tryOut_0 13 rfl)
theorem d_X7_tryOut_14 : decode cX7_tryOut 14 = .ok (.bipush (-6), 2) := zo_16 (a := 250) (zby_w zwX7_tryOut_0 14 rfl) (zby_w zwX7_tryOut_0 15 rfl) (by decide)
theorem d_X7_tryOut_16 : decode cX7_tryOut 16 = .ok (.putfield 22, 3) := zo_181 (a := 0) (b := 22) (zby_w zwX7_tryOut_0 16 rfl) (zby_w zwX7_tryOut_0 17 rfl) (zby_w zwX7_tryOut_0 18 rfl) (by decide)
theorem d_X7_tryOut_19 : decode cX7_tryOut 19 = .ok (.iconst 0, 1) := zo_3 (zby_w zwX7_tryOut_0 19 rfl)
theorem d_X7_tryOut_20 : decode cX7_tryOut 20 = .ok (.istore_n 3, 1) := zo_62 (zby_w zwX7_tryOut_0 20 rfl)
theorem d_X7_tryOut_21 : decode cX7_tryOut 21 = .ok (.iconst 0, 1) := zo_3 (zby_w zwX7_tryOut_0 21 rfl)
theorem d_X7_tryOut_22 : decode cX7_tryOut 22 = .ok (.istore 4, 2) := zo_54 (a := 4) (zby_w zwX7_tryOut_0 22 rfl) (zby_w zwX7_tryOut_0 23 rfl) (by decide)
theorem d_X7_tryOut_24 : decode cX7_tryOut 24 = .ok (.iload 4, 2) := zo_21 (a := 4) (zby_w zwX7_tryOut_0 24 rfl) (zby_w zwX7_tryOut_0 25 rfl) (by decide)
theorem d_X7_tryOut_26 : decode cX7_tryOut 26 = .ok (.aload_n 1, 1) := zo_43 (zby_w zwX7_tryOut_0 26 rfl)
theorem d_X7_tryOut_27 : decode cX7_tryOut 27 = .ok (.getfield 29, 3) := zo_180 (a := 0) (b := 29) (zby_w zwX7_tryOut_0 27 rfl) (zby_w zwX7_tryOut_0 28 rfl) (zby_w zwX7_tryOut_0 29 rfl) (by decide)
theorem d_X7_tryOut_30 : decode cX7_tryOut 30 = .ok (.if_icmp .ge 84, 3) := zo_162 (a := 0) (b := 84) (zby_w zwX7_tryOut_0 30 rfl) (zby_w zwX7_tryOut_0 31 rfl) (zby_w zwX7_tryOut_0 32 rfl) (by decide)
theorem d_X7_tryOut_33 : decode cX7_tryOut 33 = .ok (.aload_n 1, 1) := zo_43 (zby_w zwX7_tryOut_1 1 rfl)
theorem d_X7_tryOut_34 : decode cX7_tryOut 34 = .ok (.iload 4, 2) := zo_21 (a := 4) (zby_w zwX7_tryOut_1 2 rfl) (zby_w zwX7_tryOut_1 3 rfl) (by decide)
theorem d_X7_tryOut_36 : decode cX7_tryOut 36 = .ok (.invokevirtual 34, 3) := zo_182 (a := 0) (b := 34) (zby_w zwX7_tryOut_1 4 rfl) (zby_w zwX7_tryOut_1 5 rfl) (zby_w zwX7_tryOut_1 6 rfl) (by decide)
theorem d_X7_tryOut_39 : decode cX7_tryOut 39 = .ok (.ifCond .eq 9, 3) := zo_153 (a := 0) (b := 9) (zby_w zwX7_tryOut_1 7 rfl) (zby_w zwX7_tryOut_1 8 rfl) (zby_w zwX7_tryOut_1 9 rfl) (by decide)
theorem d_X7_tryOut_42 : decode cX7_tryOut 42 = .ok (.iinc 3 1, 3) := by decide +kernel
theorem d_X7_tryOut_45 : decode cX7_tryOut 45 = .ok (.goto 53, 3) := zo_167 (a := 0) (b := 53) (zby_w zwX7_tryOut_1 13 rfl) (zby_w zwX7_tryOut_1 14 rfl) (zby_w zwX7_tryOut_1 15 rfl) (by decide)
theorem d_X7_tryOut_48 : decode cX7_tryOut 48 = .ok (.aload_n 1, 1) := zo_43 (zby_w zwX7_tryOut_1 16 rfl)
theorem d_X7_tryOut_49 : decode cX7_tryOut 49 = .ok (.iload 4, 2) := zo_21 (a := 4) (zby_w zwX7_tryOut_1 17 rfl) (zby_w zwX7_tryOut_1 18 rfl) (by decide)
theorem d_X7_tryOut_51 : decode cX7_tryOut 51 = .ok (.invokevirtual 38, 3) := zo_182 (a := 0) (b := 38) (zby_w zwX7_tryOut_1 19 rfl) (zby_w zwX7_tryOut_1 20 rfl) (zby_w zwX7_tryOut_1 21 rfl) (by decide)
theorem d_X7_tryOut_54 : decode cX7_tryOut 54 = .ok (.istore 5, 2) := zo_54 (a := 5) (zby_w zwX7_tryOut_1 22 rfl) (zby_w zwX7_tryOut_1 23 rfl) (by decide)
theorem d_X7_tryOut_56 : decode cX7_tryOut 56 = .ok (.aload_n 0, 1) := zo_42 (zby_w zwX7_tryOut_1 24 rfl)
theorem d_X7_tryOut_57 : decode cX7_tryOut 57 = .ok (.aload_n 0, 1) := zo_42 (zby_w zwX7_tryOut_1 25 rfl)
theorem d_X7_tryOut_58 : decode cX7_tryOut 58 = .ok (.getfield 12, 3) := zo_180 (a := 0) (b := 12) (zby_w zwX7_tryOut_1 26 rfl) (zby_w zwX7_tryOut_1 27 rfl) (zby_w zwX7_tryOut_1 28 rfl) (by decide)
theorem d_X7_tryOut_61 : decode cX7_tryOut 61 = .ok (.iload 5, 2) := zo_21 (a := 5) (zby_w zwX7_tryOut_1 29 rfl) (zby_w zwX7_tryOut_1 30 rfl) (by decide)
theorem d_X7_tryOut_63 : decode cX7_tryOut 63 = .ok (.invokevirtual 42, 3) := zo_182 (a := 0) (b := 42) (zby_w zwX7_tryOut_1 31 rfl) (zby_w zwX7_tryOut_1 32 rfl) (zby_w zwX7_tryOut_1 33 rfl) (by decide)
theorem d_X7_tryOut_66 : decode cX7_tryOut 66 = .ok (.putfield 22, 3) := zo_181 (a := 0) (b := 22) (zby_w zwX7_tryOut_2 2 rfl) (zby_w zwX7_tryOut_2 3 rfl) (zby_w zwX7_tryOut_2 4 rfl) (by decide)
theorem d_X7_tryOut_69 : decode cX7_tryOut 69 = .ok (.aload_n 0, 1) := zo_42 (zby_w zwX7_tryOut_2 5 rfl)
theorem d_X7_tryOut_70 : decode cX7_tryOut 70 = .ok (.getfield 22, 3) := zo_180 (a := 0) (b := 22) (zby_w zwX7_tryOut_2 6 rfl) (zby_w zwX7_tryOut_2 7 rfl) (zby_w zwX7_tryOut_2 8 rfl) (by decide)
theorem d_X7_tryOut_73 : decode cX7_tryOut 73 = .ok (.bipush (-6), 2) := zo_16 (a := 250) (zby_w zwX7_tryOut_2 9 rfl) (zby_w zwX7_tryOut_2 10 rfl) (by decide)
theorem d_X7_tryOut_75 : decode cX7_tryOut 75 = .ok (.if_icmp .eq 4, 3) := zo_159 (a := 0) (b := 4) (zby_w zwX7_tryOut_2 11 rfl) (zby_w zwX7_tryOut_2 12 rfl) (zby_w zwX7_tryOut_2 13 rfl) (by decide)
theorem d_X7_tryOut_78 : decode cX7_tryOut 78 = .ok (.return_, 1) := zo_177 (zby_w zwX7_tryOut_2 14 rfl)
theorem d_X7_tryOut_79 : decode cX7_tryOut 79 = .ok (.iinc 4 1, 3) := by decide +kernel
theorem d_X7_tryOut_82 : decode cX7_tryOut 82 = .ok (.aload_n 0, 1) := zo_42 (zby_w zwX7_tryOut_2 18 rfl)
theorem d_X7_tryOut_83 : decode cX7_tryOut 83 = .ok (.getfield 12, 3) := zo_180 (a := 0) (b := 12) (zby_w zwX7_tryOut_2 19 rfl) (zby_w zwX7_tryOut_2 20 rfl) (zby_w zwX7_tryOut_2 21 rfl) (by decide)
theorem d_X7_tryOut_86 : decode cX7_tryOut 86 = .ok (.iload 5, 2) := zo_21 (a := 5) (zby_w zwX7_tryOut_2 22 rfl) (zby_w zwX7_tryOut_2 23 rfl) (by decide)
theorem d_X7_tryOut_88 : decode cX7_tryOut 88 = .ok (.aload_n 1, 1) := zo_43 (zby_w zwX7_tryOut_2 24 rfl)
theorem d_X7_tryOut_89 : decode cX7_tryOut 89 = .ok (.iload 4, 2) := zo_21 (a := 4) (zby_w zwX7_tryOut_2 25 rfl) (zby_w zwX7_tryOut_2 26 rfl) (by decide)
theorem d_X7_tryOut_91 : decode cX7_tryOut 91 = .ok (.invokevirtual 45, 3) := zo_182 (a := 0) (b := 45) (zby_w zwX7_tryOut_2 27 rfl) (zby_w zwX7_tryOut_2 28 rfl) (zby_w zwX7_tryOut_2 29 rfl) (by decide)
theorem d_X7_tryOut_94 : decode cX7_tryOut 94 = .ok (.iload_n 3, 1) := zo_29 (zby_w zwX7_tryOut_2 30 rfl)
theorem d_X7_tryOut_95 : decode cX7_tryOut 95 = .ok (.invokevirtual 48, 3) := zo_182 (a := 0) (b := 48) (zby_w zwX7_tryOut_2 31 rfl) (zby_w zwX7_tryOut_2 32 rfl) (zby_w zwX7_tryOut_2 33 rfl) (by decide)
theorem d_X7_tryOut_98 : decode cX7_tryOut 98 = .ok (.aload_n 0, 1) := zo_42 (zby_w zwX7_tryOut_3 2 rfl)
theorem d_X7_tryOut_99 : decode cX7_tryOut 99 = .ok (.dup, 1) := zo_89 (zby_w zwX7_tryOut_3 3 rfl)
theorem d_X7_tryOut_100 : decode cX7_tryOut 100 = .ok (.getfield 18, 3) := zo_180 (a := 0) (b := 18) (zby_w zwX7_tryOut_3 4 rfl) (zby_w zwX7_tryOut_3 5 rfl) (zby_w zwX7_tryOut_3 6 rfl) (by decide)
theorem d_X7_tryOut_103 : decode cX7_tryOut 103 = .ok (.iconst 1, 1) := zo_4 (zby_w zwX7_tryOut_3 7 rfl)
theorem d_X7_tryOut_104 : decode cX7_tryOut 104 = .ok (.iadd, 1) := zo_96 (zby_w zwX7_tryOut_3 8 rfl)
theorem d_X7_tryOut_105 : decode cX7_tryOut 105 = .ok (.putfield 18, 3) := zo_181 (a := 0) (b := 18) (zby_w zwX7_tryOut_3 9 rfl) (zby_w zwX7_tryOut_3 10 rfl) (zby_w zwX7_tryOut_3 11 rfl) (by decide)
theorem d_X7_tryOut_108 : decode cX7_tryOut 108 = .ok (.iinc 4 1, 3) := by decide +kernel
theorem d_X7_tryOut_111 : decode cX7_tryOut 111 = .ok (.goto (-87), 3) := zo_167 (a := 255) (b := 169) (zby_w zwX7_tryOut_3 15 rfl) (zby_w zwX7_tryOut_3 16 rfl) (zby_w zwX7_tryOut_3 17 rfl) (by decide)
theorem d_X7_tryOut_114 : decode cX7_tryOut 114 = .ok (.return_, 1) := zo_177 (zby_w zwX7_tryOut_3 18 rfl)
theorem d_X8_aboard_0 : decode cX8_aboard 0 = .ok (.iload_n 1, 1) := zo_27 (zby_w zwX8_aboard_0 0 rfl)
theorem d_X8_aboard_1 : decode cX8_aboard 1 = .ok (.iconst 0, 1) := zo_3 (zby_w zwX8_aboard_0 1 rfl)
theorem d_X8_aboard_2 : decode cX8_aboard 2 = .ok (.bipush 7, 2) := zo_16 (a := 7) (zby_w zwX8_aboard_0 2 rfl) (zby_w zwX8_aboard_0 3 rfl) (by decide)
theorem d_X8_aboard_4 : decode cX8_aboard 4 = .ok (.invokestatic 47, 3) := zo_184 (a := 0) (b := 47) (zby_w zwX8_aboard_0 4 rfl) (zby_w zwX8_aboard_0 5 rfl) (zby_w zwX8_aboard_0 6 rfl) (by decide)
theorem d_X8_aboard_7 : decode cX8_aboard 7 = .ok (.ifCond .ne 5, 3) := zo_154 (a := 0) (b := 5) (zby_w zwX8_aboard_0 7 rfl) (zby_w zwX8_aboard_0 8 rfl) (zby_w zwX8_aboard_0 9 rfl) (by decide)
theorem d_X8_aboard_10 : decode cX8_aboard 10 = .ok (.iconst (-1), 1) := zo_2 (zby_w zwX8_aboard_0 10 rfl)
theorem d_X8_aboard_11 : decode cX8_aboard 11 = .ok (.ireturn, 1) := zo_172 (zby_w zwX8_aboard_0 11 rfl)
theorem d_X8_aboard_12 : decode cX8_aboard 12 = .ok (.iload_n 2, 1) := zo_28 (zby_w zwX8_aboard_0 12 rfl)
theorem d_X8_aboard_13 : decode cX8_aboard 13 = .ok (.iconst 0, 1) := zo_3 (zby_w zwX8_aboard_0 13 rfl)
theorem d_X8_aboard_14 : decode cX8_aboard 14 = .ok (.bipush 9, 2) := zo_16 (a := 9) (zby_w zwX8_aboard_0 14 rfl) (zby_w zwX8_aboard_0 15 rfl) (by decide)
theorem d_X8_aboard_16 : decode cX8_aboard 16 = .ok (.invokestatic 47, 3) := zo_184 (a := 0) (b := 47) (zby_w zwX8_aboard_0 16 rfl) (zby_w zwX8_aboard_0 17 rfl) (zby_w zwX8_aboard_0 18 rfl) (by decide)
theorem d_X8_aboard_19 : decode cX8_aboard 19 = .ok (.ifCond .ne 6, 3) := zo_154 (a := 0) (b := 6) (zby_w zwX8_aboard_0 19 rfl) (zby_w zwX8_aboard_0 20 rfl) (zby_w zwX8_aboard_0 21 rfl) (by decide)
theorem d_X8_aboard_22 : decode cX8_aboard 22 = .ok (.bipush (-2), 2) := zo_16 (a := 254) (zby_w zwX8_aboard_0 22 rfl) (zby_w zwX8_aboard_0 23 rfl) (by decide)
theorem d_X8_aboard_24 : decode cX8_aboard 24 = .ok (.ireturn, 1) := zo_172 (zby_w zwX8_aboard_0 24 rfl)
theorem d_X8_aboard_25 : decode cX8_aboard 25 = .ok (.aload_n 0, 1) := zo_42 (zby_w zwX8_aboard_0 25 rfl)
theorem d_X8_aboard_26 : decode cX8_aboard 26 = .ok (.getfield 10, 3) := zo_180 (a := 0) (b := 10) (zby_w zwX8_aboard_0 26 rfl) (zby_w zwX8_aboard_0 27 rfl) (zby_w zwX8_aboard_0 28 rfl) (by decide)
theorem d_X8_aboard_29 : decode cX8_aboard 29 = .ok (.getfield 228, 3) := zo_180 (a := 0) (b := 228) (zby_w zwX8_aboard_0 29 rfl) (zby_w zwX8_aboard_0 30 rfl) (zby_w zwX8_aboard_0 31 rfl) (by decide)
theorem d_X8_aboard_32 : decode cX8_aboard 32 = .ok (.dup, 1) := zo_89 (zby_w zwX8_aboard_1 0 rfl)
theorem d_X8_aboard_33 : decode cX8_aboard 33 = .ok (.getfield 232, 3) := zo_180 (a := 0) (b := 232) (zby_w zwX8_aboard_1 1 rfl) (zby_w zwX8_aboard_1 2 rfl) (zby_w zwX8_aboard_1 3 rfl) (by decide)
theorem d_X8_aboard_36 : decode cX8_aboard 36 = .ok (.iconst 1, 1) := zo_4 (zby_w zwX8_aboard_1 4 rfl)
theorem d_X8_aboard_37 : decode cX8_aboard 37 = .ok (.iload_n 1, 1) := zo_27 (zby_w zwX8_aboard_1 5 rfl)
theorem d_X8_aboard_38 : decode cX8_aboard 38 = .ok (.ishl, 1) := zo_120 (zby_w zwX8_aboard_1 6 rfl)
theorem d_X8_aboard_39 : decode cX8_aboard 39 = .ok (.ior, 1) := zo_128 (zby_w zwX8_aboard_1 7 rfl)
theorem d_X8_aboard_40 : decode cX8_aboard 40 = .ok (.putfield 232, 3) := zo_181 (a := 0) (b := 232) (zby_w zwX8_aboard_1 8 rfl) (zby_w zwX8_aboard_1 9 rfl) (zby_w zwX8_aboard_1 10 rfl) (by decide)
theorem d_X8_aboard_43 : decode cX8_aboard 43 = .ok (.aload_n 0, 1) := zo_42 (zby_w zwX8_aboard_1 11 rfl)
theorem d_X8_aboard_44 : decode cX8_aboard 44 = .ok (.getfield 10, 3) := zo_180 (a := 0) (b := 10) (zby_w zwX8_aboard_1 12 rfl) (zby_w zwX8_aboard_1 13 rfl) (zby_w zwX8_aboard_1 14 rfl) (by decide)
theorem d_X8_aboard_47 : decode cX8_aboard 47 = .ok (.getfield 228, 3) := zo_180 (a := 0) (b := 228) (zby_w zwX8_aboard_1 15 rfl) (zby_w zwX8_aboard_1 16 rfl) (zby_w zwX8_aboard_1 17 rfl) (by decide)
theorem d_X8_aboard_50 : decode cX8_aboard 50 = .ok (.getfield 235, 3) := zo_180 (a := 0) (b := 235) (zby_w zwX8_aboard_1 18 rfl) (zby_w zwX8_aboard_1 19 rfl) (zby_w zwX8_aboard_1 20 rfl) (by decide)
theorem d_X8_aboard_53 : decode cX8_aboard 53 = .ok (.iload_n 1, 1) := zo_27 (zby_w zwX8_aboard_1 21 rfl)
theorem d_X8_aboard_54 : decode cX8_aboard 54 = .ok (.iload_n 2, 1) := zo_28 (zby_w zwX8_aboard_1 22 rfl)
theorem d_X8_aboard_55 : decode cX8_aboard 55 = .ok (.iastore, 1) := zo_79 (zby_w zwX8_aboard_1 23 rfl)
theorem d_X8_aboard_56 : decode cX8_aboard 56 = .ok (.aload_n 0, 1) := zo_42 (zby_w zwX8_aboard_1 24 rfl)
theorem d_X8_aboard_57 : decode cX8_aboard 57 = .ok (.getfield 10, 3) := zo_180 (a := 0) (b := 10) (zby_w zwX8_aboard_1 25 rfl) (zby_w zwX8_aboard_1 26 rfl) (zby_w zwX8_aboard_1 27 rfl) (by decide)
theorem d_X8_aboard_60 : decode cX8_aboard 60 = .ok (.getfield 228, 3) := zo_180 (a := 0) (b := 228) (zby_w zwX8_aboard_1 28 rfl) (zby_w zwX8_aboard_1 29 rfl) (zby_w zwX8_aboard_1 30 rfl) (by decide)
theorem d_X8_aboard_63 : decode cX8_aboard 63 = .ok (.getfield 232, 3) := zo_180 (a := 0) (b := 232) (zby_w zwX8_aboard_1 31 rfl) (zby_w zwX8_aboard_1 32 rfl) (zby_w zwX8_aboard_1 33 rfl) (by decide)
theorem d_X8_aboard_66 : decode cX8_aboard 66 = .ok (.invokestatic 73, 3) := zo_184 (a := 0) (b := 73) (zby_w zwX8_aboard_2 2 rfl) (zby_w zwX8_aboard_2 3 rfl) (zby_w zwX8_aboard_2 4 rfl) (by decide)
theorem d_X8_aboard_69 : decode cX8_aboard 69 = .ok (.ireturn, 1) := zo_172 (zby_w zwX8_aboard_2 5 rfl)
theorem d_X8_ashore_0 : decode cX8_ashore 0 = .ok (.aload_n 0, 1) := zo_42 (zby_w zwX8_ashore_0 0 rfl)
theorem d_X8_ashore_1 : decode cX8_ashore 1 = .ok (.getfield 10, 3) := zo_180 (a := 0) (b := 10) (zby_w zwX8_ashore_0 1 rfl) (zby_w zwX8_ashore_0 2 rfl) (zby_w zwX8_ashore_0 3 rfl) (by decide)
theorem d_X8_ashore_4 : decode cX8_ashore 4 = .ok (.getfield 228, 3) := zo_180 (a := 0) (b := 228) (zby_w zwX8_ashore_0 4 rfl) (zby_w zwX8_ashore_0 5 rfl) (zby_w zwX8_ashore_0 6 rfl) (by decide)
theorem d_X8_ashore_7 : decode cX8_ashore 7 = .ok (.iload_n 1, 1) := zo_27 (zby_w zwX8_ashore_0 7 rfl)
theorem d_X8_ashore_8 : decode cX8_ashore 8 = .ok (.invokevirtual 238, 3) := zo_182 (a := 0) (b := 238) (zby_w zwX8_ashore_0 8 rfl) (zby_w zwX8_ashore_0 9 rfl) (zby_w zwX8_ashore_0 10 rfl) (by decide)
theorem d_X8_ashore_11 : decode cX8_ashore 11 = .ok (.ifCond .ne 5, 3) := zo_154 (a := 0) (b := 5) (zby_w zwX8_ashore_0 11 rfl) (zby_w zwX8_ashore_0 12 rfl) (zby_w zwX8_ashore_0 13 rfl) (by decide)
theorem d_X8_ashore_14 : decode cX8_ashore 14 = .ok (.iconst (-1), 1) := zo_2 (zby_w zwX8_ashore_0 14 rfl)
theorem d_X8_ashore_15 : decode cX8_ashore 15 = .ok (.ireturn, 1) := zo_172 (zby_w zwX8_ashore_0 15 rfl)
theorem d_X8_ashore_16 : decode cX8_ashore 16 = .ok (.aload_n 0, 1) := zo_42 (zby_w zwX8_ashore_0 16 rfl)
theorem d_X8_ashore_17 : decode cX8_ashore 17 = .ok (.getfield 10, 3) := zo_180 (a := 0) (b := 10) (zby_w zwX8_ashore_0 17 rfl) (zby_w zwX8_ashore_0 18 rfl) (zby_w zwX8_ashore_0 19 rfl) (by decide)
theorem d_X8_ashore_20 : decode cX8_ashore 20 = .ok (.getfield 228, 3) := zo_180 (a := 0) (b := 228) (zby_w zwX8_ashore_0 20 rfl) (zby_w zwX8_ashore_0 21 rfl) (zby_w zwX8_ashore_0 22 rfl) (by decide)
theorem d_X8_ashore_23 : decode cX8_ashore 23 = .ok (.dup, 1) := zo_89 (zby_w zwX8_ashore_0 23 rfl)
theorem d_X8_ashore_24 : decode cX8_ashore 24 = .ok (.getfield 232, 3) := zo_180 (a := 0) (b := 232) (zby_w zwX8_ashore_0 24 rfl) (zby_w zwX8_ashore_0 25 rfl) (zby_w zwX8_ashore_0 26 rfl) (by decide)
theorem d_X8_ashore_27 : decode cX8_ashore 27 = .ok (.iconst 1, 1) := zo_4 (zby_w zwX8_ashore_0 27 rfl)
theorem d_X8_ashore_28 : decode cX8_ashore 28 = .ok (.iload_n 1, 1) := zo_27 (zby_w zwX8_ashore_0 28 rfl)
theorem d_X8_ashore_29 : decode cX8_ashore 29 = .ok (.ishl, 1) := zo_120 (zby_w zwX8_ashore_0 29 rfl)
theorem d_X8_ashore_30 : decode cX8_ashore 30 = .ok (.iconst (-1), 1) := zo_2 (zby_w zwX8_ashore_0 30 rfl)
theorem d_X8_ashore_31 : decode cX8_ashore 31 = .ok (.ixor, 1) := zo_130 (zby_w zwX8_ashore_0 31 rfl)
theorem d_X8_ashore_32 : decode cX8_ashore 32 = .ok (.iand, 1) := zo_126 (zby_w zwX8_ashore_1 0 rfl)
theorem d_X8_ashore_33 : decode cX8_ashore 33 = .ok (.putfield 232, 3) := zo_181 (a := 0) (b := 232) (zby_w zwX8_ashore_1 1 rfl) (zby_w zwX8_ashore_1 2 rfl) (zby_w zwX8_ashore_1 3 rfl) (by decide)
theorem d_X8_ashore_36 : decode cX8_ashore 36 = .ok (.aload_n 0, 1) := zo_42 (zby_w zwX8_ashore_1 4 rfl)
theorem d_X8_ashore_37 : decode cX8_ashore 37 = .ok (.getfield 10, 3) := zo_180 (a := 0) (b := 10) (zby_w zwX8_ashore_1 5 rfl) (zby_w zwX8_ashore_1 6 rfl) (zby_w zwX8_ashore_1 7 rfl) (by decide)
theorem d_X8_ashore_40 : decode cX8_ashore 40 = .ok (.getfield 228, 3) := zo_180 (a := 0) (b := 228) (zby_w zwX8_ashore_1 8 rfl) (zby_w zwX8_ashore_1 9 rfl) (zby_w zwX8_ashore_1 10 rfl) (by decide)
theorem d_X8_ashore_43 : decode cX8_ashore 43 = .ok (.getfield 232, 3) := zo_180 (a := 0) (b := 232) (zby_w zwX8_ashore_1 11 rfl) (zby_w zwX8_ashore_1 12 rfl) (zby_w zwX8_ashore_1 13 rfl) (by decide)
theorem d_X8_ashore_46 : decode cX8_ashore 46 = .ok (.invokestatic 73, 3) := zo_184 (a := 0) (b := 73) (zby_w zwX8_ashore_1 14 rfl) (zby_w zwX8_ashore_1 15 rfl) (zby_w zwX8_ashore_1 16 rfl) (by decide)
theorem d_X8_ashore_49 : decode cX8_ashore 49 = .ok (.ireturn, 1) := zo_172 (zby_w zwX8_ashore_1 17 rfl)
theorem d_X8_behind_0 : decode cX8_behind 0 = .ok (.aload_n 0, 1) := zo_42 (zby_w zwX8_behind_0 0 rfl)
theorem d_X8_behind_1 : decode cX8_behind 1 = .ok (.getfield 10, 3) := zo_180 (a := 0) (b := 10) (zby_w zwX8_behind_0 1 rfl) (zby_w zwX8_behind_0 2 rfl) (zby_w zwX8_behind_0 3 rfl) (by decide)
theorem d_X8_behind_4 : decode cX8_behind 4 = .ok (.getfield 51, 3) := zo_180 (a := 0) (b := 51) (zby_w zwX8_behind_0 4 rfl) (zby_w zwX8_behind_0 5 rfl) (zby_w zwX8_behind_0 6 rfl) (by decide)
theorem d_X8_behind_7 : decode cX8_behind 7 = .ok (.iload_n 1, 1) := zo_27 (zby_w zwX8_behind_0 7 rfl)
theorem d_X8_behind_8 : decode cX8_behind 8 = .ok (.invokevirtual 79, 3) := zo_182 (a := 0) (b := 79) (zby_w zwX8_behind_0 8 rfl) (zby_w zwX8_behind_0 9 rfl) (zby_w zwX8_behind_0 10 rfl) (by decide)
theorem d_X8_behind_11 : decode cX8_behind 11 = .ok (.ifCond .ne 5, 3) := zo_154 (a := 0) (b := 5) (zby_w zwX8_behind_0 11 rfl) (zby_w zwX8_behind_0 12 rfl) (zby_w zwX8_behind_0 13 rfl) (by decide)
theorem d_X8_behind_14 : decode cX8_behind 14 = .ok (.iconst (-1), 1) := zo_2 (zby_w zwX8_behind_0 14 rfl)
theorem d_X8_behind_15 : decode cX8_behind 15 = .ok (.ireturn, 1) := zo_172 (zby_w zwX8_behind_0 15 rfl)
theorem d_X8_behind_16 : decode cX8_behind 16 = .ok (.iload_n 2, 1) := zo_28 (zby_w zwX8_behind_0 16 rfl)
theorem d_X8_behind_17 : decode cX8_behind 17 = .ok (.iconst 0, 1) := zo_3 (zby_w zwX8_behind_0 17 rfl)
theorem d_X8_behind_18 : decode cX8_behind 18 = .ok (.iconst 2, 1) := zo_5 (zby_w zwX8_behind_0 18 rfl)
theorem d_X8_behind_19 : decode cX8_behind 19 = .ok (.invokestatic 47, 3) := zo_184 (a := 0) (b := 47) (zby_w zwX8_behind_0 19 rfl) (zby_w zwX8_behind_0 20 rfl) (zby_w zwX8_behind_0 21 rfl) (by decide)
theorem d_X8_behind_22 : decode cX8_behind 22 = .ok (.ifCond .ne 6, 3) := zo_154 (a := 0) (b := 6) (zby_w zwX8_behind_0 22 rfl) (zby_w zwX8_behind_0 23 rfl) (zby_w zwX8_behind_0 24 rfl) (by decide)
theorem d_X8_behind_25 : decode cX8_behind 25 = .ok (.bipush (-2), 2) := zo_16 (a := 254) (zby_w zwX8_behind_0 25 rfl) (zby_w zwX8_behind_0 26 rfl) (by decide)
theorem d_X8_behind_27 : decode cX8_behind 27 = .ok (.ireturn, 1) := zo_172 (zby_w zwX8_behind_0 27 rfl)
theorem d_X8_behind_28 : decode cX8_behind 28 = .ok (.aload_n 0, 1) := zo_42 (zby_w zwX8_behind_0 28 rfl)
theorem d_X8_behind_29 : decode cX8_behind 29 = .ok (.invokevirtual 133, 3) := zo_182 (a := 0) (b := 133) (zby_w zwX8_behind_0 29 rfl) (zby_w zwX8_behind_0 30 rfl) (zby_w zwX8_behind_0 31 rfl) (by decide)
theorem d_X8_behind_32 : decode cX8_behind 32 = .ok (.ifCond .eq 18, 3) := zo_153 (a := 0) (b := 18) (zby_w zwX8_behind_1 0 rfl) (zby_w zwX8_behind_1 1 rfl) (zby_w zwX8_behind_1 2 rfl) (by decide)
theorem d_X8_behind_35 : decode cX8_behind 35 = .ok (.aload_n 0, 1) := zo_42 (zby_w zwX8_behind_1 3 rfl)
theorem d_X8_behind_36 : decode cX8_behind 36 = .ok (.getfield 36, 3) := zo_180 (a := 0) (b := 36) (zby_w zwX8_behind_1 4 rfl) (zby_w zwX8_behind_1 5 rfl) (zby_w zwX8_behind_1 6 rfl) (by decide)
theorem d_X8_behind_39 : decode cX8_behind 39 = .ok (.getfield 137, 3) := zo_180 (a := 0) (b := 137) (zby_w zwX8_behind_1 7 rfl) (zby_w zwX8_behind_1 8 rfl) (zby_w zwX8_behind_1 9 rfl) (by decide)
theorem d_X8_behind_42 : decode cX8_behind 42 = .ok (.iload_n 1, 1) := zo_27 (zby_w zwX8_behind_1 10 rfl)
theorem d_X8_behind_43 : decode cX8_behind 43 = .ok (.iload_n 2, 1) := zo_28 (zby_w zwX8_behind_1 11 rfl)
theorem d_X8_behind_44 : decode cX8_behind 44 = .ok (.invokevirtual 130, 3) := zo_182 (a := 0) (b := 130) (zby_w zwX8_behind_1 12 rfl) (zby_w zwX8_behind_1 13 rfl) (zby_w zwX8_behind_1 14 rfl) (by decide)
theorem d_X8_behind_47 : decode cX8_behind 47 = .ok (.goto 5, 3) := zo_167 (a := 0) (b := 5) (zby_w zwX8_behind_1 15 rfl) (zby_w zwX8_behind_1 16 rfl) (zby_w zwX8_behind_1 17 rfl) (by decide)
theorem d_X8_behind_50 : decode cX8_behind 50 = .ok (.bipush (-5), 2) := zo_16 (a := 251) (zby_w zwX8_behind_1 18 rfl) (zby_w zwX8_behind_1 19 rfl) (by decide)
theorem d_X8_behind_52 : decode cX8_behind 52 = .ok (.ireturn, 1) := zo_172 (zby_w zwX8_behind_1 20 rfl)
theorem d_X8_bound_0 : decode cX8_bound 0 = .ok (.iload_n 3, 1) := zo_29 (zby_w zwX8_bound_0 0 rfl)
theorem d_X8_bound_1 : decode cX8_bound 1 = .ok (.iconst (-1), 1) := zo_2 (zby_w zwX8_bound_0 1 rfl)
theorem d_X8_bound_2 : decode cX8_bound 2 = .ok (.if_icmp .eq 19, 3) := zo_159 (a := 0) (b := 19) (zby_w zwX8_bound_0 2 rfl) (zby_w zwX8_bound_0 3 rfl) (zby_w zwX8_bound_0 4 rfl) (by decide)
theorem d_X8_bound_5 : decode cX8_bound 5 = .ok (.aload_n 0, 1) := zo_42 (zby_w zwX8_bound_0 5 rfl)
theorem d_X8_bound_6 : decode cX8_bound 6 = .ok (.getfield 10, 3) := zo_180 (a := 0) (b := 10) (zby_w zwX8_bound_0 6 rfl) (zby_w zwX8_bound_0 7 rfl) (zby_w zwX8_bound_0 8 rfl) (by decide)
theorem d_X8_bound_9 : decode cX8_bound 9 = .ok (.getfield 51, 3) := zo_180 (a := 0) (b := 51) (zby_w zwX8_bound_0 9 rfl) (zby_w zwX8_bound_0 10 rfl) (zby_w zwX8_bound_0 11 rfl) (by decide)
theorem d_X8_bound_12 : decode cX8_bound 12 = .ok (.iload_n 3, 1) := zo_29 (zby_w zwX8_bound_0 12 rfl)
theorem d_X8_bound_13 : decode cX8_bound 13 = .ok (.invokevirtual 164, 3) := zo_182 (a := 0) (b := 164) (zby_w zwX8_bound_0 13 rfl) (zby_w zwX8_bound_0 14 rfl) (zby_w zwX8_bound_0 15 rfl) (by decide)
theorem d_X8_bound_16 : decode cX8_bound 16 = .ok (.ifCond .ne 5, 3) := zo_154 (a := 0) (b := 5) (zby_w zwX8_bound_0 16 rfl) (zby_w zwX8_bound_0 17 rfl) (zby_w zwX8_bound_0 18 rfl) (by decide)
theorem d_X8_bound_19 : decode cX8_bound 19 = .ok (.iconst (-1), 1) := zo_2 (zby_w zwX8_bound_0 19 rfl)
theorem d_X8_bound_20 : decode cX8_bound 20 = .ok (.ireturn, 1) := zo_172 (zby_w zwX8_bound_0 20 rfl)
theorem d_X8_bound_21 : decode cX8_bound 21 = .ok (.iload_n 1, 1) := zo_27 (zby_w zwX8_bound_0 21 rfl)
theorem d_X8_bound_22 : decode cX8_bound 22 = .ok (.invokestatic 145, 3) := zo_184 (a := 0) (b := 145) (zby_w zwX8_bound_0 22 rfl) (zby_w zwX8_bound_0 23 rfl) (zby_w zwX8_bound_0 24 rfl) (by decide)
theorem d_X8_bound_25 : decode cX8_bound 25 = .ok (.ifCond .eq 13, 3) := zo_153 (a := 0) (b := 13) (zby_w zwX8_bound_0 25 rfl) (zby_w zwX8_bound_0 26 rfl) (zby_w zwX8_bound_0 27 rfl) (by decide)
theorem d_X8_bound_28 : decode cX8_bound 28 = .ok (.iload_n 2, 1) := zo_28 (zby_w zwX8_bound_0 28 rfl)
theorem d_X8_bound_29 : decode cX8_bound 29 = .ok (.iconst 0, 1) := zo_3 (zby_w zwX8_bound_0 29 rfl)
theorem d_X8_bound_30 : decode cX8_bound 30 = .ok (.ldc 167, 2) := zo_18 (a := 167) (zby_w zwX8_bound_0 30 rfl) (zby_w zwX8_bound_0 31 rfl) (by decide)
theorem d_X8_bound_32 : decode cX8_bound 32 = .ok (.invokestatic 47, 3) := zo_184 (a := 0) (b := 47) (zby_w zwX8_bound_1 0 rfl) (zby_w zwX8_bound_1 1 rfl) (zby_w zwX8_bound_1 2 rfl) (by decide)
theorem d_X8_bound_35 : decode cX8_bound 35 = .ok (.ifCond .ne 6, 3) := zo_154 (a := 0) (b := 6) (zby_w zwX8_bound_1 3 rfl) (zby_w zwX8_bound_1 4 rfl) (zby_w zwX8_bound_1 5 rfl) (by decide)
theorem d_X8_bound_38 : decode cX8_bound 38 = .ok (.bipush (-2), 2) := zo_16 (a := 254) (zby_w zwX8_bound_1 6 rfl) (zby_w zwX8_bound_1 7 rfl) (by decide)
theorem d_X8_bound_40 : decode cX8_bound 40 = .ok (.ireturn, 1) := zo_172 (zby_w zwX8_bound_1 8 rfl)
theorem d_X8_bound_41 : decode cX8_bound 41 = .ok (.aload_n 0, 1) := zo_42 (zby_w zwX8_bound_1 9 rfl)
theorem d_X8_bound_42 : decode cX8_bound 42 = .ok (.getfield 43, 3) := zo_180 (a := 0) (b := 43) (zby_w zwX8_bound_1 10 rfl) (zby_w zwX8_bound_1 11 rfl) (zby_w zwX8_bound_1 12 rfl) (by decide)
theorem d_X8_bound_45 : decode cX8_bound 45 = .ok (.aload_n 0, 1) := zo_42 (zby_w zwX8_bound_1 13 rfl)
theorem d_X8_bound_46 : decode cX8_bound 46 = .ok (.getfield 10, 3) := zo_180 (a := 0) (b := 10) (zby_w zwX8_bound_1 14 rfl) (zby_w zwX8_bound_1 15 rfl) (zby_w zwX8_bound_1 16 rfl) (by decide)
theorem d_X8_bound_49 : decode cX8_bound 49 = .ok (.getfield 51, 3) := zo_180 (a := 0) (b := 51) (zby_w zwX8_bound_1 17 rfl) (zby_w zwX8_bound_1 18 rfl) (zby_w zwX8_bound_1 19 rfl) (by decide)
theorem d_X8_bound_52 : decode cX8_bound 52 = .ok (.iload_n 1, 1) := zo_27 (zby_w zwX8_bound_1 20 rfl)
theorem d_X8_bound_53 : decode cX8_bound 53 = .ok (.invokevirtual 168, 3) := zo_182 (a := 0) (b := 168) (zby_w zwX8_bound_1 21 rfl) (zby_w zwX8_bound_1 22 rfl) (zby_w zwX8_bound_1 23 rfl) (by decide)
theorem d_X8_bound_56 : decode cX8_bound 56 = .ok (.aload_n 0, 1) := zo_42 (zby_w zwX8_bound_1 24 rfl)
theorem d_X8_bound_57 : decode cX8_bound 57 = .ok (.getfield 43, 3) := zo_180 (a := 0) (b := 43) (zby_w zwX8_bound_1 25 rfl) (zby_w zwX8_bound_1 26 rfl) (zby_w zwX8_bound_1 27 rfl) (by decide)
theorem d_X8_bound_60 : decode cX8_bound 60 = .ok (.iload_n 2, 1) := zo_28 (zby_w zwX8_bound_1 28 rfl)
theorem d_X8_bound_61 : decode cX8_bound 61 = .ok (.invokevirtual 172, 3) := zo_182 (a := 0) (b := 172) (zby_w zwX8_bound_1 29 rfl) (zby_w zwX8_bound_1 30 rfl) (zby_w zwX8_bound_1 31 rfl) (by decide)
theorem d_X8_bound_64 : decode cX8_bound 64 = .ok (.istore 4, 2) := zo_54 (a := 4) (zby_w zwX8_bound_2 0 rfl) (zby_w zwX8_bound_2 1 rfl) (by decide)
theorem d_X8_bound_66 : decode cX8_bound 66 = .ok (.iload 4, 2) := zo_21 (a := 4) (zby_w zwX8_bound_2 2 rfl) (zby_w zwX8_bound_2 3 rfl) (by decide)
theorem d_X8_bound_68 : decode cX8_bound 68 = .ok (.bipush (-6), 2) := zo_16 (a := 250) (zby_w zwX8_bound_2 4 rfl) (zby_w zwX8_bound_2 5 rfl) (by decide)
theorem d_X8_bound_70 : decode cX8_bound 70 = .ok (.if_icmp .ne 6, 3) := zo_160 (a := 0) (b := 6) (zby_w zwX8_bound_2 6 rfl) (zby_w zwX8_bound_2 7 rfl) (zby_w zwX8_bound_2 8 rfl) (by decide)
theorem d_X8_bound_73 : decode cX8_bound 73 = .ok (.bipush (-6), 2) := zo_16 (a := 250) (zby_w zwX8_bound_2 9 rfl) (zby_w zwX8_bound_2 10 rfl) (by decide)
theorem d_X8_bound_75 : decode cX8_bound 75 = .ok (.ireturn, 1) := zo_172 (zby_w zwX8_bound_2 11 rfl)
theorem d_X8_bound_76 : decode cX8_bound 76 = .ok (.iload_n 3, 1) := zo_29 (zby_w zwX8_bound_2 12 rfl)
theorem d_X8_bound_77 : decode cX8_bound 77 = .ok (.iconst (-1), 1) := zo_2 (zby_w zwX8_bound_2 13 rfl)
theorem d_X8_bound_78 : decode cX8_bound 78 = .ok (.if_icmp .ne 15, 3) := zo_160 (a := 0) (b := 15) (zby_w zwX8_bound_2 14 rfl) (zby_w zwX8_bound_2 15 rfl) (zby_w zwX8_bound_2 16 rfl) (by decide)
theorem d_X8_bound_81 : decode cX8_bound 81 = .ok (.aload_n 0, 1) := zo_42 (zby_w zwX8_bound_2 17 rfl)
theorem d_X8_bound_82 : decode cX8_bound 82 = .ok (.getfield 43, 3) := zo_180 (a := 0) (b := 43) (zby_w zwX8_bound_2 18 rfl) (zby_w zwX8_bound_2 19 rfl) (zby_w zwX8_bound_2 20 rfl) (by decide)
theorem d_X8_bound_85 : decode cX8_bound 85 = .ok (.iload 4, 2) := zo_21 (a := 4) (zby_w zwX8_bound_2 21 rfl) (zby_w zwX8_bound_2 22 rfl) (by decide)
theorem d_X8_bound_87 : decode cX8_bound 87 = .ok (.invokevirtual 175, 3) := zo_182 (a := 0) (b := 175) (zby_w zwX8_bound_2 23 rfl) (zby_w zwX8_bound_2 24 rfl) (zby_w zwX8_bound_2 25 rfl) (by decide)
theorem d_X8_bound_90 : decode cX8_bound 90 = .ok (.goto 13, 3) := zo_167 (a := 0) (b := 13) (zby_w zwX8_bound_2 26 rfl) (zby_w zwX8_bound_2 27 rfl) (zby_w zwX8_bound_2 28 rfl) (by decide)
theorem d_X8_bound_93 : decode cX8_bound 93 = .ok (.aload_n 0, 1) := zo_42 (zby_w zwX8_bound_2 29 rfl)
theorem d_X8_bound_94 : decode cX8_bound 94 = .ok (.getfield 43, 3) := zo_180 (a := 0) (b := 43) (zby_w zwX8_bound_2 30 rfl) (zby_w zwX8_bound_2 31 rfl) (zby_w zwX8_bound_2 32 rfl) (by decide)
theorem d_X8_bound_97 : decode cX8_bound 97 = .ok (.iload 4, 2) := zo_21 (a := 4) (zby_w zwX8_bound_3 1 rfl) (zby_w zwX8_bound_3 2 rfl) (by decide)
theorem d_X8_bound_99 : decode cX8_bound 99 = .ok (.iload_n 3, 1) := zo_29 (zby_w zwX8_bound_3 3 rfl)
theorem d_X8_bound_100 : decode cX8_bound 100 = .ok (.invokevirtual 178, 3) := zo_182 (a := 0) (b := 178) (zby_w zwX8_bound_3 4 rfl) (zby_w zwX8_bound_3 5 rfl) (zby_w zwX8_bound_3 6 rfl) (by decide)
theorem d_X8_bound_103 : decode cX8_bound 103 = .ok (.ireturn, 1) := zo_172 (zby_w zwX8_bound_3 7 rfl)
theorem d_X8_burnt_0 : decode cX8_burnt 0 = .ok (.aload_n 0, 1) := zo_42 (zby_w zwX8_burnt_0 0 rfl)
theorem d_X8_burnt_1 : decode cX8_burnt 1 = .ok (.getfield 10, 3) := zo_180 (a := 0) (b := 10) (zby_w zwX8_burnt_0 1 rfl) (zby_w zwX8_burnt_0 2 rfl) (zby_w zwX8_burnt_0 3 rfl) (by decide)
theorem d_X8_burnt_4 : decode cX8_burnt 4 = .ok (.getfield 257, 3) := zo_180 (a := 1) (b := 1) (zby_w zwX8_burnt_0 4 rfl) (zby_w zwX8_burnt_0 5 rfl) (zby_w zwX8_burnt_0 6 rfl) (by decide)
theorem d_X8_burnt_7 : decode cX8_burnt 7 = .ok (.astore_n 1, 1) := zo_76 (zby_w zwX8_burnt_0 7 rfl)
theorem d_X8_burnt_8 : decode cX8_burnt 8 = .ok (.lconst 1, 1) := zo_10 (zby_w zwX8_burnt_0 8 rfl)
theorem d_X8_burnt_9 : decode cX8_burnt 9 = .ok (.lstore_n 2, 1) := zo_65 (zby_w zwX8_burnt_0 9 rfl)
theorem d_X8_burnt_10 : decode cX8_burnt 10 = .ok (.iconst 0, 1) := zo_3 (zby_w zwX8_burnt_0 10 rfl)
theorem d_X8_burnt_11 : decode cX8_burnt 11 = .ok (.istore 4, 2) := zo_54 (a := 4) (zby_w zwX8_burnt_0 11 rfl) (zby_w zwX8_burnt_0 12 rfl) (by decide)
theorem d_X8_burnt_13 : decode cX8_burnt 13 = .ok (.iload 4, 2) := zo_21 (a := 4) (zby_w zwX8_burnt_0 13 rfl) (zby_w zwX8_burnt_0 14 rfl) (by decide)
theorem d_X8_burnt_15 : decode cX8_burnt 15 = .ok (.aload_n 1, 1) := zo_43 (zby_w zwX8_burnt_0 15 rfl)
theorem d_X8_burnt_16 : decode cX8_burnt 16 = .ok (.getfield 261, 3) := zo_180 (a := 1) (b := 5) (zby_w zwX8_burnt_0 16 rfl) (zby_w zwX8_burnt_0 17 rfl) (zby_w zwX8_burnt_0 18 rfl) (by decide)
theorem d_X8_burnt_19 : decode cX8_burnt 19 = .ok (.if_icmp .ge 42, 3) := zo_162 (a := 0) (b := 42) (zby_w zwX8_burnt_0 19 rfl) (zby_w zwX8_burnt_0 20 rfl) (zby_w zwX8_burnt_0 21 rfl) (by decide)
theorem d_X8_burnt_22 : decode cX8_burnt 22 = .ok (.iload 4, 2) := zo_21 (a := 4) (zby_w zwX8_burnt_0 22 rfl) (zby_w zwX8_burnt_0 23 rfl) (by decide)
theorem d_X8_burnt_24 : decode cX8_burnt 24 = .ok (.bipush 6, 2) := zo_16 (a := 6) (zby_w zwX8_burnt_0 24 rfl) (zby_w zwX8_burnt_0 25 rfl) (by decide)
theorem d_X8_burnt_26 : decode cX8_burnt 26 = .ok (.if_icmp .ge 35, 3) := zo_162 (a := 0) (b := 35) (zby_w zwX8_burnt_0 26 rfl) (zby_w zwX8_burnt_0 27 rfl) (zby_w zwX8_burnt_0 28 rfl) (by decide)
theorem d_X8_burnt_29 : decode cX8_burnt 29 = .ok (.lload_n 2, 1) := zo_32 (zby_w zwX8_burnt_0 29 rfl)
theorem d_X8_burnt_30 : decode cX8_burnt 30 = .ok (.bipush 8, 2) := zo_16 (a := 8) (zby_w zwX8_burnt_0 30 rfl) (zby_w zwX8_burnt_0 31 rfl) (by decide)
theorem d_X8_burnt_32 : decode cX8_burnt 32 = .ok (.aload_n 1, 1) := zo_43 (zby_w zwX8_burnt_1 0 rfl)
theorem d_X8_burnt_33 : decode cX8_burnt 33 = .ok (.getfield 264, 3) := zo_180 (a := 1) (b := 8) (zby_w zwX8_burnt_1 1 rfl) (zby_w zwX8_burnt_1 2 rfl) (zby_w zwX8_burnt_1 3 rfl) (by decide)
theorem d_X8_burnt_36 : decode cX8_burnt 36 = .ok (.iload 4, 2) := zo_21 (a := 4) (zby_w zwX8_burnt_1 4 rfl) (zby_w zwX8_burnt_1 5 rfl) (by decide)
theorem d_X8_burnt_38 : decode cX8_burnt 38 = .ok (.iaload, 1) := zo_46 (zby_w zwX8_burnt_1 6 rfl)
theorem d_X8_burnt_39 : decode cX8_burnt 39 = .ok (.invokestatic 73, 3) := zo_184 (a := 0) (b := 73) (zby_w zwX8_burnt_1 7 rfl) (zby_w zwX8_burnt_1 8 rfl) (zby_w zwX8_burnt_1 9 rfl) (by decide)
theorem d_X8_burnt_42 : decode cX8_burnt 42 = .ok (.isub, 1) := zo_100 (zby_w zwX8_burnt_1 10 rfl)
theorem d_X8_burnt_43 : decode cX8_burnt 43 = .ok (.aload_n 1, 1) := zo_43 (zby_w zwX8_burnt_1 11 rfl)
theorem d_X8_burnt_44 : decode cX8_burnt 44 = .ok (.getfield 267, 3) := zo_180 (a := 1) (b := 11) (zby_w zwX8_burnt_1 12 rfl) (zby_w zwX8_burnt_1 13 rfl) (zby_w zwX8_burnt_1 14 rfl) (by decide)
theorem d_X8_burnt_47 : decode cX8_burnt 47 = .ok (.iload 4, 2) := zo_21 (a := 4) (zby_w zwX8_burnt_1 15 rfl) (zby_w zwX8_burnt_1 16 rfl) (by decide)
theorem d_X8_burnt_49 : decode cX8_burnt 49 = .ok (.iaload, 1) := zo_46 (zby_w zwX8_burnt_1 17 rfl)
theorem d_X8_burnt_50 : decode cX8_burnt 50 = .ok (.invokestatic 250, 3) := zo_184 (a := 0) (b := 250) (zby_w zwX8_burnt_1 18 rfl) (zby_w zwX8_burnt_1 19 rfl) (zby_w zwX8_burnt_1 20 rfl) (by decide)
theorem d_X8_burnt_53 : decode cX8_burnt 53 = .ok (.lmul, 1) := zo_105 (zby_w zwX8_burnt_1 21 rfl)
theorem d_X8_burnt_54 : decode cX8_burnt 54 = .ok (.lstore_n 2, 1) := zo_65 (zby_w zwX8_burnt_1 22 rfl)
theorem d_X8_burnt_55 : decode cX8_burnt 55 = .ok (.iinc 4 1, 3) := by decide +kernel
theorem d_X8_burnt_58 : decode cX8_burnt 58 = .ok (.goto (-45), 3) := zo_167 (a := 255) (b := 211) (zby_w zwX8_burnt_1 26 rfl) (zby_w zwX8_burnt_1 27 rfl) (zby_w zwX8_burnt_1 28 rfl) (by decide)
theorem d_X8_burnt_61 : decode cX8_burnt 61 = .ok (.lload_n 2, 1) := zo_32 (zby_w zwX8_burnt_1 29 rfl)
theorem d_X8_burnt_62 : decode cX8_burnt 62 = .ok (.lreturn, 1) := zo_173 (zby_w zwX8_burnt_1 30 rfl)
theorem d_X8_captain_0 : decode cX8_captain 0 = .ok (.aload_n 0, 1) := zo_42 (zby_w zwX8_captain_0 0 rfl)
theorem d_X8_captain_1 : decode cX8_captain 1 = .ok (.iload_n 1, 1) := zo_27 (zby_w zwX8_captain_0 1 rfl)
theorem d_X8_captain_2 : decode cX8_captain 2 = .ok (.iload_n 2, 1) := zo_28 (zby_w zwX8_captain_0 2 rfl)
theorem d_X8_captain_3 : decode cX8_captain 3 = .ok (.invokevirtual 155, 3) := zo_182 (a := 0) (b := 155) (zby_w zwX8_captain_0 3 rfl) (zby_w zwX8_captain_0 4 rfl) (zby_w zwX8_captain_0 5 rfl) (by decide)
theorem d_X8_captain_6 : decode cX8_captain 6 = .ok (.istore_n 3, 1) := zo_62 (zby_w zwX8_captain_0 6 rfl)
theorem d_X8_captain_7 : decode cX8_captain 7 = .ok (.iload_n 3, 1) := zo_29 (zby_w zwX8_captain_0 7 rfl)
theorem d_X8_captain_8 : decode cX8_captain 8 = .ok (.ifCond .eq 7, 3) := zo_153 (a := 0) (b := 7) (zby_w zwX8_captain_0 8 rfl) (zby_w zwX8_captain_0 9 rfl) (zby_w zwX8_captain_0 10 rfl) (by decide)
theorem d_X8_captain_11 : decode cX8_captain 11 = .ok (.iload_n 3, 1) := zo_29 (zby_w zwX8_captain_0 11 rfl)
theorem d_X8_captain_12 : decode cX8_captain 12 = .ok (.goto 28, 3) := zo_167 (a := 0) (b := 28) (zby_w zwX8_captain_0 12 rfl) (zby_w zwX8_captain_0 13 rfl) (zby_w zwX8_captain_0 14 rfl) (by decide)
theorem d_X8_captain_15 : decode cX8_captain 15 = .ok (.aload_n 0, 1) := zo_42 (zby_w zwX8_captain_0 15 rfl)
theorem d_X8_captain_16 : decode cX8_captain 16 = .ok (.getfield 10, 3) := zo_180 (a := 0) (b := 10) (zby_w zwX8_captain_0 16 rfl) (zby_w zwX8_captain_0 17 rfl) (zby_w zwX8_captain_0 18 rfl) (by decide)
theorem d_X8_captain_19 : decode cX8_captain 19 = .ok (.getfield 51, 3) := zo_180 (a := 0) (b := 51) (zby_w zwX8_captain_0 19 rfl) (zby_w zwX8_captain_0 20 rfl) (zby_w zwX8_captain_0 21 rfl) (by decide)
theorem d_X8_captain_22 : decode cX8_captain 22 = .ok (.iload_n 1, 1) := zo_27 (zby_w zwX8_captain_0 22 rfl)
theorem d_X8_captain_23 : decode cX8_captain 23 = .ok (.iload_n 2, 1) := zo_28 (zby_w zwX8_captain_0 23 rfl)
theorem d_X8_captain_24 : decode cX8_captain 24 = .ok (.aload_n 0, 1) := zo_42 (zby_w zwX8_captain_0 24 rfl)
theorem d_X8_captain_25 : decode cX8_captain 25 = .ok (.getfield 10, 3) := zo_180 (a := 0) (b := 10) (zby_w zwX8_captain_0 25 rfl) (zby_w zwX8_captain_0 26 rfl) (zby_w zwX8_captain_0 27 rfl) (by decide)
theorem d_X8_captain_28 : decode cX8_captain 28 = .ok (.getfield 51, 3) := zo_180 (a := 0) (b := 51) (zby_w zwX8_captain_0 28 rfl) (zby_w zwX8_captain_0 29 rfl) (zby_w zwX8_captain_0 30 rfl) (by decide)
theorem d_X8_captain_31 : decode cX8_captain 31 = .ok (.getfield 89, 3) := zo_180 (a := 0) (b := 89) (zby_w zwX8_captain_0 31 rfl) (zby_w zwX8_captain_0 32 rfl) (zby_w zwX8_captain_0 33 rfl) (by decide)
theorem d_X8_captain_34 : decode cX8_captain 34 = .ok (.bipush 6, 2) := zo_16 (a := 6) (zby_w zwX8_captain_1 2 rfl) (zby_w zwX8_captain_1 3 rfl) (by decide)
theorem d_X8_captain_36 : decode cX8_captain 36 = .ok (.iaload, 1) := zo_46 (zby_w zwX8_captain_1 4 rfl)
theorem d_X8_captain_37 : decode cX8_captain 37 = .ok (.invokevirtual 193, 3) := zo_182 (a := 0) (b := 193) (zby_w zwX8_captain_1 5 rfl) (zby_w zwX8_captain_1 6 rfl) (zby_w zwX8_captain_1 7 rfl) (by decide)
theorem d_X8_captain_40 : decode cX8_captain 40 = .ok (.ireturn, 1) := zo_172 (zby_w zwX8_captain_1 8 rfl)
theorem d_X8_choice_0 : decode cX8_choice 0 = .ok (.aload_n 0, 1) := zo_42 (zby_w zwX8_choice_0 0 rfl)
theorem d_X8_choice_1 : decode cX8_choice 1 = .ok (.iload_n 1, 1) := zo_27 (zby_w zwX8_choice_0 1 rfl)
theorem d_X8_choice_2 : decode cX8_choice 2 = .ok (.iload_n 2, 1) := zo_28 (zby_w zwX8_choice_0 2 rfl)
theorem d_X8_choice_3 : decode cX8_choice 3 = .ok (.invokevirtual 155, 3) := zo_182 (a := 0) (b := 155) (zby_w zwX8_choice_0 3 rfl) (zby_w zwX8_choice_0 4 rfl) (zby_w zwX8_choice_0 5 rfl) (by decide)
theorem d_X8_choice_6 : decode cX8_choice 6 = .ok (.istore_n 3, 1) := zo_62 (zby_w zwX8_choice_0 6 rfl)
theorem d_X8_choice_7 : decode cX8_choice 7 = .ok (.iload_n 3, 1) := zo_29 (zby_w zwX8_choice_0 7 rfl)
theorem d_X8_choice_8 : decode cX8_choice 8 = .ok (.ifCond .eq 7, 3) := zo_153 (a := 0) (b := 7) (zby_w zwX8_choice_0 8 rfl) (zby_w zwX8_choice_0 9 rfl) (zby_w zwX8_choice_0 10 rfl) (by decide)
theorem d_X8_choice_11 : decode cX8_choice 11 = .ok (.iload_n 3, 1) := zo_29 (zby_w zwX8_choice_0 11 rfl)
theorem d_X8_choice_12 : decode cX8_choice 12 = .ok (.goto 15, 3) := zo_167 (a := 0) (b := 15) (zby_w zwX8_choice_0 12 rfl) (zby_w zwX8_choice_0 13 rfl) (zby_w zwX8_choice_0 14 rfl) (by decide)
theorem d_X8_choice_15 : decode cX8_choice 15 = .ok (.aload_n 0, 1) := zo_42 (zby_w zwX8_choice_0 15 rfl)
theorem d_X8_choice_16 : decode cX8_choice 16 = .ok (.getfield 10, 3) := zo_180 (a := 0) (b := 10) (zby_w zwX8_choice_0 16 rfl) (zby_w zwX8_choice_0 17 rfl) (zby_w zwX8_choice_0 18 rfl) (by decide)
theorem d_X8_choice_19 : decode cX8_choice 19 = .ok (.getfield 51, 3) := zo_180 (a := 0) (b := 51) (zby_w zwX8_choice_0 19 rfl) (zby_w zwX8_choice_0 20 rfl) (zby_w zwX8_choice_0 21 rfl) (by decide)
theorem d_X8_choice_22 : decode cX8_choice 22 = .ok (.iload_n 1, 1) := zo_27 (zby_w zwX8_choice_0 22 rfl)
theorem d_X8_choice_23 : decode cX8_choice 23 = .ok (.iload_n 2, 1) := zo_28 (zby_w zwX8_choice_0 23 rfl)
theorem d_X8_choice_24 : decode cX8_choice 24 = .ok (.invokevirtual 158, 3) := zo_182 (a := 0) (b := 158) (zby_w zwX8_choice_0 24 rfl) (zby_w zwX8_choice_0 25 rfl) (zby_w zwX8_choice_0 26 rfl) (by decide)
theorem d_X8_choice_27 : decode cX8_choice 27 = .ok (.ireturn, 1) := zo_172 (zby_w zwX8_choice_0 27 rfl)
theorem d_X8_commonDivisor_0 : decode cX8_commonDivisor 0 = .ok (.lload_n 0, 1) := zo_30 (zby_w zwX8_commonDivisor_0 0 rfl)
theorem d_X8_commonDivisor_1 : decode cX8_commonDivisor 1 = .ok (.lstore 4, 2) := zo_55 (a := 4) (zby_w zwX8_commonDivisor_0 1 rfl) (zby_w zwX8_commonDivisor_0 2 rfl) (by decide)
theorem d_X8_commonDivisor_3 : decode cX8_commonDivisor 3 = .ok (.lload_n 2, 1) := zo_32 (zby_w zwX8_commonDivisor_0 3 rfl)
theorem d_X8_commonDivisor_4 : decode cX8_commonDivisor 4 = .ok (.lstore 6, 2) := zo_55 (a := 6) (zby_w zwX8_commonDivisor_0 4 rfl) (zby_w zwX8_commonDivisor_0 5 rfl) (by decide)
theorem d_X8_commonDivisor_6 : decode cX8_commonDivisor 6 = .ok (.iconst 0, 1) := zo_3 (zby_w zwX8_commonDivisor_0 6 rfl)
theorem d_X8_commonDivisor_7 : decode cX8_commonDivisor 7 = .ok (.istore 8, 2) := zo_54 (a := 8) (zby_w zwX8_commonDivisor_0 7 rfl) (zby_w zwX8_commonDivisor_0 8 rfl) (by decide)
theorem d_X8_commonDivisor_9 : decode cX8_commonDivisor 9 = .ok (.iload 8, 2) := zo_21 (a := 8) (zby_w zwX8_commonDivisor_0 9 rfl) (zby_w zwX8_commonDivisor_0 10 rfl) (by decide)
theorem d_X8_commonDivisor_11 : decode cX8_commonDivisor 11 = .ok (.sipush 128, 3) := zo_17 (a := 0) (b := 128) (zby_w zwX8_commonDivisor_0 11 rfl) (zby_w zwX8_commonDivisor_0 12 rfl) (zby_w zwX8_commonDivisor_0 13 rfl) (by decide)
theorem d_X8_commonDivisor_14 : decode cX8_commonDivisor 14 = .ok (.if_icmp .ge 31, 3) := zo_162 (a := 0) (b := 31) (zby_w zwX8_commonDivisor_0 14 rfl) (zby_w zwX8_commonDivisor_0 15 rfl) (zby_w zwX8_commonDivisor_0 16 rfl) (by decide)
theorem d_X8_commonDivisor_17 : decode cX8_commonDivisor 17 = .ok (.lload 6, 2) := zo_22 (a := 6) (zby_w zwX8_commonDivisor_0 17 rfl) (zby_w zwX8_commonDivisor_0 18 rfl) (by decide)
theorem d_X8_commonDivisor_19 : decode cX8_commonDivisor 19 = .ok (.lconst 0, 1) := zo_9 (zby_w zwX8_commonDivisor_0 19 rfl)
theorem d_X8_commonDivisor_20 : decode cX8_commonDivisor 20 = .ok (.lcmp, 1) := zo_148 (zby_w zwX8_commonDivisor_0 20 rfl)
theorem d_X8_commonDivisor_21 : decode cX8_commonDivisor 21 = .ok (.ifCond .eq 24, 3) := zo_153 (a := 0) (b := 24) (zby_w zwX8_commonDivisor_0 21 rfl) (zby_w zwX8_commonDivisor_0 22 rfl) (zby_w zwX8_commonDivisor_0 23 rfl) (by decide)
theorem d_X8_commonDivisor_24 : decode cX8_commonDivisor 24 = .ok (.lload 4, 2) := zo_22 (a := 4) (zby_w zwX8_commonDivisor_0 24 rfl) (zby_w zwX8_commonDivisor_0 25 rfl) (by decide)
theorem d_X8_commonDivisor_26 : decode cX8_commonDivisor 26 = .ok (.lload 6, 2) := zo_22 (a := 6) (zby_w zwX8_commonDivisor_0 26 rfl) (zby_w zwX8_commonDivisor_0 27 rfl) (by decide)
theorem d_X8_commonDivisor_28 : decode cX8_commonDivisor 28 = .ok (.lrem, 1) := zo_113 (zby_w zwX8_commonDivisor_0 28 rfl)
theorem d_X8_commonDivisor_29 : decode cX8_commonDivisor 29 = .ok (.lstore 9, 2) := zo_55 (a := 9) (zby_w zwX8_commonDivisor_0 29 rfl) (zby_w zwX8_commonDivisor_0 30 rfl) (by decide)
theorem d_X8_commonDivisor_31 : decode cX8_commonDivisor 31 = .ok (.lload 6, 2) := zo_22 (a := 6) (zby_w zwX8_commonDivisor_0 31 rfl) (zby_w zwX8_commonDivisor_0 32 rfl) (by decide)
theorem d_X8_commonDivisor_33 : decode cX8_commonDivisor 33 = .ok (.lstore 4, 2) := zo_55 (a := 4) (zby_w zwX8_commonDivisor_1 1 rfl) (zby_w zwX8_commonDivisor_1 2 rfl) (by decide)
theorem d_X8_commonDivisor_35 : decode cX8_commonDivisor 35 = .ok (.lload 9, 2) := zo_22 (a := 9) (zby_w zwX8_commonDivisor_1 3 rfl) (zby_w zwX8_commonDivisor_1 4 rfl) (by decide)
theorem d_X8_commonDivisor_37 : decode cX8_commonDivisor 37 = .ok (.lstore 6, 2) := zo_55 (a := 6) (zby_w zwX8_commonDivisor_1 5 rfl) (zby_w zwX8_commonDivisor_1 6 rfl) (by decide)
theorem d_X8_commonDivisor_39 : decode cX8_commonDivisor 39 = .ok (.iinc 8 1, 3) := by decide +kernel
theorem d_X8_commonDivisor_42 : decode cX8_commonDivisor 42 = .ok (.goto (-33), 3) := zo_167 (a := 255) (b := 223) (zby_w zwX8_commonDivisor_1 10 rfl) (zby_w zwX8_commonDivisor_1 11 rfl) (zby_w zwX8_commonDivisor_1 12 rfl) (by decide)
theorem d_X8_commonDivisor_45 : decode cX8_commonDivisor 45 = .ok (.lload 4, 2) := zo_22 (a := 4) (zby_w zwX8_commonDivisor_1 13 rfl) (zby_w zwX8_commonDivisor_1 14 rfl) (by decide)
theorem d_X8_commonDivisor_47 : decode cX8_commonDivisor 47 = .ok (.lreturn, 1) := zo_173 (zby_w zwX8_commonDivisor_1 15 rfl)
theorem d_X8_convoy_0 : decode cX8_convoy 0 = .ok (.iload_n 1, 1) := zo_27 (zby_w zwX8_convoy_0 0 rfl)
theorem d_X8_convoy_1 : decode cX8_convoy 1 = .ok (.invokestatic 145, 3) := zo_184 (a := 0) (b := 145) (zby_w zwX8_convoy_0 1 rfl) (zby_w zwX8_convoy_0 2 rfl) (zby_w zwX8_convoy_0 3 rfl) (by decide)
theorem d_X8_convoy_4 : decode cX8_convoy 4 = .ok (.ifCond .eq 12, 3) := zo_153 (a := 0) (b := 12) (zby_w zwX8_convoy_0 4 rfl) (zby_w zwX8_convoy_0 5 rfl) (zby_w zwX8_convoy_0 6 rfl) (by decide)
theorem d_X8_convoy_7 : decode cX8_convoy 7 = .ok (.iload_n 2, 1) := zo_28 (zby_w zwX8_convoy_0 7 rfl)
theorem d_X8_convoy_8 : decode cX8_convoy 8 = .ok (.iconst 0, 1) := zo_3 (zby_w zwX8_convoy_0 8 rfl)
theorem d_X8_convoy_9 : decode cX8_convoy 9 = .ok (.iconst 1, 1) := zo_4 (zby_w zwX8_convoy_0 9 rfl)
theorem d_X8_convoy_10 : decode cX8_convoy 10 = .ok (.invokestatic 47, 3) := zo_184 (a := 0) (b := 47) (zby_w zwX8_convoy_0 10 rfl) (zby_w zwX8_convoy_0 11 rfl) (zby_w zwX8_convoy_0 12 rfl) (by decide)
theorem d_X8_convoy_13 : decode cX8_convoy 13 = .ok (.ifCond .ne 6, 3) := zo_154 (a := 0) (b := 6) (zby_w zwX8_convoy_0 13 rfl) (zby_w zwX8_convoy_0 14 rfl) (zby_w zwX8_convoy_0 15 rfl) (by decide)
theorem d_X8_convoy_16 : decode cX8_convoy 16 = .ok (.bipush (-2), 2) := zo_16 (a := 254) (zby_w zwX8_convoy_0 16 rfl) (zby_w zwX8_convoy_0 17 rfl) (by decide)
theorem d_X8_convoy_18 : decode cX8_convoy 18 = .ok (.ireturn, 1) := zo_172 (zby_w zwX8_convoy_0 18 rfl)
theorem d_X8_convoy_19 : decode cX8_convoy 19 = .ok (.aload_n 0, 1) := zo_42 (zby_w zwX8_convoy_0 19 rfl)
theorem d_X8_convoy_20 : decode cX8_convoy 20 = .ok (.getfield 43, 3) := zo_180 (a := 0) (b := 43) (zby_w zwX8_convoy_0 20 rfl) (zby_w zwX8_convoy_0 21 rfl) (zby_w zwX8_convoy_0 22 rfl) (by decide)
theorem d_X8_convoy_23 : decode cX8_convoy 23 = .ok (.aload_n 0, 1) := zo_42 (zby_w zwX8_convoy_0 23 rfl)
theorem d_X8_convoy_24 : decode cX8_convoy 24 = .ok (.getfield 10, 3) := zo_180 (a := 0) (b := 10) (zby_w zwX8_convoy_0 24 rfl) (zby_w zwX8_convoy_0 25 rfl) (zby_w zwX8_convoy_0 26 rfl) (by decide)
theorem d_X8_convoy_27 : decode cX8_convoy 27 = .ok (.getfield 51, 3) := zo_180 (a := 0) (b := 51) (zby_w zwX8_convoy_0 27 rfl) (zby_w zwX8_convoy_0 28 rfl) (zby_w zwX8_convoy_0 29 rfl) (by decide)
theorem d_X8_convoy_30 : decode cX8_convoy 30 = .ok (.iload_n 1, 1) := zo_27 (zby_w zwX8_convoy_0 30 rfl)
theorem d_X8_convoy_31 : decode cX8_convoy 31 = .ok (.invokevirtual 168, 3) := zo_182 (a := 0) (b := 168) (zby_w zwX8_convoy_0 31 rfl) (zby_w zwX8_convoy_0 32 rfl) (zby_w zwX8_convoy_0 33 rfl) (by decide)
theorem d_X8_convoy_34 : decode cX8_convoy 34 = .ok (.aload_n 0, 1) := zo_42 (zby_w zwX8_convoy_1 2 rfl)
theorem d_X8_convoy_35 : decode cX8_convoy 35 = .ok (.getfield 43, 3) := zo_180 (a := 0) (b := 43) (zby_w zwX8_convoy_1 3 rfl) (zby_w zwX8_convoy_1 4 rfl) (zby_w zwX8_convoy_1 5 rfl) (by decide)
theorem d_X8_convoy_38 : decode cX8_convoy 38 = .ok (.invokevirtual 187, 3) := zo_182 (a := 0) (b := 187) (zby_w zwX8_convoy_1 6 rfl) (zby_w zwX8_convoy_1 7 rfl) (zby_w zwX8_convoy_1 8 rfl) (by decide)
theorem d_X8_convoy_41 : decode cX8_convoy 41 = .ok (.istore_n 3, 1) := zo_62 (zby_w zwX8_convoy_1 9 rfl)
theorem d_X8_convoy_42 : decode cX8_convoy 42 = .ok (.iload_n 2, 1) := zo_28 (zby_w zwX8_convoy_1 10 rfl)
theorem d_X8_convoy_43 : decode cX8_convoy 43 = .ok (.ifCond .ne 7, 3) := zo_154 (a := 0) (b := 7) (zby_w zwX8_convoy_1 11 rfl) (zby_w zwX8_convoy_1 12 rfl) (zby_w zwX8_convoy_1 13 rfl) (by decide)
theorem d_X8_convoy_46 : decode cX8_convoy 46 = .ok (.iload_n 3, 1) := zo_29 (zby_w zwX8_convoy_1 14 rfl)
theorem d_X8_convoy_47 : decode cX8_convoy 47 = .ok (.goto 11, 3) := zo_167 (a := 0) (b := 11) (zby_w zwX8_convoy_1 15 rfl) (zby_w zwX8_convoy_1 16 rfl) (zby_w zwX8_convoy_1 17 rfl) (by decide)
theorem d_X8_convoy_50 : decode cX8_convoy 50 = .ok (.aload_n 0, 1) := zo_42 (zby_w zwX8_convoy_1 18 rfl)
theorem d_X8_convoy_51 : decode cX8_convoy 51 = .ok (.getfield 43, 3) := zo_180 (a := 0) (b := 43) (zby_w zwX8_convoy_1 19 rfl) (zby_w zwX8_convoy_1 20 rfl) (zby_w zwX8_convoy_1 21 rfl) (by decide)
theorem d_X8_convoy_54 : decode cX8_convoy 54 = .ok (.iload_n 3, 1) := zo_29 (zby_w zwX8_convoy_1 22 rfl)
theorem d_X8_convoy_55 : decode cX8_convoy 55 = .ok (.invokevirtual 190, 3) := zo_182 (a := 0) (b := 190) (zby_w zwX8_convoy_1 23 rfl) (zby_w zwX8_convoy_1 24 rfl) (zby_w zwX8_convoy_1 25 rfl) (by decide)
theorem d_X8_convoy_58 : decode cX8_convoy 58 = .ok (.ireturn, 1) := zo_172 (zby_w zwX8_convoy_1 26 rfl)
theorem d_X8_done_0 : decode cX8_done 0 = .ok (.aload_n 0, 1) := zo_42 (zby_w zwX8_done_0 0 rfl)
theorem d_X8_done_1 : decode cX8_done 1 = .ok (.invokevirtual 133, 3) := zo_182 (a := 0) (b := 133) (zby_w zwX8_done_0 1 rfl) (zby_w zwX8_done_0 2 rfl) (zby_w zwX8_done_0 3 rfl) (by decide)
theorem d_X8_done_4 : decode cX8_done 4 = .ok (.ifCond .ne 6, 3) := zo_154 (a := 0) (b := 6) (zby_w zwX8_done_0 4 rfl) (zby_w zwX8_done_0 5 rfl) (zby_w zwX8_done_0 6 rfl) (by decide)
theorem d_X8_done_7 : decode cX8_done 7 = .ok (.bipush (-5), 2) := zo_16 (a := 251) (zby_w zwX8_done_0 7 rfl) (zby_w zwX8_done_0 8 rfl) (by decide)
theorem d_X8_done_9 : decode cX8_done 9 = .ok (.ireturn, 1) := zo_172 (zby_w zwX8_done_0 9 rfl)
theorem d_X8_done_10 : decode cX8_done 10 = .ok (.aload_n 0, 1) := zo_42 (zby_w zwX8_done_0 10 rfl)
theorem d_X8_done_11 : decode cX8_done 11 = .ok (.getfield 10, 3) := zo_180 (a := 0) (b := 10) (zby_w zwX8_done_0 11 rfl) (zby_w zwX8_done_0 12 rfl) (zby_w zwX8_done_0 13 rfl) (by decide)
theorem d_X8_done_14 : decode cX8_done 14 = .ok (.getfield 51, 3) := zo_180 (a := 0) (b := 51) (zby_w zwX8_done_0 14 rfl) (zby_w zwX8_done_0 15 rfl) (zby_w zwX8_done_0 16 rfl) (by decide)
theorem d_X8_done_17 : decode cX8_done 17 = .ok (.aload_n 0, 1) := zo_42 (zby_w zwX8_done_0 17 rfl)
theorem d_X8_done_18 : decode cX8_done 18 = .ok (.getfield 36, 3) := zo_180 (a := 0) (b := 36) (zby_w zwX8_done_0 18 rfl) (zby_w zwX8_done_0 19 rfl) (zby_w zwX8_done_0 20 rfl) (by decide)
theorem d_X8_done_21 : decode cX8_done 21 = .ok (.getfield 137, 3) := zo_180 (a := 0) (b := 137) (zby_w zwX8_done_0 21 rfl) (zby_w zwX8_done_0 22 rfl) (zby_w zwX8_done_0 23 rfl) (by decide)
theorem d_X8_done_24 : decode cX8_done 24 = .ok (.invokevirtual 138, 3) := zo_182 (a := 0) (b := 138) (zby_w zwX8_done_0 24 rfl) (zby_w zwX8_done_0 25 rfl) (zby_w zwX8_done_0 26 rfl) (by decide)
theorem d_X8_done_27 : decode cX8_done 27 = .ok (.aload_n 0, 1) := zo_42 (zby_w zwX8_done_0 27 rfl)
theorem d_X8_done_28 : decode cX8_done 28 = .ok (.getfield 29, 3) := zo_180 (a := 0) (b := 29) (zby_w zwX8_done_0 28 rfl) (zby_w zwX8_done_0 29 rfl) (zby_w zwX8_done_0 30 rfl) (by decide)
theorem d_X8_done_31 : decode cX8_done 31 = .ok (.invokevirtual 98, 3) := zo_182 (a := 0) (b := 98) (zby_w zwX8_done_0 31 rfl) (zby_w zwX8_done_0 32 rfl) (zby_w zwX8_done_0 33 rfl) (by decide)
theorem d_X8_done_34 : decode cX8_done 34 = .ok (.pop, 1) := zo_87 (zby_w zwX8_done_1 2 rfl)
theorem d_X8_done_35 : decode cX8_done 35 = .ok (.aload_n 0, 1) := zo_42 (zby_w zwX8_done_1 3 rfl)
theorem d_X8_done_36 : decode cX8_done 36 = .ok (.getfield 36, 3) := zo_180 (a := 0) (b := 36) (zby_w zwX8_done_1 4 rfl) (zby_w zwX8_done_1 5 rfl) (zby_w zwX8_done_1 6 rfl) (by decide)
theorem d_X8_done_39 : decode cX8_done 39 = .ok (.getfield 127, 3) := zo_180 (a := 0) (b := 127) (zby_w zwX8_done_1 7 rfl) (zby_w zwX8_done_1 8 rfl) (zby_w zwX8_done_1 9 rfl) (by decide)
theorem d_X8_done_42 : decode cX8_done 42 = .ok (.ireturn, 1) := zo_172 (zby_w zwX8_done_1 10 rfl)
theorem d_X8_drawAfter_0 : decode cX8_drawAfter 0 = .ok (.bipush 75, 2) := zo_16 (a := 75) (zby_w zwX8_drawAfter_0 0 rfl) (zby_w zwX8_drawAfter_0 1 rfl) (by decide)
theorem d_X8_drawAfter_2 : decode cX8_drawAfter 2 = .ok (.iload_n 0, 1) := zo_26 (zby_w zwX8_drawAfter_0 2 rfl)
theorem d_X8_drawAfter_3 : decode cX8_drawAfter 3 = .ok (.imul, 1) := zo_104 (zby_w zwX8_drawAfter_0 3 rfl)
theorem d_X8_drawAfter_4 : decode cX8_drawAfter 4 = .ok (.bipush 74, 2) := zo_16 (a := 74) (zby_w zwX8_drawAfter_0 4 rfl) (zby_w zwX8_drawAfter_0 5 rfl) (by decide)
theorem d_X8_drawAfter_6 : decode cX8_drawAfter 6 = .ok (.iadd, 1) := zo_96 (zby_w zwX8_drawAfter_0 6 rfl)
theorem d_X8_drawAfter_7 : decode cX8_drawAfter 7 = .ok (.ldc_w 287, 3) := zo_19 (a := 1) (b := 31) (zby_w zwX8_drawAfter_0 7 rfl) (zby_w zwX8_drawAfter_0 8 rfl) (zby_w zwX8_drawAfter_0 9 rfl) (by decide)
theorem d_X8_drawAfter_10 : decode cX8_drawAfter 10 = .ok (.irem, 1) := zo_112 (zby_w zwX8_drawAfter_0 10 rfl)
theorem d_X8_drawAfter_11 : decode cX8_drawAfter 11 = .ok (.ireturn, 1) := zo_172 (zby_w zwX8_drawAfter_0 11 rfl)
theorem d_X8_fault_0 : decode cX8_fault 0 = .ok (.iload_n 1, 1) := zo_27 (zby_w zwX8_fault_0 0 rfl)
theorem d_X8_fault_1 : decode cX8_fault 1 = .ok (.iconst 0, 1) := zo_3 (zby_w zwX8_fault_0 1 rfl)
theorem d_X8_fault_2 : decode cX8_fault 2 = .ok (.iconst 1, 1) := zo_4 (zby_w zwX8_fault_0 2 rfl)
theorem d_X8_fault_3 : decode cX8_fault 3 = .ok (.invokestatic 47, 3) := zo_184 (a := 0) (b := 47) (zby_w zwX8_fault_0 3 rfl) (zby_w zwX8_fault_0 4 rfl) (zby_w zwX8_fault_0 5 rfl) (by decide)
theorem d_X8_fault_6 : decode cX8_fault 6 = .ok (.ifCond .ne 6, 3) := zo_154 (a := 0) (b := 6) (zby_w zwX8_fault_0 6 rfl) (zby_w zwX8_fault_0 7 rfl) (zby_w zwX8_fault_0 8 rfl) (by decide)
theorem d_X8_fault_9 : decode cX8_fault 9 = .ok (.bipush (-2), 2) := zo_16 (a := 254) (zby_w zwX8_fault_0 9 rfl) (zby_w zwX8_fault_0 10 rfl) (by decide)
theorem d_X8_fault_11 : decode cX8_fault 11 = .ok (.ireturn, 1) := zo_172 (zby_w zwX8_fault_0 11 rfl)
theorem d_X8_fault_12 : decode cX8_fault 12 = .ok (.iload_n 1, 1) := zo_27 (zby_w zwX8_fault_0 12 rfl)
theorem d_X8_fault_13 : decode cX8_fault 13 = .ok (.ifCond .ne 13, 3) := zo_154 (a := 0) (b := 13) (zby_w zwX8_fault_0 13 rfl) (zby_w zwX8_fault_0 14 rfl) (zby_w zwX8_fault_0 15 rfl) (by decide)
theorem d_X8_fault_16 : decode cX8_fault 16 = .ok (.aload_n 0, 1) := zo_42 (zby_w zwX8_fault_0 16 rfl)
theorem d_X8_fault_17 : decode cX8_fault 17 = .ok (.getfield 29, 3) := zo_180 (a := 0) (b := 29) (zby_w zwX8_fault_0 17 rfl) (zby_w zwX8_fault_0 18 rfl) (zby_w zwX8_fault_0 19 rfl) (by decide)
theorem d_X8_fault_20 : decode cX8_fault 20 = .ok (.invokevirtual 102, 3) := zo_182 (a := 0) (b := 102) (zby_w zwX8_fault_0 20 rfl) (zby_w zwX8_fault_0 21 rfl) (zby_w zwX8_fault_0 22 rfl) (by decide)
theorem d_X8_fault_23 : decode cX8_fault 23 = .ok (.goto 10, 3) := zo_167 (a := 0) (b := 10) (zby_w zwX8_fault_0 23 rfl) (zby_w zwX8_fault_0 24 rfl) (zby_w zwX8_fault_0 25 rfl) (by decide)
theorem d_X8_fault_26 : decode cX8_fault 26 = .ok (.aload_n 0, 1) := zo_42 (zby_w zwX8_fault_0 26 rfl)
theorem d_X8_fault_27 : decode cX8_fault 27 = .ok (.getfield 29, 3) := zo_180 (a := 0) (b := 29) (zby_w zwX8_fault_0 27 rfl) (zby_w zwX8_fault_0 28 rfl) (zby_w zwX8_fault_0 29 rfl) (by decide)
theorem d_X8_fault_30 : decode cX8_fault 30 = .ok (.invokevirtual 105, 3) := zo_182 (a := 0) (b := 105) (zby_w zwX8_fault_0 30 rfl) (zby_w zwX8_fault_0 31 rfl) (zby_w zwX8_fault_0 32 rfl) (by decide)
theorem d_X8_fault_33 : decode cX8_fault 33 = .ok (.ireturn, 1) := zo_172 (zby_w zwX8_fault_1 1 rfl)
theorem d_X8_forget_0 : decode cX8_forget 0 = .ok (.aload_n 0, 1) := zo_42 (zby_w zwX8_forget_0 0 rfl)
theorem d_X8_forget_1 : decode cX8_forget 1 = .ok (.getfield 10, 3) := zo_180 (a := 0) (b := 10) (zby_w zwX8_forget_0 1 rfl) (zby_w zwX8_forget_0 2 rfl) (zby_w zwX8_forget_0 3 rfl) (by decide)
theorem d_X8_forget_4 : decode cX8_forget 4 = .ok (.getfield 257, 3) := zo_180 (a := 1) (b := 1) (zby_w zwX8_forget_0 4 rfl) (zby_w zwX8_forget_0 5 rfl) (zby_w zwX8_forget_0 6 rfl) (by decide)
theorem d_X8_forget_7 : decode cX8_forget 7 = .ok (.getfield 261, 3) := zo_180 (a := 1) (b := 5) (zby_w zwX8_forget_0 7 rfl) (zby_w zwX8_forget_0 8 rfl) (zby_w zwX8_forget_0 9 rfl) (by decide)
theorem d_X8_forget_10 : decode cX8_forget 10 = .ok (.istore_n 1, 1) := zo_60 (zby_w zwX8_forget_0 10 rfl)
theorem d_X8_forget_11 : decode cX8_forget 11 = .ok (.aload_n 0, 1) := zo_42 (zby_w zwX8_forget_0 11 rfl)
theorem d_X8_forget_12 : decode cX8_forget 12 = .ok (.getfield 10, 3) := zo_180 (a := 0) (b := 10) (zby_w zwX8_forget_0 12 rfl) (zby_w zwX8_forget_0 13 rfl) (zby_w zwX8_forget_0 14 rfl) (by decide)
theorem d_X8_forget_15 : decode cX8_forget 15 = .ok (.getfield 257, 3) := zo_180 (a := 1) (b := 1) (zby_w zwX8_forget_0 15 rfl) (zby_w zwX8_forget_0 16 rfl) (zby_w zwX8_forget_0 17 rfl) (by decide)
theorem d_X8_forget_18 : decode cX8_forget 18 = .ok (.iconst 0, 1) := zo_3 (zby_w zwX8_forget_0 18 rfl)
theorem d_X8_forget_19 : decode cX8_forget 19 = .ok (.putfield 261, 3) := zo_181 (a := 1) (b := 5) (zby_w zwX8_forget_0 19 rfl) (zby_w zwX8_forget_0 20 rfl) (zby_w zwX8_forget_0 21 rfl) (by decide)
theorem d_X8_forget_22 : decode cX8_forget 22 = .ok (.iload_n 1, 1) := zo_27 (zby_w zwX8_forget_0 22 rfl)
theorem d_X8_forget_23 : decode cX8_forget 23 = .ok (.ireturn, 1) := zo_172 (zby_w zwX8_forget_0 23 rfl)
theorem d_X8_held_0 : decode cX8_held 0 = .ok (.aload_n 0, 1) := zo_42 (zby_w zwX8_held_0 0 rfl)
theorem d_X8_held_1 : decode cX8_held 1 = .ok (.getfield 10, 3) := zo_180 (a := 0) (b := 10) (zby_w zwX8_held_0 1 rfl) (zby_w zwX8_held_0 2 rfl) (zby_w zwX8_held_0 3 rfl) (by decide)
theorem d_X8_held_4 : decode cX8_held 4 = .ok (.getfield 51, 3) := zo_180 (a := 0) (b := 51) (zby_w zwX8_held_0 4 rfl) (zby_w zwX8_held_0 5 rfl) (zby_w zwX8_held_0 6 rfl) (by decide)
theorem d_X8_held_7 : decode cX8_held 7 = .ok (.astore 4, 2) := zo_58 (a := 4) (zby_w zwX8_held_0 7 rfl) (zby_w zwX8_held_0 8 rfl) (by decide)
theorem d_X8_held_9 : decode cX8_held 9 = .ok (.aload 4, 2) := zo_25 (a := 4) (zby_w zwX8_held_0 9 rfl) (zby_w zwX8_held_0 10 rfl) (by decide)
theorem d_X8_held_11 : decode cX8_held 11 = .ok (.iload_n 1, 1) := zo_27 (zby_w zwX8_held_0 11 rfl)
theorem d_X8_held_12 : decode cX8_held 12 = .ok (.invokevirtual 79, 3) := zo_182 (a := 0) (b := 79) (zby_w zwX8_held_0 12 rfl) (zby_w zwX8_held_0 13 rfl) (zby_w zwX8_held_0 14 rfl) (by decide)
theorem d_X8_held_15 : decode cX8_held 15 = .ok (.ifCond .ne 5, 3) := zo_154 (a := 0) (b := 5) (zby_w zwX8_held_0 15 rfl) (zby_w zwX8_held_0 16 rfl) (zby_w zwX8_held_0 17 rfl) (by decide)
theorem d_X8_held_18 : decode cX8_held 18 = .ok (.iconst (-1), 1) := zo_2 (zby_w zwX8_held_0 18 rfl)
theorem d_X8_held_19 : decode cX8_held 19 = .ok (.ireturn, 1) := zo_172 (zby_w zwX8_held_0 19 rfl)
theorem d_X8_held_20 : decode cX8_held 20 = .ok (.iload_n 2, 1) := zo_28 (zby_w zwX8_held_0 20 rfl)
theorem d_X8_held_21 : decode cX8_held 21 = .ok (.iconst 0, 1) := zo_3 (zby_w zwX8_held_0 21 rfl)
theorem d_X8_held_22 : decode cX8_held 22 = .ok (.sipush 976, 3) := zo_17 (a := 3) (b := 208) (zby_w zwX8_held_0 22 rfl) (zby_w zwX8_held_0 23 rfl) (zby_w zwX8_held_0 24 rfl) (by decide)
theorem d_X8_held_25 : decode cX8_held 25 = .ok (.invokestatic 47, 3) := zo_184 (a := 0) (b := 47) (zby_w zwX8_held_0 25 rfl) (zby_w zwX8_held_0 26 rfl) (zby_w zwX8_held_0 27 rfl) (by decide)
theorem d_X8_held_28 : decode cX8_held 28 = .ok (.ifCond .eq 12, 3) := zo_153 (a := 0) (b := 12) (zby_w zwX8_held_0 28 rfl) (zby_w zwX8_held_0 29 rfl) (zby_w zwX8_held_0 30 rfl) (by decide)
theorem d_X8_held_31 : decode cX8_held 31 = .ok (.iload_n 3, 1) := zo_29 (zby_w zwX8_held_0 31 rfl)
theorem d_X8_held_32 : decode cX8_held 32 = .ok (.iconst 0, 1) := zo_3 (zby_w zwX8_held_1 0 rfl)
theorem d_X8_held_33 : decode cX8_held 33 = .ok (.iconst 2, 1) := zo_5 (zby_w zwX8_held_1 1 rfl)
theorem d_X8_held_34 : decode cX8_held 34 = .ok (.invokestatic 47, 3) := zo_184 (a := 0) (b := 47) (zby_w zwX8_held_1 2 rfl) (zby_w zwX8_held_1 3 rfl) (zby_w zwX8_held_1 4 rfl) (by decide)
theorem d_X8_held_37 : decode cX8_held 37 = .ok (.ifCond .ne 6, 3) := zo_154 (a := 0) (b := 6) (zby_w zwX8_held_1 5 rfl) (zby_w zwX8_held_1 6 rfl) (zby_w zwX8_held_1 7 rfl) (by decide)
theorem d_X8_held_40 : decode cX8_held 40 = .ok (.bipush (-2), 2) := zo_16 (a := 254) (zby_w zwX8_held_1 8 rfl) (zby_w zwX8_held_1 9 rfl) (by decide)
theorem d_X8_held_42 : decode cX8_held 42 = .ok (.ireturn, 1) := zo_172 (zby_w zwX8_held_1 10 rfl)
theorem d_X8_held_43 : decode cX8_held 43 = .ok (.iload_n 2, 1) := zo_28 (zby_w zwX8_held_1 11 rfl)
theorem d_X8_held_44 : decode cX8_held 44 = .ok (.istore 5, 2) := zo_54 (a := 5) (zby_w zwX8_held_1 12 rfl) (zby_w zwX8_held_1 13 rfl) (by decide)
theorem d_X8_held_46 : decode cX8_held 46 = .ok (.aload 4, 2) := zo_25 (a := 4) (zby_w zwX8_held_1 14 rfl) (zby_w zwX8_held_1 15 rfl) (by decide)
theorem d_X8_held_48 : decode cX8_held 48 = .ok (.iload_n 1, 1) := zo_27 (zby_w zwX8_held_1 16 rfl)
theorem d_X8_held_49 : decode cX8_held 49 = .ok (.iload_n 2, 1) := zo_28 (zby_w zwX8_held_1 17 rfl)
theorem d_X8_held_50 : decode cX8_held 50 = .ok (.invokevirtual 161, 3) := zo_182 (a := 0) (b := 161) (zby_w zwX8_held_1 18 rfl) (zby_w zwX8_held_1 19 rfl) (zby_w zwX8_held_1 20 rfl) (by decide)
theorem d_X8_held_53 : decode cX8_held 53 = .ok (.istore 6, 2) := zo_54 (a := 6) (zby_w zwX8_held_1 21 rfl) (zby_w zwX8_held_1 22 rfl) (by decide)
theorem d_X8_held_55 : decode cX8_held 55 = .ok (.iconst 1, 1) := zo_4 (zby_w zwX8_held_1 23 rfl)
theorem d_X8_held_56 : decode cX8_held 56 = .ok (.istore 7, 2) := zo_54 (a := 7) (zby_w zwX8_held_1 24 rfl) (zby_w zwX8_held_1 25 rfl) (by decide)
theorem d_X8_held_58 : decode cX8_held 58 = .ok (.iload 7, 2) := zo_21 (a := 7) (zby_w zwX8_held_1 26 rfl) (zby_w zwX8_held_1 27 rfl) (by decide)
theorem d_X8_held_60 : decode cX8_held 60 = .ok (.bipush 24, 2) := zo_16 (a := 24) (zby_w zwX8_held_1 28 rfl) (zby_w zwX8_held_1 29 rfl) (by decide)
theorem d_X8_held_62 : decode cX8_held 62 = .ok (.if_icmp .ge 52, 3) := zo_162 (a := 0) (b := 52) (zby_w zwX8_held_1 30 rfl) (zby_w zwX8_held_1 31 rfl) (zby_w zwX8_held_1 32 rfl) (by decide)
theorem d_X8_held_65 : decode cX8_held 65 = .ok (.aload 4, 2) := zo_25 (a := 4) (zby_w zwX8_held_2 1 rfl) (zby_w zwX8_held_2 2 rfl) (by decide)
theorem d_X8_held_67 : decode cX8_held 67 = .ok (.iload_n 1, 1) := zo_27 (zby_w zwX8_held_2 3 rfl)
theorem d_X8_held_68 : decode cX8_held 68 = .ok (.iload_n 2, 1) := zo_28 (zby_w zwX8_held_2 4 rfl)
theorem d_X8_held_69 : decode cX8_held 69 = .ok (.iload 7, 2) := zo_21 (a := 7) (zby_w zwX8_held_2 5 rfl) (zby_w zwX8_held_2 6 rfl) (by decide)
theorem d_X8_held_71 : decode cX8_held 71 = .ok (.iadd, 1) := zo_96 (zby_w zwX8_held_2 7 rfl)
theorem d_X8_held_72 : decode cX8_held 72 = .ok (.invokevirtual 161, 3) := zo_182 (a := 0) (b := 161) (zby_w zwX8_held_2 8 rfl) (zby_w zwX8_held_2 9 rfl) (zby_w zwX8_held_2 10 rfl) (by decide)
theorem d_X8_held_75 : decode cX8_held 75 = .ok (.bipush 10, 2) := zo_16 (a := 10) (zby_w zwX8_held_2 11 rfl) (zby_w zwX8_held_2 12 rfl) (by decide)
theorem d_X8_held_77 : decode cX8_held 77 = .ok (.aload 4, 2) := zo_25 (a := 4) (zby_w zwX8_held_2 13 rfl) (zby_w zwX8_held_2 14 rfl) (by decide)
theorem d_X8_held_79 : decode cX8_held 79 = .ok (.getfield 89, 3) := zo_180 (a := 0) (b := 89) (zby_w zwX8_held_2 15 rfl) (zby_w zwX8_held_2 16 rfl) (zby_w zwX8_held_2 17 rfl) (by decide)
theorem d_X8_held_82 : decode cX8_held 82 = .ok (.iconst 4, 1) := zo_7 (zby_w zwX8_held_2 18 rfl)
theorem d_X8_held_83 : decode cX8_held 83 = .ok (.iaload, 1) := zo_46 (zby_w zwX8_held_2 19 rfl)
theorem d_X8_held_84 : decode cX8_held 84 = .ok (.imul, 1) := zo_104 (zby_w zwX8_held_2 20 rfl)
theorem d_X8_held_85 : decode cX8_held 85 = .ok (.iload 7, 2) := zo_21 (a := 7) (zby_w zwX8_held_2 21 rfl) (zby_w zwX8_held_2 22 rfl) (by decide)
theorem d_X8_held_87 : decode cX8_held 87 = .ok (.imul, 1) := zo_104 (zby_w zwX8_held_2 23 rfl)
theorem d_X8_held_88 : decode cX8_held 88 = .ok (.iadd, 1) := zo_96 (zby_w zwX8_held_2 24 rfl)
theorem d_X8_held_89 : decode cX8_held 89 = .ok (.istore 8, 2) := zo_54 (a := 8) (zby_w zwX8_held_2 25 rfl) (zby_w zwX8_held_2 26 rfl) (by decide)
theorem d_X8_held_91 : decode cX8_held 91 = .ok (.iload 8, 2) := zo_21 (a := 8) (zby_w zwX8_held_2 27 rfl) (zby_w zwX8_held_2 28 rfl) (by decide)
theorem d_X8_held_93 : decode cX8_held 93 = .ok (.iload 6, 2) := zo_21 (a := 6) (zby_w zwX8_held_2 29 rfl) (zby_w zwX8_held_2 30 rfl) (by decide)
theorem d_X8_held_95 : decode cX8_held 95 = .ok (.if_icmp .ge 13, 3) := zo_162 (a := 0) (b := 13) (zby_w zwX8_held_2 31 rfl) (zby_w zwX8_held_2 32 rfl) (zby_w zwX8_held_2 33 rfl) (by decide)
theorem d_X8_held_98 : decode cX8_held 98 = .ok (.iload 8, 2) := zo_21 (a := 8) (zby_w zwX8_held_3 2 rfl) (zby_w zwX8_held_3 3 rfl) (by decide)
theorem d_X8_held_100 : decode cX8_held 100 = .ok (.istore 6, 2) := zo_54 (a := 6) (zby_w zwX8_held_3 4 rfl) (zby_w zwX8_held_3 5 rfl) (by decide)
theorem d_X8_held_102 : decode cX8_held 102 = .ok (.iload_n 2, 1) := zo_28 (zby_w zwX8_held_3 6 rfl)
theorem d_X8_held_103 : decode cX8_held 103 = .ok (.iload 7, 2) := zo_21 (a := 7) (zby_w zwX8_held_3 7 rfl) (zby_w zwX8_held_3 8 rfl) (by decide)
theorem d_X8_held_105 : decode cX8_held 105 = .ok (.iadd, 1) := zo_96 (zby_w zwX8_held_3 9 rfl)
theorem d_X8_held_106 : decode cX8_held 106 = .ok (.istore 5, 2) := zo_54 (a := 5) (zby_w zwX8_held_3 10 rfl) (zby_w zwX8_held_3 11 rfl) (by decide)
theorem d_X8_held_108 : decode cX8_held 108 = .ok (.iinc 7 1, 3) := by decide +kernel
theorem d_X8_held_111 : decode cX8_held 111 = .ok (.goto (-53), 3) := zo_167 (a := 255) (b := 203) (zby_w zwX8_held_3 15 rfl) (zby_w zwX8_held_3 16 rfl) (zby_w zwX8_held_3 17 rfl) (by decide)
theorem d_X8_held_114 : decode cX8_held 114 = .ok (.iload_n 3, 1) := zo_29 (zby_w zwX8_held_3 18 rfl)
theorem d_X8_held_115 : decode cX8_held 115 = .ok (.ifCond .ne 6, 3) := zo_154 (a := 0) (b := 6) (zby_w zwX8_held_3 19 rfl) (zby_w zwX8_held_3 20 rfl) (zby_w zwX8_held_3 21 rfl) (by decide)
theorem d_X8_held_118 : decode cX8_held 118 = .ok (.iload 5, 2) := zo_21 (a := 5) (zby_w zwX8_held_3 22 rfl) (zby_w zwX8_held_3 23 rfl) (by decide)
theorem d_X8_held_120 : decode cX8_held 120 = .ok (.ireturn, 1) := zo_172 (zby_w zwX8_held_3 24 rfl)
theorem d_X8_held_121 : decode cX8_held 121 = .ok (.iload_n 3, 1) := zo_29 (zby_w zwX8_held_3 25 rfl)
theorem d_X8_held_122 : decode cX8_held 122 = .ok (.iconst 1, 1) := zo_4 (zby_w zwX8_held_3 26 rfl)
theorem d_X8_held_123 : decode cX8_held 123 = .ok (.if_icmp .ne 8, 3) := zo_160 (a := 0) (b := 8) (zby_w zwX8_held_3 27 rfl) (zby_w zwX8_held_3 28 rfl) (zby_w zwX8_held_3 29 rfl) (by decide)
theorem d_X8_held_126 : decode cX8_held 126 = .ok (.iload 6, 2) := zo_21 (a := 6) (zby_w zwX8_held_3 30 rfl) (zby_w zwX8_held_3 31 rfl) (by decide)
theorem d_X8_held_128 : decode cX8_held 128 = .ok (.goto 11, 3) := zo_167 (a := 0) (b := 11) (zby_w zwX8_held_4 0 rfl) (zby_w zwX8_held_4 1 rfl) (zby_w zwX8_held_4 2 rfl) (by decide)
theorem d_X8_held_131 : decode cX8_held 131 = .ok (.aload 4, 2) := zo_25 (a := 4) (zby_w zwX8_held_4 3 rfl) (zby_w zwX8_held_4 4 rfl) (by decide)
theorem d_X8_held_133 : decode cX8_held 133 = .ok (.iload_n 1, 1) := zo_27 (zby_w zwX8_held_4 5 rfl)
theorem d_X8_held_134 : decode cX8_held 134 = .ok (.iload 5, 2) := zo_21 (a := 5) (zby_w zwX8_held_4 6 rfl) (zby_w zwX8_held_4 7 rfl) (by decide)
theorem d_X8_held_136 : decode cX8_held 136 = .ok (.invokevirtual 158, 3) := zo_182 (a := 0) (b := 158) (zby_w zwX8_held_4 8 rfl) (zby_w zwX8_held_4 9 rfl) (zby_w zwX8_held_4 10 rfl) (by decide)
theorem d_X8_held_139 : decode cX8_held 139 = .ok (.ireturn, 1) := zo_172 (zby_w zwX8_held_4 11 rfl)
theorem d_X8_image_0 : decode cX8_image 0 = .ok (.iload_n 1, 1) := zo_27 (zby_w zwX8_image_0 0 rfl)
theorem d_X8_image_1 : decode cX8_image 1 = .ok (.iconst 0, 1) := zo_3 (zby_w zwX8_image_0 1 rfl)
theorem d_X8_image_2 : decode cX8_image 2 = .ok (.iconst 1, 1) := zo_4 (zby_w zwX8_image_0 2 rfl)
theorem d_X8_image_3 : decode cX8_image 3 = .ok (.invokestatic 47, 3) := zo_184 (a := 0) (b := 47) (zby_w zwX8_image_0 3 rfl) (zby_w zwX8_image_0 4 rfl) (zby_w zwX8_image_0 5 rfl) (by decide)
theorem d_X8_image_6 : decode cX8_image 6 = .ok (.ifCond .ne 6, 3) := zo_154 (a := 0) (b := 6) (zby_w zwX8_image_0 6 rfl) (zby_w zwX8_image_0 7 rfl) (zby_w zwX8_image_0 8 rfl) (by decide)
theorem d_X8_image_9 : decode cX8_image 9 = .ok (.bipush (-2), 2) := zo_16 (a := 254) (zby_w zwX8_image_0 9 rfl) (zby_w zwX8_image_0 10 rfl) (by decide)
theorem d_X8_image_11 : decode cX8_image 11 = .ok (.ireturn, 1) := zo_172 (zby_w zwX8_image_0 11 rfl)
theorem d_X8_image_12 : decode cX8_image 12 = .ok (.aload_n 0, 1) := zo_42 (zby_w zwX8_image_0 12 rfl)
theorem d_X8_image_13 : decode cX8_image 13 = .ok (.iload_n 1, 1) := zo_27 (zby_w zwX8_image_0 13 rfl)
theorem d_X8_image_14 : decode cX8_image 14 = .ok (.invokevirtual 280, 3) := zo_182 (a := 1) (b := 24) (zby_w zwX8_image_0 14 rfl) (zby_w zwX8_image_0 15 rfl) (zby_w zwX8_image_0 16 rfl) (by decide)
theorem d_X8_image_17 : decode cX8_image 17 = .ok (.aload_n 0, 1) := zo_42 (zby_w zwX8_image_0 17 rfl)
theorem d_X8_image_18 : decode cX8_image 18 = .ok (.getfield 10, 3) := zo_180 (a := 0) (b := 10) (zby_w zwX8_image_0 18 rfl) (zby_w zwX8_image_0 19 rfl) (zby_w zwX8_image_0 20 rfl) (by decide)
theorem d_X8_image_21 : decode cX8_image 21 = .ok (.invokevirtual 284, 3) := zo_182 (a := 1) (b := 28) (zby_w zwX8_image_0 21 rfl) (zby_w zwX8_image_0 22 rfl) (zby_w zwX8_image_0 23 rfl) (by decide)
theorem d_X8_image_24 : decode cX8_image 24 = .ok (.aload_n 0, 1) := zo_42 (zby_w zwX8_image_0 24 rfl)
theorem d_X8_image_25 : decode cX8_image 25 = .ok (.dup, 1) := zo_89 (zby_w zwX8_image_0 25 rfl)
theorem d_X8_image_26 : decode cX8_image 26 = .ok (.getfield 22, 3) := zo_180 (a := 0) (b := 22) (zby_w zwX8_image_0 26 rfl) (zby_w zwX8_image_0 27 rfl) (zby_w zwX8_image_0 28 rfl) (by decide)
theorem d_X8_image_29 : decode cX8_image 29 = .ok (.iconst 1, 1) := zo_4 (zby_w zwX8_image_0 29 rfl)
theorem d_X8_image_30 : decode cX8_image 30 = .ok (.iload_n 1, 1) := zo_27 (zby_w zwX8_image_0 30 rfl)
theorem d_X8_image_31 : decode cX8_image 31 = .ok (.ishl, 1) := zo_120 (zby_w zwX8_image_0 31 rfl)
theorem d_X8_image_32 : decode cX8_image 32 = .ok (.ior, 1) := zo_128 (zby_w zwX8_image_1 0 rfl)
theorem d_X8_image_33 : decode cX8_image 33 = .ok (.putfield 22, 3) := zo_181 (a := 0) (b := 22) (zby_w zwX8_image_1 1 rfl) (zby_w zwX8_image_1 2 rfl) (zby_w zwX8_image_1 3 rfl) (by decide)
theorem d_X8_image_36 : decode cX8_image 36 = .ok (.iconst 1, 1) := zo_4 (zby_w zwX8_image_1 4 rfl)
theorem d_X8_image_37 : decode cX8_image 37 = .ok (.ireturn, 1) := zo_172 (zby_w zwX8_image_1 5 rfl)
theorem d_X8_imageBooks_0 : decode cX8_imageBooks 0 = .ok (.iload_n 1, 1) := zo_27 (zby_w zwX8_imageBooks_0 0 rfl)
theorem d_X8_imageBooks_1 : decode cX8_imageBooks 1 = .ok (.ifCond .ne 10, 3) := zo_154 (a := 0) (b := 10) (zby_w zwX8_imageBooks_0 1 rfl) (zby_w zwX8_imageBooks_0 2 rfl) (zby_w zwX8_imageBooks_0 3 rfl) (by decide)
theorem d_X8_imageBooks_4 : decode cX8_imageBooks 4 = .ok (.aload_n 0, 1) := zo_42 (zby_w zwX8_imageBooks_0 4 rfl)
theorem d_X8_imageBooks_5 : decode cX8_imageBooks 5 = .ok (.getfield 16, 3) := zo_180 (a := 0) (b := 16) (zby_w zwX8_imageBooks_0 5 rfl) (zby_w zwX8_imageBooks_0 6 rfl) (zby_w zwX8_imageBooks_0 7 rfl) (by decide)
theorem d_X8_imageBooks_8 : decode cX8_imageBooks 8 = .ok (.goto 7, 3) := zo_167 (a := 0) (b := 7) (zby_w zwX8_imageBooks_0 8 rfl) (zby_w zwX8_imageBooks_0 9 rfl) (zby_w zwX8_imageBooks_0 10 rfl) (by decide)
theorem d_X8_imageBooks_11 : decode cX8_imageBooks 11 = .ok (.aload_n 0, 1) := zo_42 (zby_w zwX8_imageBooks_0 11 rfl)
theorem d_X8_imageBooks_12 : decode cX8_imageBooks 12 = .ok (.getfield 19, 3) := zo_180 (a := 0) (b := 19) (zby_w zwX8_imageBooks_0 12 rfl) (zby_w zwX8_imageBooks_0 13 rfl) (zby_w zwX8_imageBooks_0 14 rfl) (by decide)
theorem d_X8_imageBooks_15 : decode cX8_imageBooks 15 = .ok (.areturn, 1) := zo_176 (zby_w zwX8_imageBooks_0 15 rfl)
theorem d_X8_insured_0 : decode cX8_insured 0 = .ok (.aload_n 0, 1) := zo_42 (zby_w zwX8_insured_0 0 rfl)
theorem d_X8_insured_1 : decode cX8_insured 1 = .ok (.getfield 10, 3) := zo_180 (a := 0) (b := 10) (zby_w zwX8_insured_0 1 rfl) (zby_w zwX8_insured_0 2 rfl) (zby_w zwX8_insured_0 3 rfl) (by decide)
theorem d_X8_insured_4 : decode cX8_insured 4 = .ok (.getfield 51, 3) := zo_180 (a := 0) (b := 51) (zby_w zwX8_insured_0 4 rfl) (zby_w zwX8_insured_0 5 rfl) (zby_w zwX8_insured_0 6 rfl) (by decide)
theorem d_X8_insured_7 : decode cX8_insured 7 = .ok (.iload_n 1, 1) := zo_27 (zby_w zwX8_insured_0 7 rfl)
theorem d_X8_insured_8 : decode cX8_insured 8 = .ok (.invokevirtual 79, 3) := zo_182 (a := 0) (b := 79) (zby_w zwX8_insured_0 8 rfl) (zby_w zwX8_insured_0 9 rfl) (zby_w zwX8_insured_0 10 rfl) (by decide)
theorem d_X8_insured_11 : decode cX8_insured 11 = .ok (.ifCond .ne 5, 3) := zo_154 (a := 0) (b := 5) (zby_w zwX8_insured_0 11 rfl) (zby_w zwX8_insured_0 12 rfl) (zby_w zwX8_insured_0 13 rfl) (by decide)
theorem d_X8_insured_14 : decode cX8_insured 14 = .ok (.iconst (-1), 1) := zo_2 (zby_w zwX8_insured_0 14 rfl)
theorem d_X8_insured_15 : decode cX8_insured 15 = .ok (.ireturn, 1) := zo_172 (zby_w zwX8_insured_0 15 rfl)
theorem d_X8_insured_16 : decode cX8_insured 16 = .ok (.iload_n 2, 1) := zo_28 (zby_w zwX8_insured_0 16 rfl)
theorem d_X8_insured_17 : decode cX8_insured 17 = .ok (.invokestatic 145, 3) := zo_184 (a := 0) (b := 145) (zby_w zwX8_insured_0 17 rfl) (zby_w zwX8_insured_0 18 rfl) (zby_w zwX8_insured_0 19 rfl) (by decide)
theorem d_X8_insured_20 : decode cX8_insured 20 = .ok (.ifCond .eq 12, 3) := zo_153 (a := 0) (b := 12) (zby_w zwX8_insured_0 20 rfl) (zby_w zwX8_insured_0 21 rfl) (zby_w zwX8_insured_0 22 rfl) (by decide)
theorem d_X8_insured_23 : decode cX8_insured 23 = .ok (.iload_n 3, 1) := zo_29 (zby_w zwX8_insured_0 23 rfl)
theorem d_X8_insured_24 : decode cX8_insured 24 = .ok (.iconst 0, 1) := zo_3 (zby_w zwX8_insured_0 24 rfl)
theorem d_X8_insured_25 : decode cX8_insured 25 = .ok (.iconst 2, 1) := zo_5 (zby_w zwX8_insured_0 25 rfl)
theorem d_X8_insured_26 : decode cX8_insured 26 = .ok (.invokestatic 47, 3) := zo_184 (a := 0) (b := 47) (zby_w zwX8_insured_0 26 rfl) (zby_w zwX8_insured_0 27 rfl) (zby_w zwX8_insured_0 28 rfl) (by decide)
theorem d_X8_insured_29 : decode cX8_insured 29 = .ok (.ifCond .ne 6, 3) := zo_154 (a := 0) (b := 6) (zby_w zwX8_insured_0 29 rfl) (zby_w zwX8_insured_0 30 rfl) (zby_w zwX8_insured_0 31 rfl) (by decide)
theorem d_X8_insured_32 : decode cX8_insured 32 = .ok (.bipush (-2), 2) := zo_16 (a := 254) (zby_w zwX8_insured_1 0 rfl) (zby_w zwX8_insured_1 1 rfl) (by decide)
theorem d_X8_insured_34 : decode cX8_insured 34 = .ok (.ireturn, 1) := zo_172 (zby_w zwX8_insured_1 2 rfl)
theorem d_X8_insured_35 : decode cX8_insured 35 = .ok (.aload_n 0, 1) := zo_42 (zby_w zwX8_insured_1 3 rfl)
theorem d_X8_insured_36 : decode cX8_insured 36 = .ok (.getfield 10, 3) := zo_180 (a := 0) (b := 10) (zby_w zwX8_insured_1 4 rfl) (zby_w zwX8_insured_1 5 rfl) (zby_w zwX8_insured_1 6 rfl) (by decide)
theorem d_X8_insured_39 : decode cX8_insured 39 = .ok (.getfield 196, 3) := zo_180 (a := 0) (b := 196) (zby_w zwX8_insured_1 7 rfl) (zby_w zwX8_insured_1 8 rfl) (zby_w zwX8_insured_1 9 rfl) (by decide)
theorem d_X8_insured_42 : decode cX8_insured 42 = .ok (.astore 4, 2) := zo_58 (a := 4) (zby_w zwX8_insured_1 10 rfl) (zby_w zwX8_insured_1 11 rfl) (by decide)
theorem d_X8_insured_44 : decode cX8_insured 44 = .ok (.aload_n 0, 1) := zo_42 (zby_w zwX8_insured_1 12 rfl)
theorem d_X8_insured_45 : decode cX8_insured 45 = .ok (.getfield 10, 3) := zo_180 (a := 0) (b := 10) (zby_w zwX8_insured_1 13 rfl) (zby_w zwX8_insured_1 14 rfl) (zby_w zwX8_insured_1 15 rfl) (by decide)
theorem d_X8_insured_48 : decode cX8_insured 48 = .ok (.getfield 51, 3) := zo_180 (a := 0) (b := 51) (zby_w zwX8_insured_1 16 rfl) (zby_w zwX8_insured_1 17 rfl) (zby_w zwX8_insured_1 18 rfl) (by decide)
theorem d_X8_insured_51 : decode cX8_insured 51 = .ok (.iload_n 2, 1) := zo_28 (zby_w zwX8_insured_1 19 rfl)
theorem d_X8_insured_52 : decode cX8_insured 52 = .ok (.invokevirtual 209, 3) := zo_182 (a := 0) (b := 209) (zby_w zwX8_insured_1 20 rfl) (zby_w zwX8_insured_1 21 rfl) (zby_w zwX8_insured_1 22 rfl) (by decide)
theorem d_X8_insured_55 : decode cX8_insured 55 = .ok (.istore 5, 2) := zo_54 (a := 5) (zby_w zwX8_insured_1 23 rfl) (zby_w zwX8_insured_1 24 rfl) (by decide)
theorem d_X8_insured_57 : decode cX8_insured 57 = .ok (.aload 4, 2) := zo_25 (a := 4) (zby_w zwX8_insured_1 25 rfl) (zby_w zwX8_insured_1 26 rfl) (by decide)
theorem d_X8_insured_59 : decode cX8_insured 59 = .ok (.iload 5, 2) := zo_21 (a := 5) (zby_w zwX8_insured_1 27 rfl) (zby_w zwX8_insured_1 28 rfl) (by decide)
theorem d_X8_insured_61 : decode cX8_insured 61 = .ok (.invokevirtual 212, 3) := zo_182 (a := 0) (b := 212) (zby_w zwX8_insured_1 29 rfl) (zby_w zwX8_insured_1 30 rfl) (zby_w zwX8_insured_1 31 rfl) (by decide)
theorem d_X8_insured_64 : decode cX8_insured 64 = .ok (.istore 6, 2) := zo_54 (a := 6) (zby_w zwX8_insured_2 0 rfl) (zby_w zwX8_insured_2 1 rfl) (by decide)
theorem d_X8_insured_66 : decode cX8_insured 66 = .ok (.iload_n 3, 1) := zo_29 (zby_w zwX8_insured_2 2 rfl)
theorem d_X8_insured_67 : decode cX8_insured 67 = .ok (.iconst 1, 1) := zo_4 (zby_w zwX8_insured_2 3 rfl)
theorem d_X8_insured_68 : decode cX8_insured 68 = .ok (.if_icmp .ne 6, 3) := zo_160 (a := 0) (b := 6) (zby_w zwX8_insured_2 4 rfl) (zby_w zwX8_insured_2 5 rfl) (zby_w zwX8_insured_2 6 rfl) (by decide)
theorem d_X8_insured_71 : decode cX8_insured 71 = .ok (.iload 6, 2) := zo_21 (a := 6) (zby_w zwX8_insured_2 7 rfl) (zby_w zwX8_insured_2 8 rfl) (by decide)
theorem d_X8_insured_73 : decode cX8_insured 73 = .ok (.ireturn, 1) := zo_172 (zby_w zwX8_insured_2 9 rfl)
theorem d_X8_insured_74 : decode cX8_insured 74 = .ok (.aload 4, 2) := zo_25 (a := 4) (zby_w zwX8_insured_2 10 rfl) (zby_w zwX8_insured_2 11 rfl) (by decide)
theorem d_X8_insured_76 : decode cX8_insured 76 = .ok (.iload 6, 2) := zo_21 (a := 6) (zby_w zwX8_insured_2 12 rfl) (zby_w zwX8_insured_2 13 rfl) (by decide)
theorem d_X8_insured_78 : decode cX8_insured 78 = .ok (.invokevirtual 215, 3) := zo_182 (a := 0) (b := 215) (zby_w zwX8_insured_2 14 rfl) (zby_w zwX8_insured_2 15 rfl) (zby_w zwX8_insured_2 16 rfl) (by decide)
theorem d_X8_insured_81 : decode cX8_insured 81 = .ok (.istore 7, 2) := zo_54 (a := 7) (zby_w zwX8_insured_2 17 rfl) (zby_w zwX8_insured_2 18 rfl) (by decide)
theorem d_X8_insured_83 : decode cX8_insured 83 = .ok (.aload 4, 2) := zo_25 (a := 4) (zby_w zwX8_insured_2 19 rfl) (zby_w zwX8_insured_2 20 rfl) (by decide)
theorem d_X8_insured_85 : decode cX8_insured 85 = .ok (.iload 6, 2) := zo_21 (a := 6) (zby_w zwX8_insured_2 21 rfl) (zby_w zwX8_insured_2 22 rfl) (by decide)
theorem d_X8_insured_87 : decode cX8_insured 87 = .ok (.invokevirtual 218, 3) := zo_182 (a := 0) (b := 218) (zby_w zwX8_insured_2 23 rfl) (zby_w zwX8_insured_2 24 rfl) (zby_w zwX8_insured_2 25 rfl) (by decide)
theorem d_X8_insured_90 : decode cX8_insured 90 = .ok (.istore 8, 2) := zo_54 (a := 8) (zby_w zwX8_insured_2 26 rfl) (zby_w zwX8_insured_2 27 rfl) (by decide)
theorem d_X8_insured_92 : decode cX8_insured 92 = .ok (.aload_n 0, 1) := zo_42 (zby_w zwX8_insured_2 28 rfl)
theorem d_X8_insured_93 : decode cX8_insured 93 = .ok (.getfield 10, 3) := zo_180 (a := 0) (b := 10) (zby_w zwX8_insured_2 29 rfl) (zby_w zwX8_insured_2 30 rfl) (zby_w zwX8_insured_2 31 rfl) (by decide)
theorem d_X8_insured_96 : decode cX8_insured 96 = .ok (.getfield 51, 3) := zo_180 (a := 0) (b := 51) (zby_w zwX8_insured_3 0 rfl) (zby_w zwX8_insured_3 1 rfl) (zby_w zwX8_insured_3 2 rfl) (by decide)
theorem d_X8_insured_99 : decode cX8_insured 99 = .ok (.iload_n 1, 1) := zo_27 (zby_w zwX8_insured_3 3 rfl)
theorem d_X8_insured_100 : decode cX8_insured 100 = .ok (.invokevirtual 221, 3) := zo_182 (a := 0) (b := 221) (zby_w zwX8_insured_3 4 rfl) (zby_w zwX8_insured_3 5 rfl) (zby_w zwX8_insured_3 6 rfl) (by decide)
theorem d_X8_insured_103 : decode cX8_insured 103 = .ok (.istore 9, 2) := zo_54 (a := 9) (zby_w zwX8_insured_3 7 rfl) (zby_w zwX8_insured_3 8 rfl) (by decide)
theorem d_X8_insured_105 : decode cX8_insured 105 = .ok (.iload_n 3, 1) := zo_29 (zby_w zwX8_insured_3 9 rfl)
theorem d_X8_insured_106 : decode cX8_insured 106 = .ok (.ifCond .ne 21, 3) := zo_154 (a := 0) (b := 21) (zby_w zwX8_insured_3 10 rfl) (zby_w zwX8_insured_3 11 rfl) (zby_w zwX8_insured_3 12 rfl) (by decide)
theorem d_X8_insured_109 : decode cX8_insured 109 = .ok (.iload 5, 2) := zo_21 (a := 5) (zby_w zwX8_insured_3 13 rfl) (zby_w zwX8_insured_3 14 rfl) (by decide)
theorem d_X8_insured_111 : decode cX8_insured 111 = .ok (.iload 9, 2) := zo_21 (a := 9) (zby_w zwX8_insured_3 15 rfl) (zby_w zwX8_insured_3 16 rfl) (by decide)
theorem d_X8_insured_113 : decode cX8_insured 113 = .ok (.iload 8, 2) := zo_21 (a := 8) (zby_w zwX8_insured_3 17 rfl) (zby_w zwX8_insured_3 18 rfl) (by decide)
theorem d_X8_insured_115 : decode cX8_insured 115 = .ok (.isub, 1) := zo_100 (zby_w zwX8_insured_3 19 rfl)
theorem d_X8_insured_116 : decode cX8_insured 116 = .ok (.imul, 1) := zo_104 (zby_w zwX8_insured_3 20 rfl)
theorem d_X8_insured_117 : decode cX8_insured 117 = .ok (.bipush 10, 2) := zo_16 (a := 10) (zby_w zwX8_insured_3 21 rfl) (zby_w zwX8_insured_3 22 rfl) (by decide)
theorem d_X8_insured_119 : decode cX8_insured 119 = .ok (.iload 7, 2) := zo_21 (a := 7) (zby_w zwX8_insured_3 23 rfl) (zby_w zwX8_insured_3 24 rfl) (by decide)
theorem d_X8_insured_121 : decode cX8_insured 121 = .ok (.imul, 1) := zo_104 (zby_w zwX8_insured_3 25 rfl)
theorem d_X8_insured_122 : decode cX8_insured 122 = .ok (.iadd, 1) := zo_96 (zby_w zwX8_insured_3 26 rfl)
theorem d_X8_insured_123 : decode cX8_insured 123 = .ok (.ldc 224, 2) := zo_18 (a := 224) (zby_w zwX8_insured_3 27 rfl) (zby_w zwX8_insured_3 28 rfl) (by decide)
theorem d_X8_insured_125 : decode cX8_insured 125 = .ok (.iadd, 1) := zo_96 (zby_w zwX8_insured_3 29 rfl)
theorem d_X8_insured_126 : decode cX8_insured 126 = .ok (.ireturn, 1) := zo_172 (zby_w zwX8_insured_3 30 rfl)
theorem d_X8_insured_127 : decode cX8_insured 127 = .ok (.iload 5, 2) := zo_21 (a := 5) (zby_w zwX8_insured_3 31 rfl) (zby_w zwX8_insured_3 32 rfl) (by decide)
theorem d_X8_insured_129 : decode cX8_insured 129 = .ok (.ifCond .le 14, 3) := zo_158 (a := 0) (b := 14) (zby_w zwX8_insured_4 1 rfl) (zby_w zwX8_insured_4 2 rfl) (zby_w zwX8_insured_4 3 rfl) (by decide)
theorem d_X8_insured_132 : decode cX8_insured 132 = .ok (.iload 9, 2) := zo_21 (a := 9) (zby_w zwX8_insured_4 4 rfl) (zby_w zwX8_insured_4 5 rfl) (by decide)
theorem d_X8_insured_134 : decode cX8_insured 134 = .ok (.iload 7, 2) := zo_21 (a := 7) (zby_w zwX8_insured_4 6 rfl) (zby_w zwX8_insured_4 7 rfl) (by decide)
theorem d_X8_insured_136 : decode cX8_insured 136 = .ok (.iadd, 1) := zo_96 (zby_w zwX8_insured_4 8 rfl)
theorem d_X8_insured_137 : decode cX8_insured 137 = .ok (.iload 8, 2) := zo_21 (a := 8) (zby_w zwX8_insured_4 9 rfl) (zby_w zwX8_insured_4 10 rfl) (by decide)
theorem d_X8_insured_139 : decode cX8_insured 139 = .ok (.isub, 1) := zo_100 (zby_w zwX8_insured_4 11 rfl)
theorem d_X8_insured_140 : decode cX8_insured 140 = .ok (.goto 4, 3) := zo_167 (a := 0) (b := 4) (zby_w zwX8_insured_4 12 rfl) (zby_w zwX8_insured_4 13 rfl) (zby_w zwX8_insured_4 14 rfl) (by decide)
theorem d_X8_insured_143 : decode cX8_insured 143 = .ok (.iconst 0, 1) := zo_3 (zby_w zwX8_insured_4 15 rfl)
theorem d_X8_insured_144 : decode cX8_insured 144 = .ok (.istore 10, 2) := zo_54 (a := 10) (zby_w zwX8_insured_4 16 rfl) (zby_w zwX8_insured_4 17 rfl) (by decide)
theorem d_X8_insured_146 : decode cX8_insured 146 = .ok (.iload 7, 2) := zo_21 (a := 7) (zby_w zwX8_insured_4 18 rfl) (zby_w zwX8_insured_4 19 rfl) (by decide)
theorem d_X8_insured_148 : decode cX8_insured 148 = .ok (.iload 10, 2) := zo_21 (a := 10) (zby_w zwX8_insured_4 20 rfl) (zby_w zwX8_insured_4 21 rfl) (by decide)
theorem d_X8_insured_150 : decode cX8_insured 150 = .ok (.invokestatic 225, 3) := zo_184 (a := 0) (b := 225) (zby_w zwX8_insured_4 22 rfl) (zby_w zwX8_insured_4 23 rfl) (zby_w zwX8_insured_4 24 rfl) (by decide)
theorem d_X8_insured_153 : decode cX8_insured 153 = .ok (.ireturn, 1) := zo_172 (zby_w zwX8_insured_4 25 rfl)
theorem d_X8_isHour_0 : decode cX8_isHour 0 = .ok (.iload_n 0, 1) := zo_26 (zby_w zwX8_isHour_0 0 rfl)
theorem d_X8_isHour_1 : decode cX8_isHour 1 = .ok (.iconst 0, 1) := zo_3 (zby_w zwX8_isHour_0 1 rfl)
theorem d_X8_isHour_2 : decode cX8_isHour 2 = .ok (.sipush 999, 3) := zo_17 (a := 3) (b := 231) (zby_w zwX8_isHour_0 2 rfl) (zby_w zwX8_isHour_0 3 rfl) (zby_w zwX8_isHour_0 4 rfl) (by decide)
theorem d_X8_isHour_5 : decode cX8_isHour 5 = .ok (.invokestatic 47, 3) := zo_184 (a := 0) (b := 47) (zby_w zwX8_isHour_0 5 rfl) (zby_w zwX8_isHour_0 6 rfl) (zby_w zwX8_isHour_0 7 rfl) (by decide)
theorem d_X8_isHour_8 : decode cX8_isHour 8 = .ok (.ireturn, 1) := zo_172 (zby_w zwX8_isHour_0 8 rfl)
theorem d_X8_judge_0 : decode cX8_judge 0 = .ok (.iload_n 1, 1) := zo_27 (zby_w zwX8_judge_0 0 rfl)
theorem d_X8_judge_1 : decode cX8_judge 1 = .ok (.iconst 0, 1) := zo_3 (zby_w zwX8_judge_0 1 rfl)
theorem d_X8_judge_2 : decode cX8_judge 2 = .ok (.iconst 1, 1) := zo_4 (zby_w zwX8_judge_0 2 rfl)
theorem d_X8_judge_3 : decode cX8_judge 3 = .ok (.invokestatic 47, 3) := zo_184 (a := 0) (b := 47) (zby_w zwX8_judge_0 3 rfl) (zby_w zwX8_judge_0 4 rfl) (zby_w zwX8_judge_0 5 rfl) (by decide)
theorem d_X8_judge_6 : decode cX8_judge 6 = .ok (.ifCond .ne 6, 3) := zo_154 (a := 0) (b := 6) (zby_w zwX8_judge_0 6 rfl) (zby_w zwX8_judge_0 7 rfl) (zby_w zwX8_judge_0 8 rfl) (by decide)
theorem d_X8_judge_9 : decode cX8_judge 9 = .ok (.bipush (-2), 2) := zo_16 (a := 254) (zby_w zwX8_judge_0 9 rfl) (zby_w zwX8_judge_0 10 rfl) (by decide)
theorem d_X8_judge_11 : decode cX8_judge 11 = .ok (.ireturn, 1) := zo_172 (zby_w zwX8_judge_0 11 rfl)
theorem d_X8_judge_12 : decode cX8_judge 12 = .ok (.aload_n 0, 1) := zo_42 (zby_w zwX8_judge_0 12 rfl)
theorem d_X8_judge_13 : decode cX8_judge 13 = .ok (.getfield 29, 3) := zo_180 (a := 0) (b := 29) (zby_w zwX8_judge_0 13 rfl) (zby_w zwX8_judge_0 14 rfl) (zby_w zwX8_judge_0 15 rfl) (by decide)
theorem d_X8_judge_16 : decode cX8_judge 16 = .ok (.invokevirtual 105, 3) := zo_182 (a := 0) (b := 105) (zby_w zwX8_judge_0 16 rfl) (zby_w zwX8_judge_0 17 rfl) (zby_w zwX8_judge_0 18 rfl) (by decide)
theorem d_X8_judge_19 : decode cX8_judge 19 = .ok (.bipush (-6), 2) := zo_16 (a := 250) (zby_w zwX8_judge_0 19 rfl) (zby_w zwX8_judge_0 20 rfl) (by decide)
theorem d_X8_judge_21 : decode cX8_judge 21 = .ok (.if_icmp .eq 6, 3) := zo_159 (a := 0) (b := 6) (zby_w zwX8_judge_0 21 rfl) (zby_w zwX8_judge_0 22 rfl) (zby_w zwX8_judge_0 23 rfl) (by decide)
theorem d_X8_judge_24 : decode cX8_judge 24 = .ok (.bipush (-5), 2) := zo_16 (a := 251) (zby_w zwX8_judge_0 24 rfl) (zby_w zwX8_judge_0 25 rfl) (by decide)
theorem d_X8_judge_26 : decode cX8_judge 26 = .ok (.ireturn, 1) := zo_172 (zby_w zwX8_judge_0 26 rfl)
theorem d_X8_judge_27 : decode cX8_judge 27 = .ok (.aload_n 0, 1) := zo_42 (zby_w zwX8_judge_0 27 rfl)
theorem d_X8_judge_28 : decode cX8_judge 28 = .ok (.getfield 36, 3) := zo_180 (a := 0) (b := 36) (zby_w zwX8_judge_0 28 rfl) (zby_w zwX8_judge_0 29 rfl) (zby_w zwX8_judge_0 30 rfl) (by decide)
theorem d_X8_judge_31 : decode cX8_judge 31 = .ok (.aload_n 0, 1) := zo_42 (zby_w zwX8_judge_0 31 rfl)
theorem d_X8_judge_32 : decode cX8_judge 32 = .ok (.getfield 29, 3) := zo_180 (a := 0) (b := 29) (zby_w zwX8_judge_1 0 rfl) (zby_w zwX8_judge_1 1 rfl) (zby_w zwX8_judge_1 2 rfl) (by decide)
theorem d_X8_judge_35 : decode cX8_judge 35 = .ok (.aload_n 0, 1) := zo_42 (zby_w zwX8_judge_1 3 rfl)
theorem d_X8_judge_36 : decode cX8_judge 36 = .ok (.getfield 10, 3) := zo_180 (a := 0) (b := 10) (zby_w zwX8_judge_1 4 rfl) (zby_w zwX8_judge_1 5 rfl) (zby_w zwX8_judge_1 6 rfl) (by decide)
theorem d_X8_judge_39 : decode cX8_judge 39 = .ok (.getfield 51, 3) := zo_180 (a := 0) (b := 51) (zby_w zwX8_judge_1 7 rfl) (zby_w zwX8_judge_1 8 rfl) (zby_w zwX8_judge_1 9 rfl) (by decide)
theorem d_X8_judge_42 : decode cX8_judge 42 = .ok (.invokevirtual 120, 3) := zo_182 (a := 0) (b := 120) (zby_w zwX8_judge_1 10 rfl) (zby_w zwX8_judge_1 11 rfl) (zby_w zwX8_judge_1 12 rfl) (by decide)
theorem d_X8_judge_45 : decode cX8_judge 45 = .ok (.aload_n 0, 1) := zo_42 (zby_w zwX8_judge_1 13 rfl)
theorem d_X8_judge_46 : decode cX8_judge 46 = .ok (.getfield 36, 3) := zo_180 (a := 0) (b := 36) (zby_w zwX8_judge_1 14 rfl) (zby_w zwX8_judge_1 15 rfl) (zby_w zwX8_judge_1 16 rfl) (by decide)
theorem d_X8_judge_49 : decode cX8_judge 49 = .ok (.getfield 124, 3) := zo_180 (a := 0) (b := 124) (zby_w zwX8_judge_1 17 rfl) (zby_w zwX8_judge_1 18 rfl) (zby_w zwX8_judge_1 19 rfl) (by decide)
theorem d_X8_judge_52 : decode cX8_judge 52 = .ok (.bipush (-6), 2) := zo_16 (a := 250) (zby_w zwX8_judge_1 20 rfl) (zby_w zwX8_judge_1 21 rfl) (by decide)
theorem d_X8_judge_54 : decode cX8_judge 54 = .ok (.if_icmp .eq 8, 3) := zo_159 (a := 0) (b := 8) (zby_w zwX8_judge_1 22 rfl) (zby_w zwX8_judge_1 23 rfl) (zby_w zwX8_judge_1 24 rfl) (by decide)
theorem d_X8_judge_57 : decode cX8_judge 57 = .ok (.iload_n 1, 1) := zo_27 (zby_w zwX8_judge_1 25 rfl)
theorem d_X8_judge_58 : decode cX8_judge 58 = .ok (.iconst 1, 1) := zo_4 (zby_w zwX8_judge_1 26 rfl)
theorem d_X8_judge_59 : decode cX8_judge 59 = .ok (.if_icmp .ne 13, 3) := zo_160 (a := 0) (b := 13) (zby_w zwX8_judge_1 27 rfl) (zby_w zwX8_judge_1 28 rfl) (zby_w zwX8_judge_1 29 rfl) (by decide)
theorem d_X8_judge_62 : decode cX8_judge 62 = .ok (.aload_n 0, 1) := zo_42 (zby_w zwX8_judge_1 30 rfl)
theorem d_X8_judge_63 : decode cX8_judge 63 = .ok (.getfield 36, 3) := zo_180 (a := 0) (b := 36) (zby_w zwX8_judge_1 31 rfl) (zby_w zwX8_judge_1 32 rfl) (zby_w zwX8_judge_1 33 rfl) (by decide)
theorem d_X8_judge_66 : decode cX8_judge 66 = .ok (.getfield 124, 3) := zo_180 (a := 0) (b := 124) (zby_w zwX8_judge_2 2 rfl) (zby_w zwX8_judge_2 3 rfl) (zby_w zwX8_judge_2 4 rfl) (by decide)
theorem d_X8_judge_69 : decode cX8_judge 69 = .ok (.goto 10, 3) := zo_167 (a := 0) (b := 10) (zby_w zwX8_judge_2 5 rfl) (zby_w zwX8_judge_2 6 rfl) (zby_w zwX8_judge_2 7 rfl) (by decide)
theorem d_X8_judge_72 : decode cX8_judge 72 = .ok (.aload_n 0, 1) := zo_42 (zby_w zwX8_judge_2 8 rfl)
theorem d_X8_judge_73 : decode cX8_judge 73 = .ok (.getfield 36, 3) := zo_180 (a := 0) (b := 36) (zby_w zwX8_judge_2 9 rfl) (zby_w zwX8_judge_2 10 rfl) (zby_w zwX8_judge_2 11 rfl) (by decide)
theorem d_X8_judge_76 : decode cX8_judge 76 = .ok (.getfield 127, 3) := zo_180 (a := 0) (b := 127) (zby_w zwX8_judge_2 12 rfl) (zby_w zwX8_judge_2 13 rfl) (zby_w zwX8_judge_2 14 rfl) (by decide)
theorem d_X8_judge_79 : decode cX8_judge 79 = .ok (.ireturn, 1) := zo_172 (zby_w zwX8_judge_2 15 rfl)
theorem d_X8_line_0 : decode cX8_line 0 = .ok (.iload_n 1, 1) := zo_27 (zby_w zwX8_line_0 0 rfl)
theorem d_X8_line_1 : decode cX8_line 1 = .ok (.invokestatic 145, 3) := zo_184 (a := 0) (b := 145) (zby_w zwX8_line_0 1 rfl) (zby_w zwX8_line_0 2 rfl) (zby_w zwX8_line_0 3 rfl) (by decide)
theorem d_X8_line_4 : decode cX8_line 4 = .ok (.ifCond .eq 17, 3) := zo_153 (a := 0) (b := 17) (zby_w zwX8_line_0 4 rfl) (zby_w zwX8_line_0 5 rfl) (zby_w zwX8_line_0 6 rfl) (by decide)
theorem d_X8_line_7 : decode cX8_line 7 = .ok (.iload_n 2, 1) := zo_28 (zby_w zwX8_line_0 7 rfl)
theorem d_X8_line_8 : decode cX8_line 8 = .ok (.iconst (-1), 1) := zo_2 (zby_w zwX8_line_0 8 rfl)
theorem d_X8_line_9 : decode cX8_line 9 = .ok (.if_icmp .lt 12, 3) := zo_161 (a := 0) (b := 12) (zby_w zwX8_line_0 9 rfl) (zby_w zwX8_line_0 10 rfl) (zby_w zwX8_line_0 11 rfl) (by decide)
theorem d_X8_line_12 : decode cX8_line 12 = .ok (.iload_n 3, 1) := zo_29 (zby_w zwX8_line_0 12 rfl)
theorem d_X8_line_13 : decode cX8_line 13 = .ok (.iconst 0, 1) := zo_3 (zby_w zwX8_line_0 13 rfl)
theorem d_X8_line_14 : decode cX8_line 14 = .ok (.iconst 1, 1) := zo_4 (zby_w zwX8_line_0 14 rfl)
theorem d_X8_line_15 : decode cX8_line 15 = .ok (.invokestatic 47, 3) := zo_184 (a := 0) (b := 47) (zby_w zwX8_line_0 15 rfl) (zby_w zwX8_line_0 16 rfl) (zby_w zwX8_line_0 17 rfl) (by decide)
theorem d_X8_line_18 : decode cX8_line 18 = .ok (.ifCond .ne 6, 3) := zo_154 (a := 0) (b := 6) (zby_w zwX8_line_0 18 rfl) (zby_w zwX8_line_0 19 rfl) (zby_w zwX8_line_0 20 rfl) (by decide)
theorem d_X8_line_21 : decode cX8_line 21 = .ok (.bipush (-2), 2) := zo_16 (a := 254) (zby_w zwX8_line_0 21 rfl) (zby_w zwX8_line_0 22 rfl) (by decide)
theorem d_X8_line_23 : decode cX8_line 23 = .ok (.ireturn, 1) := zo_172 (zby_w zwX8_line_0 23 rfl)
theorem d_X8_line_24 : decode cX8_line 24 = .ok (.aload_n 0, 1) := zo_42 (zby_w zwX8_line_0 24 rfl)
theorem d_X8_line_25 : decode cX8_line 25 = .ok (.getfield 43, 3) := zo_180 (a := 0) (b := 43) (zby_w zwX8_line_0 25 rfl) (zby_w zwX8_line_0 26 rfl) (zby_w zwX8_line_0 27 rfl) (by decide)
theorem d_X8_line_28 : decode cX8_line 28 = .ok (.aload_n 0, 1) := zo_42 (zby_w zwX8_line_0 28 rfl)
theorem d_X8_line_29 : decode cX8_line 29 = .ok (.getfield 10, 3) := zo_180 (a := 0) (b := 10) (zby_w zwX8_line_0 29 rfl) (zby_w zwX8_line_0 30 rfl) (zby_w zwX8_line_0 31 rfl) (by decide)
theorem d_X8_line_32 : decode cX8_line 32 = .ok (.getfield 51, 3) := zo_180 (a := 0) (b := 51) (zby_w zwX8_line_1 0 rfl) (zby_w zwX8_line_1 1 rfl) (zby_w zwX8_line_1 2 rfl) (by decide)
theorem d_X8_line_35 : decode cX8_line 35 = .ok (.iload_n 1, 1) := zo_27 (zby_w zwX8_line_1 3 rfl)
theorem d_X8_line_36 : decode cX8_line 36 = .ok (.invokevirtual 168, 3) := zo_182 (a := 0) (b := 168) (zby_w zwX8_line_1 4 rfl) (zby_w zwX8_line_1 5 rfl) (zby_w zwX8_line_1 6 rfl) (by decide)
theorem d_X8_line_39 : decode cX8_line 39 = .ok (.aload_n 0, 1) := zo_42 (zby_w zwX8_line_1 7 rfl)
theorem d_X8_line_40 : decode cX8_line 40 = .ok (.getfield 43, 3) := zo_180 (a := 0) (b := 43) (zby_w zwX8_line_1 8 rfl) (zby_w zwX8_line_1 9 rfl) (zby_w zwX8_line_1 10 rfl) (by decide)
theorem d_X8_line_43 : decode cX8_line 43 = .ok (.invokevirtual 181, 3) := zo_182 (a := 0) (b := 181) (zby_w zwX8_line_1 11 rfl) (zby_w zwX8_line_1 12 rfl) (zby_w zwX8_line_1 13 rfl) (by decide)
theorem d_X8_line_46 : decode cX8_line 46 = .ok (.istore 4, 2) := zo_54 (a := 4) (zby_w zwX8_line_1 14 rfl) (zby_w zwX8_line_1 15 rfl) (by decide)
theorem d_X8_line_48 : decode cX8_line 48 = .ok (.iload_n 2, 1) := zo_28 (zby_w zwX8_line_1 16 rfl)
theorem d_X8_line_49 : decode cX8_line 49 = .ok (.iconst (-1), 1) := zo_2 (zby_w zwX8_line_1 17 rfl)
theorem d_X8_line_50 : decode cX8_line 50 = .ok (.if_icmp .ne 6, 3) := zo_160 (a := 0) (b := 6) (zby_w zwX8_line_1 18 rfl) (zby_w zwX8_line_1 19 rfl) (zby_w zwX8_line_1 20 rfl) (by decide)
theorem d_X8_line_53 : decode cX8_line 53 = .ok (.iload 4, 2) := zo_21 (a := 4) (zby_w zwX8_line_1 21 rfl) (zby_w zwX8_line_1 22 rfl) (by decide)
theorem d_X8_line_55 : decode cX8_line 55 = .ok (.ireturn, 1) := zo_172 (zby_w zwX8_line_1 23 rfl)
theorem d_X8_line_56 : decode cX8_line 56 = .ok (.iload_n 2, 1) := zo_28 (zby_w zwX8_line_1 24 rfl)
theorem d_X8_line_57 : decode cX8_line 57 = .ok (.iload 4, 2) := zo_21 (a := 4) (zby_w zwX8_line_1 25 rfl) (zby_w zwX8_line_1 26 rfl) (by decide)
theorem d_X8_line_59 : decode cX8_line 59 = .ok (.if_icmp .ge 15, 3) := zo_162 (a := 0) (b := 15) (zby_w zwX8_line_1 27 rfl) (zby_w zwX8_line_1 28 rfl) (zby_w zwX8_line_1 29 rfl) (by decide)
theorem d_X8_line_62 : decode cX8_line 62 = .ok (.aload_n 0, 1) := zo_42 (zby_w zwX8_line_1 30 rfl)
theorem d_X8_line_63 : decode cX8_line 63 = .ok (.getfield 43, 3) := zo_180 (a := 0) (b := 43) (zby_w zwX8_line_1 31 rfl) (zby_w zwX8_line_1 32 rfl) (zby_w zwX8_line_1 33 rfl) (by decide)
theorem d_X8_line_66 : decode cX8_line 66 = .ok (.iload_n 2, 1) := zo_28 (zby_w zwX8_line_2 2 rfl)
theorem d_X8_line_67 : decode cX8_line 67 = .ok (.iload_n 3, 1) := zo_29 (zby_w zwX8_line_2 3 rfl)
theorem d_X8_line_68 : decode cX8_line 68 = .ok (.invokevirtual 184, 3) := zo_182 (a := 0) (b := 184) (zby_w zwX8_line_2 4 rfl) (zby_w zwX8_line_2 5 rfl) (zby_w zwX8_line_2 6 rfl) (by decide)
theorem d_X8_line_71 : decode cX8_line 71 = .ok (.goto 5, 3) := zo_167 (a := 0) (b := 5) (zby_w zwX8_line_2 7 rfl) (zby_w zwX8_line_2 8 rfl) (zby_w zwX8_line_2 9 rfl) (by decide)
theorem d_X8_line_74 : decode cX8_line 74 = .ok (.bipush (-6), 2) := zo_16 (a := 250) (zby_w zwX8_line_2 10 rfl) (zby_w zwX8_line_2 11 rfl) (by decide)
theorem d_X8_line_76 : decode cX8_line 76 = .ok (.ireturn, 1) := zo_172 (zby_w zwX8_line_2 12 rfl)
theorem d_X8_lot_0 : decode cX8_lot 0 = .ok (.aload_n 0, 1) := zo_42 (zby_w zwX8_lot_0 0 rfl)
theorem d_X8_lot_1 : decode cX8_lot 1 = .ok (.getfield 10, 3) := zo_180 (a := 0) (b := 10) (zby_w zwX8_lot_0 1 rfl) (zby_w zwX8_lot_0 2 rfl) (zby_w zwX8_lot_0 3 rfl) (by decide)
theorem d_X8_lot_4 : decode cX8_lot 4 = .ok (.getfield 228, 3) := zo_180 (a := 0) (b := 228) (zby_w zwX8_lot_0 4 rfl) (zby_w zwX8_lot_0 5 rfl) (zby_w zwX8_lot_0 6 rfl) (by decide)
theorem d_X8_lot_7 : decode cX8_lot 7 = .ok (.astore 4, 2) := zo_58 (a := 4) (zby_w zwX8_lot_0 7 rfl) (zby_w zwX8_lot_0 8 rfl) (by decide)
theorem d_X8_lot_9 : decode cX8_lot 9 = .ok (.aload 4, 2) := zo_25 (a := 4) (zby_w zwX8_lot_0 9 rfl) (zby_w zwX8_lot_0 10 rfl) (by decide)
theorem d_X8_lot_11 : decode cX8_lot 11 = .ok (.iload_n 2, 1) := zo_28 (zby_w zwX8_lot_0 11 rfl)
theorem d_X8_lot_12 : decode cX8_lot 12 = .ok (.invokevirtual 238, 3) := zo_182 (a := 0) (b := 238) (zby_w zwX8_lot_0 12 rfl) (zby_w zwX8_lot_0 13 rfl) (zby_w zwX8_lot_0 14 rfl) (by decide)
theorem d_X8_lot_15 : decode cX8_lot 15 = .ok (.ifCond .ne 7, 3) := zo_154 (a := 0) (b := 7) (zby_w zwX8_lot_0 15 rfl) (zby_w zwX8_lot_0 16 rfl) (zby_w zwX8_lot_0 17 rfl) (by decide)
theorem d_X8_lot_18 : decode cX8_lot 18 = .ok (.ldc2_w 239, 3) := zo_20 (a := 0) (b := 239) (zby_w zwX8_lot_0 18 rfl) (zby_w zwX8_lot_0 19 rfl) (zby_w zwX8_lot_0 20 rfl) (by decide)
theorem d_X8_lot_21 : decode cX8_lot 21 = .ok (.lreturn, 1) := zo_173 (zby_w zwX8_lot_0 21 rfl)
theorem d_X8_lot_22 : decode cX8_lot 22 = .ok (.iload_n 1, 1) := zo_27 (zby_w zwX8_lot_0 22 rfl)
theorem d_X8_lot_23 : decode cX8_lot 23 = .ok (.iconst 1, 1) := zo_4 (zby_w zwX8_lot_0 23 rfl)
theorem d_X8_lot_24 : decode cX8_lot 24 = .ok (.aload 4, 2) := zo_25 (a := 4) (zby_w zwX8_lot_0 24 rfl) (zby_w zwX8_lot_0 25 rfl) (by decide)
theorem d_X8_lot_26 : decode cX8_lot 26 = .ok (.getfield 232, 3) := zo_180 (a := 0) (b := 232) (zby_w zwX8_lot_0 26 rfl) (zby_w zwX8_lot_0 27 rfl) (zby_w zwX8_lot_0 28 rfl) (by decide)
theorem d_X8_lot_29 : decode cX8_lot 29 = .ok (.invokestatic 73, 3) := zo_184 (a := 0) (b := 73) (zby_w zwX8_lot_0 29 rfl) (zby_w zwX8_lot_0 30 rfl) (zby_w zwX8_lot_0 31 rfl) (by decide)
theorem d_X8_lot_32 : decode cX8_lot 32 = .ok (.invokestatic 47, 3) := zo_184 (a := 0) (b := 47) (zby_w zwX8_lot_1 0 rfl) (zby_w zwX8_lot_1 1 rfl) (zby_w zwX8_lot_1 2 rfl) (by decide)
theorem d_X8_lot_35 : decode cX8_lot 35 = .ok (.ifCond .eq 12, 3) := zo_153 (a := 0) (b := 12) (zby_w zwX8_lot_1 3 rfl) (zby_w zwX8_lot_1 4 rfl) (zby_w zwX8_lot_1 5 rfl) (by decide)
theorem d_X8_lot_38 : decode cX8_lot 38 = .ok (.iload_n 3, 1) := zo_29 (zby_w zwX8_lot_1 6 rfl)
theorem d_X8_lot_39 : decode cX8_lot 39 = .ok (.iconst 0, 1) := zo_3 (zby_w zwX8_lot_1 7 rfl)
theorem d_X8_lot_40 : decode cX8_lot 40 = .ok (.iconst 1, 1) := zo_4 (zby_w zwX8_lot_1 8 rfl)
theorem d_X8_lot_41 : decode cX8_lot 41 = .ok (.invokestatic 47, 3) := zo_184 (a := 0) (b := 47) (zby_w zwX8_lot_1 9 rfl) (zby_w zwX8_lot_1 10 rfl) (zby_w zwX8_lot_1 11 rfl) (by decide)
theorem d_X8_lot_44 : decode cX8_lot 44 = .ok (.ifCond .ne 7, 3) := zo_154 (a := 0) (b := 7) (zby_w zwX8_lot_1 12 rfl) (zby_w zwX8_lot_1 13 rfl) (zby_w zwX8_lot_1 14 rfl) (by decide)
theorem d_X8_lot_47 : decode cX8_lot 47 = .ok (.ldc2_w 241, 3) := zo_20 (a := 0) (b := 241) (zby_w zwX8_lot_1 15 rfl) (zby_w zwX8_lot_1 16 rfl) (zby_w zwX8_lot_1 17 rfl) (by decide)
theorem d_X8_lot_50 : decode cX8_lot 50 = .ok (.lreturn, 1) := zo_173 (zby_w zwX8_lot_1 18 rfl)
theorem d_X8_lot_51 : decode cX8_lot 51 = .ok (.aload 4, 2) := zo_25 (a := 4) (zby_w zwX8_lot_1 19 rfl) (zby_w zwX8_lot_1 20 rfl) (by decide)
theorem d_X8_lot_53 : decode cX8_lot 53 = .ok (.aload 4, 2) := zo_25 (a := 4) (zby_w zwX8_lot_1 21 rfl) (zby_w zwX8_lot_1 22 rfl) (by decide)
theorem d_X8_lot_55 : decode cX8_lot 55 = .ok (.getfield 235, 3) := zo_180 (a := 0) (b := 235) (zby_w zwX8_lot_1 23 rfl) (zby_w zwX8_lot_1 24 rfl) (zby_w zwX8_lot_1 25 rfl) (by decide)
theorem d_X8_lot_58 : decode cX8_lot 58 = .ok (.iload_n 2, 1) := zo_28 (zby_w zwX8_lot_1 26 rfl)
theorem d_X8_lot_59 : decode cX8_lot 59 = .ok (.iaload, 1) := zo_46 (zby_w zwX8_lot_1 27 rfl)
theorem d_X8_lot_60 : decode cX8_lot 60 = .ok (.aload 4, 2) := zo_25 (a := 4) (zby_w zwX8_lot_1 28 rfl) (zby_w zwX8_lot_1 29 rfl) (by decide)
theorem d_X8_lot_62 : decode cX8_lot 62 = .ok (.getfield 235, 3) := zo_180 (a := 0) (b := 235) (zby_w zwX8_lot_1 30 rfl) (zby_w zwX8_lot_1 31 rfl) (zby_w zwX8_lot_1 32 rfl) (by decide)
theorem d_X8_lot_65 : decode cX8_lot 65 = .ok (.iload_n 2, 1) := zo_28 (zby_w zwX8_lot_2 1 rfl)
theorem d_X8_lot_66 : decode cX8_lot 66 = .ok (.iaload, 1) := zo_46 (zby_w zwX8_lot_2 2 rfl)
theorem d_X8_lot_67 : decode cX8_lot 67 = .ok (.invokevirtual 243, 3) := zo_182 (a := 0) (b := 243) (zby_w zwX8_lot_2 3 rfl) (zby_w zwX8_lot_2 4 rfl) (zby_w zwX8_lot_2 5 rfl) (by decide)
theorem d_X8_lot_70 : decode cX8_lot 70 = .ok (.istore 5, 2) := zo_54 (a := 5) (zby_w zwX8_lot_2 6 rfl) (zby_w zwX8_lot_2 7 rfl) (by decide)
theorem d_X8_lot_72 : decode cX8_lot 72 = .ok (.aload 4, 2) := zo_25 (a := 4) (zby_w zwX8_lot_2 8 rfl) (zby_w zwX8_lot_2 9 rfl) (by decide)
theorem d_X8_lot_74 : decode cX8_lot 74 = .ok (.iconst 0, 1) := zo_3 (zby_w zwX8_lot_2 10 rfl)
theorem d_X8_lot_75 : decode cX8_lot 75 = .ok (.aload 4, 2) := zo_25 (a := 4) (zby_w zwX8_lot_2 11 rfl) (zby_w zwX8_lot_2 12 rfl) (by decide)
theorem d_X8_lot_77 : decode cX8_lot 77 = .ok (.getfield 235, 3) := zo_180 (a := 0) (b := 235) (zby_w zwX8_lot_2 13 rfl) (zby_w zwX8_lot_2 14 rfl) (zby_w zwX8_lot_2 15 rfl) (by decide)
theorem d_X8_lot_80 : decode cX8_lot 80 = .ok (.iload_n 2, 1) := zo_28 (zby_w zwX8_lot_2 16 rfl)
theorem d_X8_lot_81 : decode cX8_lot 81 = .ok (.iaload, 1) := zo_46 (zby_w zwX8_lot_2 17 rfl)
theorem d_X8_lot_82 : decode cX8_lot 82 = .ok (.iconst 1, 1) := zo_4 (zby_w zwX8_lot_2 18 rfl)
theorem d_X8_lot_83 : decode cX8_lot 83 = .ok (.isub, 1) := zo_100 (zby_w zwX8_lot_2 19 rfl)
theorem d_X8_lot_84 : decode cX8_lot 84 = .ok (.invokevirtual 243, 3) := zo_182 (a := 0) (b := 243) (zby_w zwX8_lot_2 20 rfl) (zby_w zwX8_lot_2 21 rfl) (zby_w zwX8_lot_2 22 rfl) (by decide)
theorem d_X8_lot_87 : decode cX8_lot 87 = .ok (.istore 6, 2) := zo_54 (a := 6) (zby_w zwX8_lot_2 23 rfl) (zby_w zwX8_lot_2 24 rfl) (by decide)
theorem d_X8_lot_89 : decode cX8_lot 89 = .ok (.iconst 0, 1) := zo_3 (zby_w zwX8_lot_2 25 rfl)
theorem d_X8_lot_90 : decode cX8_lot 90 = .ok (.iload 5, 2) := zo_21 (a := 5) (zby_w zwX8_lot_2 26 rfl) (zby_w zwX8_lot_2 27 rfl) (by decide)
theorem d_X8_lot_92 : decode cX8_lot 92 = .ok (.iload_n 1, 1) := zo_27 (zby_w zwX8_lot_2 28 rfl)
theorem d_X8_lot_93 : decode cX8_lot 93 = .ok (.iload 6, 2) := zo_21 (a := 6) (zby_w zwX8_lot_2 29 rfl) (zby_w zwX8_lot_2 30 rfl) (by decide)
theorem d_X8_lot_95 : decode cX8_lot 95 = .ok (.isub, 1) := zo_100 (zby_w zwX8_lot_2 31 rfl)
theorem d_X8_lot_96 : decode cX8_lot 96 = .ok (.invokestatic 108, 3) := zo_184 (a := 0) (b := 108) (zby_w zwX8_lot_3 0 rfl) (zby_w zwX8_lot_3 1 rfl) (zby_w zwX8_lot_3 2 rfl) (by decide)
theorem d_X8_lot_99 : decode cX8_lot 99 = .ok (.invokestatic 225, 3) := zo_184 (a := 0) (b := 225) (zby_w zwX8_lot_3 3 rfl) (zby_w zwX8_lot_3 4 rfl) (zby_w zwX8_lot_3 5 rfl) (by decide)
theorem d_X8_lot_102 : decode cX8_lot 102 = .ok (.istore 7, 2) := zo_54 (a := 7) (zby_w zwX8_lot_3 6 rfl) (zby_w zwX8_lot_3 7 rfl) (by decide)
theorem d_X8_lot_104 : decode cX8_lot 104 = .ok (.iload 7, 2) := zo_21 (a := 7) (zby_w zwX8_lot_3 8 rfl) (zby_w zwX8_lot_3 9 rfl) (by decide)
theorem d_X8_lot_106 : decode cX8_lot 106 = .ok (.i2l, 1) := zo_133 (zby_w zwX8_lot_3 10 rfl)
theorem d_X8_lot_107 : decode cX8_lot 107 = .ok (.iload 5, 2) := zo_21 (a := 5) (zby_w zwX8_lot_3 11 rfl) (zby_w zwX8_lot_3 12 rfl) (by decide)
theorem d_X8_lot_109 : decode cX8_lot 109 = .ok (.i2l, 1) := zo_133 (zby_w zwX8_lot_3 13 rfl)
theorem d_X8_lot_110 : decode cX8_lot 110 = .ok (.iload_n 3, 1) := zo_29 (zby_w zwX8_lot_3 14 rfl)
theorem d_X8_lot_111 : decode cX8_lot 111 = .ok (.invokestatic 246, 3) := zo_184 (a := 0) (b := 246) (zby_w zwX8_lot_3 15 rfl) (zby_w zwX8_lot_3 16 rfl) (zby_w zwX8_lot_3 17 rfl) (by decide)
theorem d_X8_lot_114 : decode cX8_lot 114 = .ok (.lreturn, 1) := zo_173 (zby_w zwX8_lot_3 18 rfl)
theorem d_X8_mean_0 : decode cX8_mean 0 = .ok (.aload_n 0, 1) := zo_42 (zby_w zwX8_mean_0 0 rfl)
theorem d_X8_mean_1 : decode cX8_mean 1 = .ok (.getfield 10, 3) := zo_180 (a := 0) (b := 10) (zby_w zwX8_mean_0 1 rfl) (zby_w zwX8_mean_0 2 rfl) (zby_w zwX8_mean_0 3 rfl) (by decide)
theorem d_X8_mean_4 : decode cX8_mean 4 = .ok (.getfield 51, 3) := zo_180 (a := 0) (b := 51) (zby_w zwX8_mean_0 4 rfl) (zby_w zwX8_mean_0 5 rfl) (zby_w zwX8_mean_0 6 rfl) (by decide)
theorem d_X8_mean_7 : decode cX8_mean 7 = .ok (.iload_n 1, 1) := zo_27 (zby_w zwX8_mean_0 7 rfl)
theorem d_X8_mean_8 : decode cX8_mean 8 = .ok (.invokevirtual 79, 3) := zo_182 (a := 0) (b := 79) (zby_w zwX8_mean_0 8 rfl) (zby_w zwX8_mean_0 9 rfl) (zby_w zwX8_mean_0 10 rfl) (by decide)
theorem d_X8_mean_11 : decode cX8_mean 11 = .ok (.ifCond .ne 5, 3) := zo_154 (a := 0) (b := 5) (zby_w zwX8_mean_0 11 rfl) (zby_w zwX8_mean_0 12 rfl) (zby_w zwX8_mean_0 13 rfl) (by decide)
theorem d_X8_mean_14 : decode cX8_mean 14 = .ok (.iconst (-1), 1) := zo_2 (zby_w zwX8_mean_0 14 rfl)
theorem d_X8_mean_15 : decode cX8_mean 15 = .ok (.ireturn, 1) := zo_172 (zby_w zwX8_mean_0 15 rfl)
theorem d_X8_mean_16 : decode cX8_mean 16 = .ok (.iload_n 2, 1) := zo_28 (zby_w zwX8_mean_0 16 rfl)
theorem d_X8_mean_17 : decode cX8_mean 17 = .ok (.iconst 0, 1) := zo_3 (zby_w zwX8_mean_0 17 rfl)
theorem d_X8_mean_18 : decode cX8_mean 18 = .ok (.iconst 2, 1) := zo_5 (zby_w zwX8_mean_0 18 rfl)
theorem d_X8_mean_19 : decode cX8_mean 19 = .ok (.invokestatic 47, 3) := zo_184 (a := 0) (b := 47) (zby_w zwX8_mean_0 19 rfl) (zby_w zwX8_mean_0 20 rfl) (zby_w zwX8_mean_0 21 rfl) (by decide)
theorem d_X8_mean_22 : decode cX8_mean 22 = .ok (.ifCond .eq 10, 3) := zo_153 (a := 0) (b := 10) (zby_w zwX8_mean_0 22 rfl) (zby_w zwX8_mean_0 23 rfl) (zby_w zwX8_mean_0 24 rfl) (by decide)
theorem d_X8_mean_25 : decode cX8_mean 25 = .ok (.iload_n 3, 1) := zo_29 (zby_w zwX8_mean_0 25 rfl)
theorem d_X8_mean_26 : decode cX8_mean 26 = .ok (.invokestatic 145, 3) := zo_184 (a := 0) (b := 145) (zby_w zwX8_mean_0 26 rfl) (zby_w zwX8_mean_0 27 rfl) (zby_w zwX8_mean_0 28 rfl) (by decide)
theorem d_X8_mean_29 : decode cX8_mean 29 = .ok (.ifCond .ne 6, 3) := zo_154 (a := 0) (b := 6) (zby_w zwX8_mean_0 29 rfl) (zby_w zwX8_mean_0 30 rfl) (zby_w zwX8_mean_0 31 rfl) (by decide)
theorem d_X8_mean_32 : decode cX8_mean 32 = .ok (.bipush (-2), 2) := zo_16 (a := 254) (zby_w zwX8_mean_1 0 rfl) (zby_w zwX8_mean_1 1 rfl) (by decide)
theorem d_X8_mean_34 : decode cX8_mean 34 = .ok (.ireturn, 1) := zo_172 (zby_w zwX8_mean_1 2 rfl)
theorem d_X8_mean_35 : decode cX8_mean 35 = .ok (.aload_n 0, 1) := zo_42 (zby_w zwX8_mean_1 3 rfl)
theorem d_X8_mean_36 : decode cX8_mean 36 = .ok (.getfield 10, 3) := zo_180 (a := 0) (b := 10) (zby_w zwX8_mean_1 4 rfl) (zby_w zwX8_mean_1 5 rfl) (zby_w zwX8_mean_1 6 rfl) (by decide)
theorem d_X8_mean_39 : decode cX8_mean 39 = .ok (.getfield 51, 3) := zo_180 (a := 0) (b := 51) (zby_w zwX8_mean_1 7 rfl) (zby_w zwX8_mean_1 8 rfl) (zby_w zwX8_mean_1 9 rfl) (by decide)
theorem d_X8_mean_42 : decode cX8_mean 42 = .ok (.iload_n 1, 1) := zo_27 (zby_w zwX8_mean_1 10 rfl)
theorem d_X8_mean_43 : decode cX8_mean 43 = .ok (.iload_n 2, 1) := zo_28 (zby_w zwX8_mean_1 11 rfl)
theorem d_X8_mean_44 : decode cX8_mean 44 = .ok (.iload_n 3, 1) := zo_29 (zby_w zwX8_mean_1 12 rfl)
theorem d_X8_mean_45 : decode cX8_mean 45 = .ok (.invokevirtual 148, 3) := zo_182 (a := 0) (b := 148) (zby_w zwX8_mean_1 13 rfl) (zby_w zwX8_mean_1 14 rfl) (zby_w zwX8_mean_1 15 rfl) (by decide)
theorem d_X8_mean_48 : decode cX8_mean 48 = .ok (.ireturn, 1) := zo_172 (zby_w zwX8_mean_1 16 rfl)
theorem d_X8_noOffers_0 : decode cX8_noOffers 0 = .ok (.aload_n 0, 1) := zo_42 (zby_w zwX8_noOffers_0 0 rfl)
theorem d_X8_noOffers_1 : decode cX8_noOffers 1 = .ok (.getfield 10, 3) := zo_180 (a := 0) (b := 10) (zby_w zwX8_noOffers_0 1 rfl) (zby_w zwX8_noOffers_0 2 rfl) (zby_w zwX8_noOffers_0 3 rfl) (by decide)
theorem d_X8_noOffers_4 : decode cX8_noOffers 4 = .ok (.getfield 196, 3) := zo_180 (a := 0) (b := 196) (zby_w zwX8_noOffers_0 4 rfl) (zby_w zwX8_noOffers_0 5 rfl) (zby_w zwX8_noOffers_0 6 rfl) (by decide)
theorem d_X8_noOffers_7 : decode cX8_noOffers 7 = .ok (.getfield 200, 3) := zo_180 (a := 0) (b := 200) (zby_w zwX8_noOffers_0 7 rfl) (zby_w zwX8_noOffers_0 8 rfl) (zby_w zwX8_noOffers_0 9 rfl) (by decide)
theorem d_X8_noOffers_10 : decode cX8_noOffers 10 = .ok (.invokestatic 73, 3) := zo_184 (a := 0) (b := 73) (zby_w zwX8_noOffers_0 10 rfl) (zby_w zwX8_noOffers_0 11 rfl) (zby_w zwX8_noOffers_0 12 rfl) (by decide)
theorem d_X8_noOffers_13 : decode cX8_noOffers 13 = .ok (.istore_n 1, 1) := zo_60 (zby_w zwX8_noOffers_0 13 rfl)
theorem d_X8_noOffers_14 : decode cX8_noOffers 14 = .ok (.aload_n 0, 1) := zo_42 (zby_w zwX8_noOffers_0 14 rfl)
theorem d_X8_noOffers_15 : decode cX8_noOffers 15 = .ok (.getfield 10, 3) := zo_180 (a := 0) (b := 10) (zby_w zwX8_noOffers_0 15 rfl) (zby_w zwX8_noOffers_0 16 rfl) (zby_w zwX8_noOffers_0 17 rfl) (by decide)
theorem d_X8_noOffers_18 : decode cX8_noOffers 18 = .ok (.getfield 196, 3) := zo_180 (a := 0) (b := 196) (zby_w zwX8_noOffers_0 18 rfl) (zby_w zwX8_noOffers_0 19 rfl) (zby_w zwX8_noOffers_0 20 rfl) (by decide)
theorem d_X8_noOffers_21 : decode cX8_noOffers 21 = .ok (.iconst 0, 1) := zo_3 (zby_w zwX8_noOffers_0 21 rfl)
theorem d_X8_noOffers_22 : decode cX8_noOffers 22 = .ok (.putfield 200, 3) := zo_181 (a := 0) (b := 200) (zby_w zwX8_noOffers_0 22 rfl) (zby_w zwX8_noOffers_0 23 rfl) (zby_w zwX8_noOffers_0 24 rfl) (by decide)
theorem d_X8_noOffers_25 : decode cX8_noOffers 25 = .ok (.iload_n 1, 1) := zo_27 (zby_w zwX8_noOffers_0 25 rfl)
theorem d_X8_noOffers_26 : decode cX8_noOffers 26 = .ok (.ireturn, 1) := zo_172 (zby_w zwX8_noOffers_0 26 rfl)
theorem d_X8_offer_0 : decode cX8_offer 0 = .ok (.iload_n 1, 1) := zo_27 (zby_w zwX8_offer_0 0 rfl)
theorem d_X8_offer_1 : decode cX8_offer 1 = .ok (.iconst 0, 1) := zo_3 (zby_w zwX8_offer_0 1 rfl)
theorem d_X8_offer_2 : decode cX8_offer 2 = .ok (.iconst 3, 1) := zo_6 (zby_w zwX8_offer_0 2 rfl)
theorem d_X8_offer_3 : decode cX8_offer 3 = .ok (.invokestatic 47, 3) := zo_184 (a := 0) (b := 47) (zby_w zwX8_offer_0 3 rfl) (zby_w zwX8_offer_0 4 rfl) (zby_w zwX8_offer_0 5 rfl) (by decide)
theorem d_X8_offer_6 : decode cX8_offer 6 = .ok (.ifCond .eq 25, 3) := zo_153 (a := 0) (b := 25) (zby_w zwX8_offer_0 6 rfl) (zby_w zwX8_offer_0 7 rfl) (zby_w zwX8_offer_0 8 rfl) (by decide)
theorem d_X8_offer_9 : decode cX8_offer 9 = .ok (.iload_n 2, 1) := zo_28 (zby_w zwX8_offer_0 9 rfl)
theorem d_X8_offer_10 : decode cX8_offer 10 = .ok (.iconst 0, 1) := zo_3 (zby_w zwX8_offer_0 10 rfl)
theorem d_X8_offer_11 : decode cX8_offer 11 = .ok (.sipush 999, 3) := zo_17 (a := 3) (b := 231) (zby_w zwX8_offer_0 11 rfl) (zby_w zwX8_offer_0 12 rfl) (zby_w zwX8_offer_0 13 rfl) (by decide)
theorem d_X8_offer_14 : decode cX8_offer 14 = .ok (.invokestatic 47, 3) := zo_184 (a := 0) (b := 47) (zby_w zwX8_offer_0 14 rfl) (zby_w zwX8_offer_0 15 rfl) (zby_w zwX8_offer_0 16 rfl) (by decide)
theorem d_X8_offer_17 : decode cX8_offer 17 = .ok (.ifCond .eq 14, 3) := zo_153 (a := 0) (b := 14) (zby_w zwX8_offer_0 17 rfl) (zby_w zwX8_offer_0 18 rfl) (zby_w zwX8_offer_0 19 rfl) (by decide)
theorem d_X8_offer_20 : decode cX8_offer 20 = .ok (.iload_n 3, 1) := zo_29 (zby_w zwX8_offer_0 20 rfl)
theorem d_X8_offer_21 : decode cX8_offer 21 = .ok (.iconst 0, 1) := zo_3 (zby_w zwX8_offer_0 21 rfl)
theorem d_X8_offer_22 : decode cX8_offer 22 = .ok (.sipush 9999, 3) := zo_17 (a := 39) (b := 15) (zby_w zwX8_offer_0 22 rfl) (zby_w zwX8_offer_0 23 rfl) (zby_w zwX8_offer_0 24 rfl) (by decide)
theorem d_X8_offer_25 : decode cX8_offer 25 = .ok (.invokestatic 47, 3) := zo_184 (a := 0) (b := 47) (zby_w zwX8_offer_0 25 rfl) (zby_w zwX8_offer_0 26 rfl) (zby_w zwX8_offer_0 27 rfl) (by decide)
theorem d_X8_offer_28 : decode cX8_offer 28 = .ok (.ifCond .ne 6, 3) := zo_154 (a := 0) (b := 6) (zby_w zwX8_offer_0 28 rfl) (zby_w zwX8_offer_0 29 rfl) (zby_w zwX8_offer_0 30 rfl) (by decide)
theorem d_X8_offer_31 : decode cX8_offer 31 = .ok (.bipush (-2), 2) := zo_16 (a := 254) (zby_w zwX8_offer_0 31 rfl) (zby_w zwX8_offer_0 32 rfl) (by decide)
theorem d_X8_offer_33 : decode cX8_offer 33 = .ok (.ireturn, 1) := zo_172 (zby_w zwX8_offer_1 1 rfl)
theorem d_X8_offer_34 : decode cX8_offer 34 = .ok (.aload_n 0, 1) := zo_42 (zby_w zwX8_offer_1 2 rfl)
theorem d_X8_offer_35 : decode cX8_offer 35 = .ok (.getfield 10, 3) := zo_180 (a := 0) (b := 10) (zby_w zwX8_offer_1 3 rfl) (zby_w zwX8_offer_1 4 rfl) (zby_w zwX8_offer_1 5 rfl) (by decide)
theorem d_X8_offer_38 : decode cX8_offer 38 = .ok (.getfield 196, 3) := zo_180 (a := 0) (b := 196) (zby_w zwX8_offer_1 6 rfl) (zby_w zwX8_offer_1 7 rfl) (zby_w zwX8_offer_1 8 rfl) (by decide)
theorem d_X8_offer_41 : decode cX8_offer 41 = .ok (.astore 4, 2) := zo_58 (a := 4) (zby_w zwX8_offer_1 9 rfl) (zby_w zwX8_offer_1 10 rfl) (by decide)
theorem d_X8_offer_43 : decode cX8_offer 43 = .ok (.aload 4, 2) := zo_25 (a := 4) (zby_w zwX8_offer_1 11 rfl) (zby_w zwX8_offer_1 12 rfl) (by decide)
theorem d_X8_offer_45 : decode cX8_offer 45 = .ok (.dup, 1) := zo_89 (zby_w zwX8_offer_1 13 rfl)
theorem d_X8_offer_46 : decode cX8_offer 46 = .ok (.getfield 200, 3) := zo_180 (a := 0) (b := 200) (zby_w zwX8_offer_1 14 rfl) (zby_w zwX8_offer_1 15 rfl) (zby_w zwX8_offer_1 16 rfl) (by decide)
theorem d_X8_offer_49 : decode cX8_offer 49 = .ok (.iconst 1, 1) := zo_4 (zby_w zwX8_offer_1 17 rfl)
theorem d_X8_offer_50 : decode cX8_offer 50 = .ok (.iload_n 1, 1) := zo_27 (zby_w zwX8_offer_1 18 rfl)
theorem d_X8_offer_51 : decode cX8_offer 51 = .ok (.ishl, 1) := zo_120 (zby_w zwX8_offer_1 19 rfl)
theorem d_X8_offer_52 : decode cX8_offer 52 = .ok (.ior, 1) := zo_128 (zby_w zwX8_offer_1 20 rfl)
theorem d_X8_offer_53 : decode cX8_offer 53 = .ok (.putfield 200, 3) := zo_181 (a := 0) (b := 200) (zby_w zwX8_offer_1 21 rfl) (zby_w zwX8_offer_1 22 rfl) (zby_w zwX8_offer_1 23 rfl) (by decide)
theorem d_X8_offer_56 : decode cX8_offer 56 = .ok (.aload 4, 2) := zo_25 (a := 4) (zby_w zwX8_offer_1 24 rfl) (zby_w zwX8_offer_1 25 rfl) (by decide)
theorem d_X8_offer_58 : decode cX8_offer 58 = .ok (.getfield 203, 3) := zo_180 (a := 0) (b := 203) (zby_w zwX8_offer_1 26 rfl) (zby_w zwX8_offer_1 27 rfl) (zby_w zwX8_offer_1 28 rfl) (by decide)
theorem d_X8_offer_61 : decode cX8_offer 61 = .ok (.iload_n 1, 1) := zo_27 (zby_w zwX8_offer_1 29 rfl)
theorem d_X8_offer_62 : decode cX8_offer 62 = .ok (.iload_n 2, 1) := zo_28 (zby_w zwX8_offer_1 30 rfl)
theorem d_X8_offer_63 : decode cX8_offer 63 = .ok (.iastore, 1) := zo_79 (zby_w zwX8_offer_1 31 rfl)
theorem d_X8_offer_64 : decode cX8_offer 64 = .ok (.aload 4, 2) := zo_25 (a := 4) (zby_w zwX8_offer_2 0 rfl) (zby_w zwX8_offer_2 1 rfl) (by decide)
theorem d_X8_offer_66 : decode cX8_offer 66 = .ok (.getfield 206, 3) := zo_180 (a := 0) (b := 206) (zby_w zwX8_offer_2 2 rfl) (zby_w zwX8_offer_2 3 rfl) (zby_w zwX8_offer_2 4 rfl) (by decide)
theorem d_X8_offer_69 : decode cX8_offer 69 = .ok (.iload_n 1, 1) := zo_27 (zby_w zwX8_offer_2 5 rfl)
theorem d_X8_offer_70 : decode cX8_offer 70 = .ok (.iload_n 3, 1) := zo_29 (zby_w zwX8_offer_2 6 rfl)
theorem d_X8_offer_71 : decode cX8_offer 71 = .ok (.iastore, 1) := zo_79 (zby_w zwX8_offer_2 7 rfl)
theorem d_X8_offer_72 : decode cX8_offer 72 = .ok (.aload 4, 2) := zo_25 (a := 4) (zby_w zwX8_offer_2 8 rfl) (zby_w zwX8_offer_2 9 rfl) (by decide)
theorem d_X8_offer_74 : decode cX8_offer 74 = .ok (.getfield 200, 3) := zo_180 (a := 0) (b := 200) (zby_w zwX8_offer_2 10 rfl) (zby_w zwX8_offer_2 11 rfl) (zby_w zwX8_offer_2 12 rfl) (by decide)
theorem d_X8_offer_77 : decode cX8_offer 77 = .ok (.invokestatic 73, 3) := zo_184 (a := 0) (b := 73) (zby_w zwX8_offer_2 13 rfl) (zby_w zwX8_offer_2 14 rfl) (zby_w zwX8_offer_2 15 rfl) (by decide)
theorem d_X8_offer_80 : decode cX8_offer 80 = .ok (.ireturn, 1) := zo_172 (zby_w zwX8_offer_2 16 rfl)
theorem d_X8_often_0 : decode cX8_often 0 = .ok (.iload_n 1, 1) := zo_27 (zby_w zwX8_often_0 0 rfl)
theorem d_X8_often_1 : decode cX8_often 1 = .ok (.iconst 1, 1) := zo_4 (zby_w zwX8_often_0 1 rfl)
theorem d_X8_often_2 : decode cX8_often 2 = .ok (.bipush 8, 2) := zo_16 (a := 8) (zby_w zwX8_often_0 2 rfl) (zby_w zwX8_often_0 3 rfl) (by decide)
theorem d_X8_often_4 : decode cX8_often 4 = .ok (.invokestatic 47, 3) := zo_184 (a := 0) (b := 47) (zby_w zwX8_often_0 4 rfl) (zby_w zwX8_often_0 5 rfl) (zby_w zwX8_often_0 6 rfl) (by decide)
theorem d_X8_often_7 : decode cX8_often 7 = .ok (.ifCond .eq 43, 3) := zo_153 (a := 0) (b := 43) (zby_w zwX8_often_0 7 rfl) (zby_w zwX8_often_0 8 rfl) (zby_w zwX8_often_0 9 rfl) (by decide)
theorem d_X8_often_10 : decode cX8_often 10 = .ok (.iload_n 2, 1) := zo_28 (zby_w zwX8_often_0 10 rfl)
theorem d_X8_often_11 : decode cX8_often 11 = .ok (.iconst 0, 1) := zo_3 (zby_w zwX8_often_0 11 rfl)
theorem d_X8_often_12 : decode cX8_often 12 = .ok (.iload_n 1, 1) := zo_27 (zby_w zwX8_often_0 12 rfl)
theorem d_X8_often_13 : decode cX8_often 13 = .ok (.invokestatic 47, 3) := zo_184 (a := 0) (b := 47) (zby_w zwX8_often_0 13 rfl) (zby_w zwX8_often_0 14 rfl) (zby_w zwX8_often_0 15 rfl) (by decide)
theorem d_X8_often_16 : decode cX8_often 16 = .ok (.ifCond .eq 34, 3) := zo_153 (a := 0) (b := 34) (zby_w zwX8_often_0 16 rfl) (zby_w zwX8_often_0 17 rfl) (zby_w zwX8_often_0 18 rfl) (by decide)
theorem d_X8_often_19 : decode cX8_often 19 = .ok (.iload_n 3, 1) := zo_29 (zby_w zwX8_often_0 19 rfl)
theorem d_X8_often_20 : decode cX8_often 20 = .ok (.iconst 1, 1) := zo_4 (zby_w zwX8_often_0 20 rfl)
theorem d_X8_often_21 : decode cX8_often 21 = .ok (.bipush 8, 2) := zo_16 (a := 8) (zby_w zwX8_often_0 21 rfl) (zby_w zwX8_often_0 22 rfl) (by decide)
theorem d_X8_often_23 : decode cX8_often 23 = .ok (.invokestatic 47, 3) := zo_184 (a := 0) (b := 47) (zby_w zwX8_often_0 23 rfl) (zby_w zwX8_often_0 24 rfl) (zby_w zwX8_often_0 25 rfl) (by decide)
theorem d_X8_often_26 : decode cX8_often 26 = .ok (.ifCond .eq 24, 3) := zo_153 (a := 0) (b := 24) (zby_w zwX8_often_0 26 rfl) (zby_w zwX8_often_0 27 rfl) (zby_w zwX8_often_0 28 rfl) (by decide)
theorem d_X8_often_29 : decode cX8_often 29 = .ok (.iload 4, 2) := zo_21 (a := 4) (zby_w zwX8_often_0 29 rfl) (zby_w zwX8_often_0 30 rfl) (by decide)
theorem d_X8_often_31 : decode cX8_often 31 = .ok (.iconst 0, 1) := zo_3 (zby_w zwX8_often_0 31 rfl)
theorem d_X8_often_32 : decode cX8_often 32 = .ok (.bipush 8, 2) := zo_16 (a := 8) (zby_w zwX8_often_1 0 rfl) (zby_w zwX8_often_1 1 rfl) (by decide)
theorem d_X8_often_34 : decode cX8_often 34 = .ok (.invokestatic 47, 3) := zo_184 (a := 0) (b := 47) (zby_w zwX8_often_1 2 rfl) (zby_w zwX8_often_1 3 rfl) (zby_w zwX8_often_1 4 rfl) (by decide)
theorem d_X8_often_37 : decode cX8_often 37 = .ok (.ifCond .eq 13, 3) := zo_153 (a := 0) (b := 13) (zby_w zwX8_often_1 5 rfl) (zby_w zwX8_often_1 6 rfl) (zby_w zwX8_often_1 7 rfl) (by decide)
theorem d_X8_often_40 : decode cX8_often 40 = .ok (.iload 5, 2) := zo_21 (a := 5) (zby_w zwX8_often_1 8 rfl) (zby_w zwX8_often_1 9 rfl) (by decide)
theorem d_X8_often_42 : decode cX8_often 42 = .ok (.iconst 0, 1) := zo_3 (zby_w zwX8_often_1 10 rfl)
theorem d_X8_often_43 : decode cX8_often 43 = .ok (.iconst 1, 1) := zo_4 (zby_w zwX8_often_1 11 rfl)
theorem d_X8_often_44 : decode cX8_often 44 = .ok (.invokestatic 47, 3) := zo_184 (a := 0) (b := 47) (zby_w zwX8_often_1 12 rfl) (zby_w zwX8_often_1 13 rfl) (zby_w zwX8_often_1 14 rfl) (by decide)
theorem d_X8_often_47 : decode cX8_often 47 = .ok (.ifCond .ne 7, 3) := zo_154 (a := 0) (b := 7) (zby_w zwX8_often_1 15 rfl) (zby_w zwX8_often_1 16 rfl) (zby_w zwX8_often_1 17 rfl) (by decide)
theorem d_X8_often_50 : decode cX8_often 50 = .ok (.ldc2_w 241, 3) := zo_20 (a := 0) (b := 241) (zby_w zwX8_often_1 18 rfl) (zby_w zwX8_often_1 19 rfl) (zby_w zwX8_often_1 20 rfl) (by decide)
theorem d_X8_often_53 : decode cX8_often 53 = .ok (.lreturn, 1) := zo_173 (zby_w zwX8_often_1 21 rfl)
theorem d_X8_often_54 : decode cX8_often 54 = .ok (.lconst 0, 1) := zo_9 (zby_w zwX8_often_1 22 rfl)
theorem d_X8_often_55 : decode cX8_often 55 = .ok (.lstore 6, 2) := zo_55 (a := 6) (zby_w zwX8_often_1 23 rfl) (zby_w zwX8_often_1 24 rfl) (by decide)
theorem d_X8_often_57 : decode cX8_often 57 = .ok (.iload 4, 2) := zo_21 (a := 4) (zby_w zwX8_often_1 25 rfl) (zby_w zwX8_often_1 26 rfl) (by decide)
theorem d_X8_often_59 : decode cX8_often 59 = .ok (.istore 8, 2) := zo_54 (a := 8) (zby_w zwX8_often_1 27 rfl) (zby_w zwX8_often_1 28 rfl) (by decide)
theorem d_X8_often_61 : decode cX8_often 61 = .ok (.iload 8, 2) := zo_21 (a := 8) (zby_w zwX8_often_1 29 rfl) (zby_w zwX8_often_1 30 rfl) (by decide)
theorem d_X8_often_63 : decode cX8_often 63 = .ok (.iload_n 3, 1) := zo_29 (zby_w zwX8_often_1 31 rfl)
theorem d_X8_often_64 : decode cX8_often 64 = .ok (.if_icmp .gt 38, 3) := zo_163 (a := 0) (b := 38) (zby_w zwX8_often_2 0 rfl) (zby_w zwX8_often_2 1 rfl) (zby_w zwX8_often_2 2 rfl) (by decide)
theorem d_X8_often_67 : decode cX8_often 67 = .ok (.lload 6, 2) := zo_22 (a := 6) (zby_w zwX8_often_2 3 rfl) (zby_w zwX8_often_2 4 rfl) (by decide)
theorem d_X8_often_69 : decode cX8_often 69 = .ok (.iload_n 3, 1) := zo_29 (zby_w zwX8_often_2 5 rfl)
theorem d_X8_often_70 : decode cX8_often 70 = .ok (.iload 8, 2) := zo_21 (a := 8) (zby_w zwX8_often_2 6 rfl) (zby_w zwX8_often_2 7 rfl) (by decide)
theorem d_X8_often_72 : decode cX8_often 72 = .ok (.invokestatic 250, 3) := zo_184 (a := 0) (b := 250) (zby_w zwX8_often_2 8 rfl) (zby_w zwX8_often_2 9 rfl) (zby_w zwX8_often_2 10 rfl) (by decide)
theorem d_X8_often_75 : decode cX8_often 75 = .ok (.iload_n 2, 1) := zo_28 (zby_w zwX8_often_2 11 rfl)
theorem d_X8_often_76 : decode cX8_often 76 = .ok (.iload 8, 2) := zo_21 (a := 8) (zby_w zwX8_often_2 12 rfl) (zby_w zwX8_often_2 13 rfl) (by decide)
theorem d_X8_often_78 : decode cX8_often 78 = .ok (.invokestatic 254, 3) := zo_184 (a := 0) (b := 254) (zby_w zwX8_often_2 14 rfl) (zby_w zwX8_often_2 15 rfl) (zby_w zwX8_often_2 16 rfl) (by decide)
theorem d_X8_often_81 : decode cX8_often 81 = .ok (.lmul, 1) := zo_105 (zby_w zwX8_often_2 17 rfl)
theorem d_X8_often_82 : decode cX8_often 82 = .ok (.iload_n 1, 1) := zo_27 (zby_w zwX8_often_2 18 rfl)
theorem d_X8_often_83 : decode cX8_often 83 = .ok (.iload_n 2, 1) := zo_28 (zby_w zwX8_often_2 19 rfl)
theorem d_X8_often_84 : decode cX8_often 84 = .ok (.isub, 1) := zo_100 (zby_w zwX8_often_2 20 rfl)
theorem d_X8_often_85 : decode cX8_often 85 = .ok (.iload_n 3, 1) := zo_29 (zby_w zwX8_often_2 21 rfl)
theorem d_X8_often_86 : decode cX8_often 86 = .ok (.iload 8, 2) := zo_21 (a := 8) (zby_w zwX8_often_2 22 rfl) (zby_w zwX8_often_2 23 rfl) (by decide)
theorem d_X8_often_88 : decode cX8_often 88 = .ok (.isub, 1) := zo_100 (zby_w zwX8_often_2 24 rfl)
theorem d_X8_often_89 : decode cX8_often 89 = .ok (.invokestatic 254, 3) := zo_184 (a := 0) (b := 254) (zby_w zwX8_often_2 25 rfl) (zby_w zwX8_often_2 26 rfl) (zby_w zwX8_often_2 27 rfl) (by decide)
theorem d_X8_often_92 : decode cX8_often 92 = .ok (.lmul, 1) := zo_105 (zby_w zwX8_often_2 28 rfl)
theorem d_X8_often_93 : decode cX8_often 93 = .ok (.ladd, 1) := zo_97 (zby_w zwX8_often_2 29 rfl)
theorem d_X8_often_94 : decode cX8_often 94 = .ok (.lstore 6, 2) := zo_55 (a := 6) (zby_w zwX8_often_2 30 rfl) (zby_w zwX8_often_2 31 rfl) (by decide)
theorem d_X8_often_96 : decode cX8_often 96 = .ok (.iinc 8 1, 3) := by decide +kernel
theorem d_X8_often_99 : decode cX8_often 99 = .ok (.goto (-38), 3) := zo_167 (a := 255) (b := 218) (zby_w zwX8_often_3 3 rfl) (zby_w zwX8_often_3 4 rfl) (zby_w zwX8_often_3 5 rfl) (by decide)
theorem d_X8_often_102 : decode cX8_often 102 = .ok (.lload 6, 2) := zo_22 (a := 6) (zby_w zwX8_often_3 6 rfl) (zby_w zwX8_often_3 7 rfl) (by decide)
theorem d_X8_often_104 : decode cX8_often 104 = .ok (.iload_n 1, 1) := zo_27 (zby_w zwX8_often_3 8 rfl)
theorem d_X8_often_105 : decode cX8_often 105 = .ok (.iload_n 3, 1) := zo_29 (zby_w zwX8_often_3 9 rfl)
theorem d_X8_often_106 : decode cX8_often 106 = .ok (.invokestatic 254, 3) := zo_184 (a := 0) (b := 254) (zby_w zwX8_often_3 10 rfl) (zby_w zwX8_often_3 11 rfl) (zby_w zwX8_often_3 12 rfl) (by decide)
theorem d_X8_often_109 : decode cX8_often 109 = .ok (.iload 5, 2) := zo_21 (a := 5) (zby_w zwX8_often_3 13 rfl) (zby_w zwX8_often_3 14 rfl) (by decide)
theorem d_X8_often_111 : decode cX8_often 111 = .ok (.invokestatic 246, 3) := zo_184 (a := 0) (b := 246) (zby_w zwX8_often_3 15 rfl) (zby_w zwX8_often_3 16 rfl) (zby_w zwX8_often_3 17 rfl) (by decide)
theorem d_X8_often_114 : decode cX8_often 114 = .ok (.lreturn, 1) := zo_173 (zby_w zwX8_often_3 18 rfl)
theorem d_X8_partOf_0 : decode cX8_partOf 0 = .ok (.lload_n 0, 1) := zo_30 (zby_w zwX8_partOf_0 0 rfl)
theorem d_X8_partOf_1 : decode cX8_partOf 1 = .ok (.lload_n 2, 1) := zo_32 (zby_w zwX8_partOf_0 1 rfl)
theorem d_X8_partOf_2 : decode cX8_partOf 2 = .ok (.invokestatic 288, 3) := zo_184 (a := 1) (b := 32) (zby_w zwX8_partOf_0 2 rfl) (zby_w zwX8_partOf_0 3 rfl) (zby_w zwX8_partOf_0 4 rfl) (by decide)
theorem d_X8_partOf_5 : decode cX8_partOf 5 = .ok (.lstore 5, 2) := zo_55 (a := 5) (zby_w zwX8_partOf_0 5 rfl) (zby_w zwX8_partOf_0 6 rfl) (by decide)
theorem d_X8_partOf_7 : decode cX8_partOf 7 = .ok (.lload 5, 2) := zo_22 (a := 5) (zby_w zwX8_partOf_0 7 rfl) (zby_w zwX8_partOf_0 8 rfl) (by decide)
theorem d_X8_partOf_9 : decode cX8_partOf 9 = .ok (.lconst 1, 1) := zo_10 (zby_w zwX8_partOf_0 9 rfl)
theorem d_X8_partOf_10 : decode cX8_partOf 10 = .ok (.lcmp, 1) := zo_148 (zby_w zwX8_partOf_0 10 rfl)
theorem d_X8_partOf_11 : decode cX8_partOf 11 = .ok (.ifCond .ge 5, 3) := zo_156 (a := 0) (b := 5) (zby_w zwX8_partOf_0 11 rfl) (zby_w zwX8_partOf_0 12 rfl) (zby_w zwX8_partOf_0 13 rfl) (by decide)
theorem d_X8_partOf_14 : decode cX8_partOf 14 = .ok (.lconst 0, 1) := zo_9 (zby_w zwX8_partOf_0 14 rfl)
theorem d_X8_partOf_15 : decode cX8_partOf 15 = .ok (.lreturn, 1) := zo_173 (zby_w zwX8_partOf_0 15 rfl)
theorem d_X8_partOf_16 : decode cX8_partOf 16 = .ok (.iload 4, 2) := zo_21 (a := 4) (zby_w zwX8_partOf_0 16 rfl) (zby_w zwX8_partOf_0 17 rfl) (by decide)
theorem d_X8_partOf_18 : decode cX8_partOf 18 = .ok (.ifCond .ne 7, 3) := zo_154 (a := 0) (b := 7) (zby_w zwX8_partOf_0 18 rfl) (zby_w zwX8_partOf_0 19 rfl) (zby_w zwX8_partOf_0 20 rfl) (by decide)
theorem d_X8_partOf_21 : decode cX8_partOf 21 = .ok (.lload_n 0, 1) := zo_30 (zby_w zwX8_partOf_0 21 rfl)
theorem d_X8_partOf_22 : decode cX8_partOf 22 = .ok (.goto 4, 3) := zo_167 (a := 0) (b := 4) (zby_w zwX8_partOf_0 22 rfl) (zby_w zwX8_partOf_0 23 rfl) (zby_w zwX8_partOf_0 24 rfl) (by decide)
theorem d_X8_partOf_25 : decode cX8_partOf 25 = .ok (.lload_n 2, 1) := zo_32 (zby_w zwX8_partOf_0 25 rfl)
theorem d_X8_partOf_26 : decode cX8_partOf 26 = .ok (.lload 5, 2) := zo_22 (a := 5) (zby_w zwX8_partOf_0 26 rfl) (zby_w zwX8_partOf_0 27 rfl) (by decide)
theorem d_X8_partOf_28 : decode cX8_partOf 28 = .ok (.ldiv, 1) := zo_109 (zby_w zwX8_partOf_0 28 rfl)
theorem d_X8_partOf_29 : decode cX8_partOf 29 = .ok (.lreturn, 1) := zo_173 (zby_w zwX8_partOf_0 29 rfl)
theorem d_X8_persuaded_0 : decode cX8_persuaded 0 = .ok (.aload_n 0, 1) := zo_42 (zby_w zwX8_persuaded_0 0 rfl)
theorem d_X8_persuaded_1 : decode cX8_persuaded 1 = .ok (.iload_n 1, 1) := zo_27 (zby_w zwX8_persuaded_0 1 rfl)
theorem d_X8_persuaded_2 : decode cX8_persuaded 2 = .ok (.iload_n 2, 1) := zo_28 (zby_w zwX8_persuaded_0 2 rfl)
theorem d_X8_persuaded_3 : decode cX8_persuaded 3 = .ok (.invokevirtual 155, 3) := zo_182 (a := 0) (b := 155) (zby_w zwX8_persuaded_0 3 rfl) (zby_w zwX8_persuaded_0 4 rfl) (zby_w zwX8_persuaded_0 5 rfl) (by decide)
theorem d_X8_persuaded_6 : decode cX8_persuaded 6 = .ok (.istore_n 3, 1) := zo_62 (zby_w zwX8_persuaded_0 6 rfl)
theorem d_X8_persuaded_7 : decode cX8_persuaded 7 = .ok (.iload_n 3, 1) := zo_29 (zby_w zwX8_persuaded_0 7 rfl)
theorem d_X8_persuaded_8 : decode cX8_persuaded 8 = .ok (.ifCond .eq 5, 3) := zo_153 (a := 0) (b := 5) (zby_w zwX8_persuaded_0 8 rfl) (zby_w zwX8_persuaded_0 9 rfl) (zby_w zwX8_persuaded_0 10 rfl) (by decide)
theorem d_X8_persuaded_11 : decode cX8_persuaded 11 = .ok (.iload_n 3, 1) := zo_29 (zby_w zwX8_persuaded_0 11 rfl)
theorem d_X8_persuaded_12 : decode cX8_persuaded 12 = .ok (.ireturn, 1) := zo_172 (zby_w zwX8_persuaded_0 12 rfl)
theorem d_X8_persuaded_13 : decode cX8_persuaded 13 = .ok (.aload_n 0, 1) := zo_42 (zby_w zwX8_persuaded_0 13 rfl)
theorem d_X8_persuaded_14 : decode cX8_persuaded 14 = .ok (.getfield 10, 3) := zo_180 (a := 0) (b := 10) (zby_w zwX8_persuaded_0 14 rfl) (zby_w zwX8_persuaded_0 15 rfl) (zby_w zwX8_persuaded_0 16 rfl) (by decide)
theorem d_X8_persuaded_17 : decode cX8_persuaded 17 = .ok (.getfield 51, 3) := zo_180 (a := 0) (b := 51) (zby_w zwX8_persuaded_0 17 rfl) (zby_w zwX8_persuaded_0 18 rfl) (zby_w zwX8_persuaded_0 19 rfl) (by decide)
theorem d_X8_persuaded_20 : decode cX8_persuaded 20 = .ok (.iload_n 1, 1) := zo_27 (zby_w zwX8_persuaded_0 20 rfl)
theorem d_X8_persuaded_21 : decode cX8_persuaded 21 = .ok (.iload_n 2, 1) := zo_28 (zby_w zwX8_persuaded_0 21 rfl)
theorem d_X8_persuaded_22 : decode cX8_persuaded 22 = .ok (.invokevirtual 158, 3) := zo_182 (a := 0) (b := 158) (zby_w zwX8_persuaded_0 22 rfl) (zby_w zwX8_persuaded_0 23 rfl) (zby_w zwX8_persuaded_0 24 rfl) (by decide)
theorem d_X8_persuaded_25 : decode cX8_persuaded 25 = .ok (.istore 4, 2) := zo_54 (a := 4) (zby_w zwX8_persuaded_0 25 rfl) (zby_w zwX8_persuaded_0 26 rfl) (by decide)
theorem d_X8_persuaded_27 : decode cX8_persuaded 27 = .ok (.getstatic 83, 3) := zo_178 (a := 0) (b := 83) (zby_w zwX8_persuaded_0 27 rfl) (zby_w zwX8_persuaded_0 28 rfl) (zby_w zwX8_persuaded_0 29 rfl) (by decide)
theorem d_X8_persuaded_30 : decode cX8_persuaded 30 = .ok (.bipush 6, 2) := zo_16 (a := 6) (zby_w zwX8_persuaded_0 30 rfl) (zby_w zwX8_persuaded_0 31 rfl) (by decide)
theorem d_X8_persuaded_32 : decode cX8_persuaded 32 = .ok (.iaload, 1) := zo_46 (zby_w zwX8_persuaded_1 0 rfl)
theorem d_X8_persuaded_33 : decode cX8_persuaded 33 = .ok (.istore 5, 2) := zo_54 (a := 5) (zby_w zwX8_persuaded_1 1 rfl) (zby_w zwX8_persuaded_1 2 rfl) (by decide)
theorem d_X8_persuaded_35 : decode cX8_persuaded 35 = .ok (.iload 5, 2) := zo_21 (a := 5) (zby_w zwX8_persuaded_1 3 rfl) (zby_w zwX8_persuaded_1 4 rfl) (by decide)
theorem d_X8_persuaded_37 : decode cX8_persuaded 37 = .ok (.getstatic 86, 3) := zo_178 (a := 0) (b := 86) (zby_w zwX8_persuaded_1 5 rfl) (zby_w zwX8_persuaded_1 6 rfl) (zby_w zwX8_persuaded_1 7 rfl) (by decide)
theorem d_X8_persuaded_40 : decode cX8_persuaded 40 = .ok (.bipush 6, 2) := zo_16 (a := 6) (zby_w zwX8_persuaded_1 8 rfl) (zby_w zwX8_persuaded_1 9 rfl) (by decide)
theorem d_X8_persuaded_42 : decode cX8_persuaded 42 = .ok (.iaload, 1) := zo_46 (zby_w zwX8_persuaded_1 10 rfl)
theorem d_X8_persuaded_43 : decode cX8_persuaded 43 = .ok (.if_icmp .gt 31, 3) := zo_163 (a := 0) (b := 31) (zby_w zwX8_persuaded_1 11 rfl) (zby_w zwX8_persuaded_1 12 rfl) (zby_w zwX8_persuaded_1 13 rfl) (by decide)
theorem d_X8_persuaded_46 : decode cX8_persuaded 46 = .ok (.aload_n 0, 1) := zo_42 (zby_w zwX8_persuaded_1 14 rfl)
theorem d_X8_persuaded_47 : decode cX8_persuaded 47 = .ok (.getfield 10, 3) := zo_180 (a := 0) (b := 10) (zby_w zwX8_persuaded_1 15 rfl) (zby_w zwX8_persuaded_1 16 rfl) (zby_w zwX8_persuaded_1 17 rfl) (by decide)
theorem d_X8_persuaded_50 : decode cX8_persuaded 50 = .ok (.getfield 51, 3) := zo_180 (a := 0) (b := 51) (zby_w zwX8_persuaded_1 18 rfl) (zby_w zwX8_persuaded_1 19 rfl) (zby_w zwX8_persuaded_1 20 rfl) (by decide)
theorem d_X8_persuaded_53 : decode cX8_persuaded 53 = .ok (.iload_n 1, 1) := zo_27 (zby_w zwX8_persuaded_1 21 rfl)
theorem d_X8_persuaded_54 : decode cX8_persuaded 54 = .ok (.iload_n 2, 1) := zo_28 (zby_w zwX8_persuaded_1 22 rfl)
theorem d_X8_persuaded_55 : decode cX8_persuaded 55 = .ok (.iload 5, 2) := zo_21 (a := 5) (zby_w zwX8_persuaded_1 23 rfl) (zby_w zwX8_persuaded_1 24 rfl) (by decide)
theorem d_X8_persuaded_57 : decode cX8_persuaded 57 = .ok (.invokevirtual 193, 3) := zo_182 (a := 0) (b := 193) (zby_w zwX8_persuaded_1 25 rfl) (zby_w zwX8_persuaded_1 26 rfl) (zby_w zwX8_persuaded_1 27 rfl) (by decide)
theorem d_X8_persuaded_60 : decode cX8_persuaded 60 = .ok (.iload 4, 2) := zo_21 (a := 4) (zby_w zwX8_persuaded_1 28 rfl) (zby_w zwX8_persuaded_1 29 rfl) (by decide)
theorem d_X8_persuaded_62 : decode cX8_persuaded 62 = .ok (.if_icmp .ne 6, 3) := zo_160 (a := 0) (b := 6) (zby_w zwX8_persuaded_1 30 rfl) (zby_w zwX8_persuaded_1 31 rfl) (zby_w zwX8_persuaded_1 32 rfl) (by decide)
theorem d_X8_persuaded_65 : decode cX8_persuaded 65 = .ok (.iload 5, 2) := zo_21 (a := 5) (zby_w zwX8_persuaded_2 1 rfl) (zby_w zwX8_persuaded_2 2 rfl) (by decide)
theorem d_X8_persuaded_67 : decode cX8_persuaded 67 = .ok (.ireturn, 1) := zo_172 (zby_w zwX8_persuaded_2 3 rfl)
theorem d_X8_persuaded_68 : decode cX8_persuaded 68 = .ok (.iinc 5 1, 3) := by decide +kernel
theorem d_X8_persuaded_71 : decode cX8_persuaded 71 = .ok (.goto (-36), 3) := zo_167 (a := 255) (b := 220) (zby_w zwX8_persuaded_2 7 rfl) (zby_w zwX8_persuaded_2 8 rfl) (zby_w zwX8_persuaded_2 9 rfl) (by decide)
theorem d_X8_persuaded_74 : decode cX8_persuaded 74 = .ok (.bipush (-6), 2) := zo_16 (a := 250) (zby_w zwX8_persuaded_2 10 rfl) (zby_w zwX8_persuaded_2 11 rfl) (by decide)
theorem d_X8_persuaded_76 : decode cX8_persuaded 76 = .ok (.ireturn, 1) := zo_172 (zby_w zwX8_persuaded_2 12 rfl)
theorem d_X8_power_0 : decode cX8_power 0 = .ok (.lconst 1, 1) := zo_10 (zby_w zwX8_power_0 0 rfl)
theorem d_X8_power_1 : decode cX8_power 1 = .ok (.lstore_n 2, 1) := zo_65 (zby_w zwX8_power_0 1 rfl)
theorem d_X8_power_2 : decode cX8_power 2 = .ok (.iconst 0, 1) := zo_3 (zby_w zwX8_power_0 2 rfl)
theorem d_X8_power_3 : decode cX8_power 3 = .ok (.istore 4, 2) := zo_54 (a := 4) (zby_w zwX8_power_0 3 rfl) (zby_w zwX8_power_0 4 rfl) (by decide)
theorem d_X8_power_5 : decode cX8_power 5 = .ok (.iload 4, 2) := zo_21 (a := 4) (zby_w zwX8_power_0 5 rfl) (zby_w zwX8_power_0 6 rfl) (by decide)
theorem d_X8_power_7 : decode cX8_power 7 = .ok (.iload_n 1, 1) := zo_27 (zby_w zwX8_power_0 7 rfl)
theorem d_X8_power_8 : decode cX8_power 8 = .ok (.if_icmp .ge 14, 3) := zo_162 (a := 0) (b := 14) (zby_w zwX8_power_0 8 rfl) (zby_w zwX8_power_0 9 rfl) (zby_w zwX8_power_0 10 rfl) (by decide)
theorem d_X8_power_11 : decode cX8_power 11 = .ok (.lload_n 2, 1) := zo_32 (zby_w zwX8_power_0 11 rfl)
theorem d_X8_power_12 : decode cX8_power 12 = .ok (.iload_n 0, 1) := zo_26 (zby_w zwX8_power_0 12 rfl)
theorem d_X8_power_13 : decode cX8_power 13 = .ok (.i2l, 1) := zo_133 (zby_w zwX8_power_0 13 rfl)
theorem d_X8_power_14 : decode cX8_power 14 = .ok (.lmul, 1) := zo_105 (zby_w zwX8_power_0 14 rfl)
theorem d_X8_power_15 : decode cX8_power 15 = .ok (.lstore_n 2, 1) := zo_65 (zby_w zwX8_power_0 15 rfl)
theorem d_X8_power_16 : decode cX8_power 16 = .ok (.iinc 4 1, 3) := by decide +kernel
theorem d_X8_power_19 : decode cX8_power 19 = .ok (.goto (-14), 3) := zo_167 (a := 255) (b := 242) (zby_w zwX8_power_0 19 rfl) (zby_w zwX8_power_0 20 rfl) (zby_w zwX8_power_0 21 rfl) (by decide)
theorem d_X8_power_22 : decode cX8_power 22 = .ok (.lload_n 2, 1) := zo_32 (zby_w zwX8_power_0 22 rfl)
theorem d_X8_power_23 : decode cX8_power 23 = .ok (.lreturn, 1) := zo_173 (zby_w zwX8_power_0 23 rfl)
theorem d_X8_refusalOf_0 : decode cX8_refusalOf 0 = .ok (.aload_n 0, 1) := zo_42 (zby_w zwX8_refusalOf_0 0 rfl)
theorem d_X8_refusalOf_1 : decode cX8_refusalOf 1 = .ok (.getfield 10, 3) := zo_180 (a := 0) (b := 10) (zby_w zwX8_refusalOf_0 1 rfl) (zby_w zwX8_refusalOf_0 2 rfl) (zby_w zwX8_refusalOf_0 3 rfl) (by decide)
theorem d_X8_refusalOf_4 : decode cX8_refusalOf 4 = .ok (.getfield 51, 3) := zo_180 (a := 0) (b := 51) (zby_w zwX8_refusalOf_0 4 rfl) (zby_w zwX8_refusalOf_0 5 rfl) (zby_w zwX8_refusalOf_0 6 rfl) (by decide)
theorem d_X8_refusalOf_7 : decode cX8_refusalOf 7 = .ok (.iload_n 1, 1) := zo_27 (zby_w zwX8_refusalOf_0 7 rfl)
theorem d_X8_refusalOf_8 : decode cX8_refusalOf 8 = .ok (.invokevirtual 79, 3) := zo_182 (a := 0) (b := 79) (zby_w zwX8_refusalOf_0 8 rfl) (zby_w zwX8_refusalOf_0 9 rfl) (zby_w zwX8_refusalOf_0 10 rfl) (by decide)
theorem d_X8_refusalOf_11 : decode cX8_refusalOf 11 = .ok (.ifCond .ne 5, 3) := zo_154 (a := 0) (b := 5) (zby_w zwX8_refusalOf_0 11 rfl) (zby_w zwX8_refusalOf_0 12 rfl) (zby_w zwX8_refusalOf_0 13 rfl) (by decide)
theorem d_X8_refusalOf_14 : decode cX8_refusalOf 14 = .ok (.iconst (-1), 1) := zo_2 (zby_w zwX8_refusalOf_0 14 rfl)
theorem d_X8_refusalOf_15 : decode cX8_refusalOf 15 = .ok (.ireturn, 1) := zo_172 (zby_w zwX8_refusalOf_0 15 rfl)
theorem d_X8_refusalOf_16 : decode cX8_refusalOf 16 = .ok (.iload_n 2, 1) := zo_28 (zby_w zwX8_refusalOf_0 16 rfl)
theorem d_X8_refusalOf_17 : decode cX8_refusalOf 17 = .ok (.invokestatic 145, 3) := zo_184 (a := 0) (b := 145) (zby_w zwX8_refusalOf_0 17 rfl) (zby_w zwX8_refusalOf_0 18 rfl) (zby_w zwX8_refusalOf_0 19 rfl) (by decide)
theorem d_X8_refusalOf_20 : decode cX8_refusalOf 20 = .ok (.ifCond .eq 7, 3) := zo_153 (a := 0) (b := 7) (zby_w zwX8_refusalOf_0 20 rfl) (zby_w zwX8_refusalOf_0 21 rfl) (zby_w zwX8_refusalOf_0 22 rfl) (by decide)
theorem d_X8_refusalOf_23 : decode cX8_refusalOf 23 = .ok (.iconst 0, 1) := zo_3 (zby_w zwX8_refusalOf_0 23 rfl)
theorem d_X8_refusalOf_24 : decode cX8_refusalOf 24 = .ok (.goto 5, 3) := zo_167 (a := 0) (b := 5) (zby_w zwX8_refusalOf_0 24 rfl) (zby_w zwX8_refusalOf_0 25 rfl) (zby_w zwX8_refusalOf_0 26 rfl) (by decide)
theorem d_X8_refusalOf_27 : decode cX8_refusalOf 27 = .ok (.bipush (-2), 2) := zo_16 (a := 254) (zby_w zwX8_refusalOf_0 27 rfl) (zby_w zwX8_refusalOf_0 28 rfl) (by decide)
theorem d_X8_refusalOf_29 : decode cX8_refusalOf 29 = .ok (.ireturn, 1) := zo_172 (zby_w zwX8_refusalOf_0 29 rfl)
theorem d_X8_restore_0 : decode cX8_restore 0 = .ok (.iload_n 1, 1) := zo_27 (zby_w zwX8_restore_0 0 rfl)
theorem d_X8_restore_1 : decode cX8_restore 1 = .ok (.iconst 0, 1) := zo_3 (zby_w zwX8_restore_0 1 rfl)
theorem d_X8_restore_2 : decode cX8_restore 2 = .ok (.iconst 1, 1) := zo_4 (zby_w zwX8_restore_0 2 rfl)
theorem d_X8_restore_3 : decode cX8_restore 3 = .ok (.invokestatic 47, 3) := zo_184 (a := 0) (b := 47) (zby_w zwX8_restore_0 3 rfl) (zby_w zwX8_restore_0 4 rfl) (zby_w zwX8_restore_0 5 rfl) (by decide)
theorem d_X8_restore_6 : decode cX8_restore 6 = .ok (.ifCond .ne 6, 3) := zo_154 (a := 0) (b := 6) (zby_w zwX8_restore_0 6 rfl) (zby_w zwX8_restore_0 7 rfl) (zby_w zwX8_restore_0 8 rfl) (by decide)
theorem d_X8_restore_9 : decode cX8_restore 9 = .ok (.bipush (-2), 2) := zo_16 (a := 254) (zby_w zwX8_restore_0 9 rfl) (zby_w zwX8_restore_0 10 rfl) (by decide)
theorem d_X8_restore_11 : decode cX8_restore 11 = .ok (.ireturn, 1) := zo_172 (zby_w zwX8_restore_0 11 rfl)
theorem d_X8_restore_12 : decode cX8_restore 12 = .ok (.aload_n 0, 1) := zo_42 (zby_w zwX8_restore_0 12 rfl)
theorem d_X8_restore_13 : decode cX8_restore 13 = .ok (.getfield 22, 3) := zo_180 (a := 0) (b := 22) (zby_w zwX8_restore_0 13 rfl) (zby_w zwX8_restore_0 14 rfl) (zby_w zwX8_restore_0 15 rfl) (by decide)
theorem d_X8_restore_16 : decode cX8_restore 16 = .ok (.iload_n 1, 1) := zo_27 (zby_w zwX8_restore_0 16 rfl)
theorem d_X8_restore_17 : decode cX8_restore 17 = .ok (.ishr, 1) := zo_122 (zby_w zwX8_restore_0 17 rfl)
theorem d_X8_restore_18 : decode cX8_restore 18 = .ok (.iconst 1, 1) := zo_4 (zby_w zwX8_restore_0 18 rfl)
theorem d_X8_restore_19 : decode cX8_restore 19 = .ok (.iand, 1) := zo_126 (zby_w zwX8_restore_0 19 rfl)
theorem d_X8_restore_20 : decode cX8_restore 20 = .ok (.ifCond .ne 6, 3) := zo_154 (a := 0) (b := 6) (zby_w zwX8_restore_0 20 rfl) (zby_w zwX8_restore_0 21 rfl) (zby_w zwX8_restore_0 22 rfl) (by decide)
theorem d_X8_restore_23 : decode cX8_restore 23 = .ok (.bipush (-3), 2) := zo_16 (a := 253) (zby_w zwX8_restore_0 23 rfl) (zby_w zwX8_restore_0 24 rfl) (by decide)
theorem d_X8_restore_25 : decode cX8_restore 25 = .ok (.ireturn, 1) := zo_172 (zby_w zwX8_restore_0 25 rfl)
theorem d_X8_restore_26 : decode cX8_restore 26 = .ok (.aload_n 0, 1) := zo_42 (zby_w zwX8_restore_0 26 rfl)
theorem d_X8_restore_27 : decode cX8_restore 27 = .ok (.getfield 10, 3) := zo_180 (a := 0) (b := 10) (zby_w zwX8_restore_0 27 rfl) (zby_w zwX8_restore_0 28 rfl) (zby_w zwX8_restore_0 29 rfl) (by decide)
theorem d_X8_restore_30 : decode cX8_restore 30 = .ok (.aload_n 0, 1) := zo_42 (zby_w zwX8_restore_0 30 rfl)
theorem d_X8_restore_31 : decode cX8_restore 31 = .ok (.iload_n 1, 1) := zo_27 (zby_w zwX8_restore_0 31 rfl)
theorem d_X8_restore_32 : decode cX8_restore 32 = .ok (.invokevirtual 280, 3) := zo_182 (a := 1) (b := 24) (zby_w zwX8_restore_1 0 rfl) (zby_w zwX8_restore_1 1 rfl) (zby_w zwX8_restore_1 2 rfl) (by decide)
theorem d_X8_restore_35 : decode cX8_restore 35 = .ok (.invokevirtual 284, 3) := zo_182 (a := 1) (b := 28) (zby_w zwX8_restore_1 3 rfl) (zby_w zwX8_restore_1 4 rfl) (zby_w zwX8_restore_1 5 rfl) (by decide)
theorem d_X8_restore_38 : decode cX8_restore 38 = .ok (.iconst 1, 1) := zo_4 (zby_w zwX8_restore_1 6 rfl)
theorem d_X8_restore_39 : decode cX8_restore 39 = .ok (.ireturn, 1) := zo_172 (zby_w zwX8_restore_1 7 rfl)
theorem d_X8_roll_0 : decode cX8_roll 0 = .ok (.iload_n 1, 1) := zo_27 (zby_w zwX8_roll_0 0 rfl)
theorem d_X8_roll_1 : decode cX8_roll 1 = .ok (.iconst 0, 1) := zo_3 (zby_w zwX8_roll_0 1 rfl)
theorem d_X8_roll_2 : decode cX8_roll 2 = .ok (.sipush 255, 3) := zo_17 (a := 0) (b := 255) (zby_w zwX8_roll_0 2 rfl) (zby_w zwX8_roll_0 3 rfl) (zby_w zwX8_roll_0 4 rfl) (by decide)
theorem d_X8_roll_5 : decode cX8_roll 5 = .ok (.invokestatic 47, 3) := zo_184 (a := 0) (b := 47) (zby_w zwX8_roll_0 5 rfl) (zby_w zwX8_roll_0 6 rfl) (zby_w zwX8_roll_0 7 rfl) (by decide)
theorem d_X8_roll_8 : decode cX8_roll 8 = .ok (.ifCond .eq 16, 3) := zo_153 (a := 0) (b := 16) (zby_w zwX8_roll_0 8 rfl) (zby_w zwX8_roll_0 9 rfl) (zby_w zwX8_roll_0 10 rfl) (by decide)
theorem d_X8_roll_11 : decode cX8_roll 11 = .ok (.iload_n 2, 1) := zo_28 (zby_w zwX8_roll_0 11 rfl)
theorem d_X8_roll_12 : decode cX8_roll 12 = .ok (.iload_n 1, 1) := zo_27 (zby_w zwX8_roll_0 12 rfl)
theorem d_X8_roll_13 : decode cX8_roll 13 = .ok (.invokestatic 73, 3) := zo_184 (a := 0) (b := 73) (zby_w zwX8_roll_0 13 rfl) (zby_w zwX8_roll_0 14 rfl) (zby_w zwX8_roll_0 15 rfl) (by decide)
theorem d_X8_roll_16 : decode cX8_roll 16 = .ok (.bipush 8, 2) := zo_16 (a := 8) (zby_w zwX8_roll_0 16 rfl) (zby_w zwX8_roll_0 17 rfl) (by decide)
theorem d_X8_roll_18 : decode cX8_roll 18 = .ok (.invokestatic 47, 3) := zo_184 (a := 0) (b := 47) (zby_w zwX8_roll_0 18 rfl) (zby_w zwX8_roll_0 19 rfl) (zby_w zwX8_roll_0 20 rfl) (by decide)
theorem d_X8_roll_21 : decode cX8_roll 21 = .ok (.ifCond .ne 6, 3) := zo_154 (a := 0) (b := 6) (zby_w zwX8_roll_0 21 rfl) (zby_w zwX8_roll_0 22 rfl) (zby_w zwX8_roll_0 23 rfl) (by decide)
theorem d_X8_roll_24 : decode cX8_roll 24 = .ok (.bipush (-2), 2) := zo_16 (a := 254) (zby_w zwX8_roll_0 24 rfl) (zby_w zwX8_roll_0 25 rfl) (by decide)
theorem d_X8_roll_26 : decode cX8_roll 26 = .ok (.ireturn, 1) := zo_172 (zby_w zwX8_roll_0 26 rfl)
theorem d_X8_roll_27 : decode cX8_roll 27 = .ok (.aload_n 0, 1) := zo_42 (zby_w zwX8_roll_0 27 rfl)
theorem d_X8_roll_28 : decode cX8_roll 28 = .ok (.getfield 10, 3) := zo_180 (a := 0) (b := 10) (zby_w zwX8_roll_0 28 rfl) (zby_w zwX8_roll_0 29 rfl) (zby_w zwX8_roll_0 30 rfl) (by decide)
theorem d_X8_roll_31 : decode cX8_roll 31 = .ok (.getfield 257, 3) := zo_180 (a := 1) (b := 1) (zby_w zwX8_roll_0 31 rfl) (zby_w zwX8_roll_0 32 rfl) (zby_w zwX8_roll_0 33 rfl) (by decide)
theorem d_X8_roll_34 : decode cX8_roll 34 = .ok (.astore_n 3, 1) := zo_78 (zby_w zwX8_roll_1 2 rfl)
theorem d_X8_roll_35 : decode cX8_roll 35 = .ok (.aload_n 3, 1) := zo_45 (zby_w zwX8_roll_1 3 rfl)
theorem d_X8_roll_36 : decode cX8_roll 36 = .ok (.getfield 261, 3) := zo_180 (a := 1) (b := 5) (zby_w zwX8_roll_1 4 rfl) (zby_w zwX8_roll_1 5 rfl) (zby_w zwX8_roll_1 6 rfl) (by decide)
theorem d_X8_roll_39 : decode cX8_roll 39 = .ok (.bipush 6, 2) := zo_16 (a := 6) (zby_w zwX8_roll_1 7 rfl) (zby_w zwX8_roll_1 8 rfl) (by decide)
theorem d_X8_roll_41 : decode cX8_roll 41 = .ok (.if_icmp .lt 6, 3) := zo_161 (a := 0) (b := 6) (zby_w zwX8_roll_1 9 rfl) (zby_w zwX8_roll_1 10 rfl) (zby_w zwX8_roll_1 11 rfl) (by decide)
theorem d_X8_roll_44 : decode cX8_roll 44 = .ok (.bipush (-4), 2) := zo_16 (a := 252) (zby_w zwX8_roll_1 12 rfl) (zby_w zwX8_roll_1 13 rfl) (by decide)
theorem d_X8_roll_46 : decode cX8_roll 46 = .ok (.ireturn, 1) := zo_172 (zby_w zwX8_roll_1 14 rfl)
theorem d_X8_roll_47 : decode cX8_roll 47 = .ok (.aload_n 3, 1) := zo_45 (zby_w zwX8_roll_1 15 rfl)
theorem d_X8_roll_48 : decode cX8_roll 48 = .ok (.getfield 264, 3) := zo_180 (a := 1) (b := 8) (zby_w zwX8_roll_1 16 rfl) (zby_w zwX8_roll_1 17 rfl) (zby_w zwX8_roll_1 18 rfl) (by decide)
theorem d_X8_roll_51 : decode cX8_roll 51 = .ok (.aload_n 3, 1) := zo_45 (zby_w zwX8_roll_1 19 rfl)
theorem d_X8_roll_52 : decode cX8_roll 52 = .ok (.getfield 261, 3) := zo_180 (a := 1) (b := 5) (zby_w zwX8_roll_1 20 rfl) (zby_w zwX8_roll_1 21 rfl) (zby_w zwX8_roll_1 22 rfl) (by decide)
theorem d_X8_roll_55 : decode cX8_roll 55 = .ok (.iload_n 1, 1) := zo_27 (zby_w zwX8_roll_1 23 rfl)
theorem d_X8_roll_56 : decode cX8_roll 56 = .ok (.iastore, 1) := zo_79 (zby_w zwX8_roll_1 24 rfl)
theorem d_X8_roll_57 : decode cX8_roll 57 = .ok (.aload_n 3, 1) := zo_45 (zby_w zwX8_roll_1 25 rfl)
theorem d_X8_roll_58 : decode cX8_roll 58 = .ok (.getfield 267, 3) := zo_180 (a := 1) (b := 11) (zby_w zwX8_roll_1 26 rfl) (zby_w zwX8_roll_1 27 rfl) (zby_w zwX8_roll_1 28 rfl) (by decide)
theorem d_X8_roll_61 : decode cX8_roll 61 = .ok (.aload_n 3, 1) := zo_45 (zby_w zwX8_roll_1 29 rfl)
theorem d_X8_roll_62 : decode cX8_roll 62 = .ok (.getfield 261, 3) := zo_180 (a := 1) (b := 5) (zby_w zwX8_roll_1 30 rfl) (zby_w zwX8_roll_1 31 rfl) (zby_w zwX8_roll_1 32 rfl) (by decide)
theorem d_X8_roll_65 : decode cX8_roll 65 = .ok (.iload_n 2, 1) := zo_28 (zby_w zwX8_roll_2 1 rfl)
theorem d_X8_roll_66 : decode cX8_roll 66 = .ok (.iload_n 1, 1) := zo_27 (zby_w zwX8_roll_2 2 rfl)
theorem d_X8_roll_67 : decode cX8_roll 67 = .ok (.invokestatic 73, 3) := zo_184 (a := 0) (b := 73) (zby_w zwX8_roll_2 3 rfl) (zby_w zwX8_roll_2 4 rfl) (zby_w zwX8_roll_2 5 rfl) (by decide)
theorem d_X8_roll_70 : decode cX8_roll 70 = .ok (.isub, 1) := zo_100 (zby_w zwX8_roll_2 6 rfl)
theorem d_X8_roll_71 : decode cX8_roll 71 = .ok (.iastore, 1) := zo_79 (zby_w zwX8_roll_2 7 rfl)
theorem d_X8_roll_72 : decode cX8_roll 72 = .ok (.aload_n 3, 1) := zo_45 (zby_w zwX8_roll_2 8 rfl)
theorem d_X8_roll_73 : decode cX8_roll 73 = .ok (.dup, 1) := zo_89 (zby_w zwX8_roll_2 9 rfl)
theorem d_X8_roll_74 : decode cX8_roll 74 = .ok (.getfield 261, 3) := zo_180 (a := 1) (b := 5) (zby_w zwX8_roll_2 10 rfl) (zby_w zwX8_roll_2 11 rfl) (zby_w zwX8_roll_2 12 rfl) (by decide)
theorem d_X8_roll_77 : decode cX8_roll 77 = .ok (.iconst 1, 1) := zo_4 (zby_w zwX8_roll_2 13 rfl)
theorem d_X8_roll_78 : decode cX8_roll 78 = .ok (.iadd, 1) := zo_96 (zby_w zwX8_roll_2 14 rfl)
theorem d_X8_roll_79 : decode cX8_roll 79 = .ok (.putfield 261, 3) := zo_181 (a := 1) (b := 5) (zby_w zwX8_roll_2 15 rfl) (zby_w zwX8_roll_2 16 rfl) (zby_w zwX8_roll_2 17 rfl) (by decide)
theorem d_X8_roll_82 : decode cX8_roll 82 = .ok (.aload_n 3, 1) := zo_45 (zby_w zwX8_roll_2 18 rfl)
theorem d_X8_roll_83 : decode cX8_roll 83 = .ok (.getfield 261, 3) := zo_180 (a := 1) (b := 5) (zby_w zwX8_roll_2 19 rfl) (zby_w zwX8_roll_2 20 rfl) (zby_w zwX8_roll_2 21 rfl) (by decide)
theorem d_X8_roll_86 : decode cX8_roll 86 = .ok (.ireturn, 1) := zo_172 (zby_w zwX8_roll_2 22 rfl)
theorem d_X8_say_0 : decode cX8_say 0 = .ok (.iload_n 1, 1) := zo_27 (zby_w zwX8_say_0 0 rfl)
theorem d_X8_say_1 : decode cX8_say 1 = .ok (.bipush 33, 2) := zo_16 (a := 33) (zby_w zwX8_say_0 1 rfl) (zby_w zwX8_say_0 2 rfl) (by decide)
theorem d_X8_say_3 : decode cX8_say 3 = .ok (.bipush 126, 2) := zo_16 (a := 126) (zby_w zwX8_say_0 3 rfl) (zby_w zwX8_say_0 4 rfl) (by decide)
theorem d_X8_say_5 : decode cX8_say 5 = .ok (.invokestatic 47, 3) := zo_184 (a := 0) (b := 47) (zby_w zwX8_say_0 5 rfl) (zby_w zwX8_say_0 6 rfl) (zby_w zwX8_say_0 7 rfl) (by decide)
theorem d_X8_say_8 : decode cX8_say 8 = .ok (.ifCond .ne 6, 3) := zo_154 (a := 0) (b := 6) (zby_w zwX8_say_0 8 rfl) (zby_w zwX8_say_0 9 rfl) (zby_w zwX8_say_0 10 rfl) (by decide)
theorem d_X8_say_11 : decode cX8_say 11 = .ok (.bipush (-2), 2) := zo_16 (a := 254) (zby_w zwX8_say_0 11 rfl) (zby_w zwX8_say_0 12 rfl) (by decide)
theorem d_X8_say_13 : decode cX8_say 13 = .ok (.ireturn, 1) := zo_172 (zby_w zwX8_say_0 13 rfl)
theorem d_X8_say_14 : decode cX8_say 14 = .ok (.aload_n 0, 1) := zo_42 (zby_w zwX8_say_0 14 rfl)
theorem d_X8_say_15 : decode cX8_say 15 = .ok (.getfield 29, 3) := zo_180 (a := 0) (b := 29) (zby_w zwX8_say_0 15 rfl) (zby_w zwX8_say_0 16 rfl) (zby_w zwX8_say_0 17 rfl) (by decide)
theorem d_X8_say_18 : decode cX8_say 18 = .ok (.getfield 92, 3) := zo_180 (a := 0) (b := 92) (zby_w zwX8_say_0 18 rfl) (zby_w zwX8_say_0 19 rfl) (zby_w zwX8_say_0 20 rfl) (by decide)
theorem d_X8_say_21 : decode cX8_say 21 = .ok (.bipush 60, 2) := zo_16 (a := 60) (zby_w zwX8_say_0 21 rfl) (zby_w zwX8_say_0 22 rfl) (by decide)
theorem d_X8_say_23 : decode cX8_say 23 = .ok (.if_icmp .lt 6, 3) := zo_161 (a := 0) (b := 6) (zby_w zwX8_say_0 23 rfl) (zby_w zwX8_say_0 24 rfl) (zby_w zwX8_say_0 25 rfl) (by decide)
theorem d_X8_say_26 : decode cX8_say 26 = .ok (.bipush (-4), 2) := zo_16 (a := 252) (zby_w zwX8_say_0 26 rfl) (zby_w zwX8_say_0 27 rfl) (by decide)
theorem d_X8_say_28 : decode cX8_say 28 = .ok (.ireturn, 1) := zo_172 (zby_w zwX8_say_0 28 rfl)
theorem d_X8_say_29 : decode cX8_say 29 = .ok (.aload_n 0, 1) := zo_42 (zby_w zwX8_say_0 29 rfl)
theorem d_X8_say_30 : decode cX8_say 30 = .ok (.getfield 29, 3) := zo_180 (a := 0) (b := 29) (zby_w zwX8_say_0 30 rfl) (zby_w zwX8_say_0 31 rfl) (zby_w zwX8_say_0 32 rfl) (by decide)
theorem d_X8_say_33 : decode cX8_say 33 = .ok (.getfield 95, 3) := zo_180 (a := 0) (b := 95) (zby_w zwX8_say_1 1 rfl) (zby_w zwX8_say_1 2 rfl) (zby_w zwX8_say_1 3 rfl) (by decide)
theorem d_X8_say_36 : decode cX8_say 36 = .ok (.aload_n 0, 1) := zo_42 (zby_w zwX8_say_1 4 rfl)
theorem d_X8_say_37 : decode cX8_say 37 = .ok (.getfield 29, 3) := zo_180 (a := 0) (b := 29) (zby_w zwX8_say_1 5 rfl) (zby_w zwX8_say_1 6 rfl) (zby_w zwX8_say_1 7 rfl) (by decide)
theorem d_X8_say_40 : decode cX8_say 40 = .ok (.getfield 92, 3) := zo_180 (a := 0) (b := 92) (zby_w zwX8_say_1 8 rfl) (zby_w zwX8_say_1 9 rfl) (zby_w zwX8_say_1 10 rfl) (by decide)
theorem d_X8_say_43 : decode cX8_say 43 = .ok (.iload_n 1, 1) := zo_27 (zby_w zwX8_say_1 11 rfl)
theorem d_X8_say_44 : decode cX8_say 44 = .ok (.iastore, 1) := zo_79 (zby_w zwX8_say_1 12 rfl)
theorem d_X8_say_45 : decode cX8_say 45 = .ok (.aload_n 0, 1) := zo_42 (zby_w zwX8_say_1 13 rfl)
theorem d_X8_say_46 : decode cX8_say 46 = .ok (.getfield 29, 3) := zo_180 (a := 0) (b := 29) (zby_w zwX8_say_1 14 rfl) (zby_w zwX8_say_1 15 rfl) (zby_w zwX8_say_1 16 rfl) (by decide)
theorem d_X8_say_49 : decode cX8_say 49 = .ok (.dup, 1) := zo_89 (zby_w zwX8_say_1 17 rfl)
theorem d_X8_say_50 : decode cX8_say 50 = .ok (.getfield 92, 3) := zo_180 (a := 0) (b := 92) (zby_w zwX8_say_1 18 rfl) (zby_w zwX8_say_1 19 rfl) (zby_w zwX8_say_1 20 rfl) (by decide)
theorem d_X8_say_53 : decode cX8_say 53 = .ok (.iconst 1, 1) := zo_4 (zby_w zwX8_say_1 21 rfl)
theorem d_X8_say_54 : decode cX8_say 54 = .ok (.iadd, 1) := zo_96 (zby_w zwX8_say_1 22 rfl)
theorem d_X8_say_55 : decode cX8_say 55 = .ok (.putfield 92, 3) := zo_181 (a := 0) (b := 92) (zby_w zwX8_say_1 23 rfl) (zby_w zwX8_say_1 24 rfl) (zby_w zwX8_say_1 25 rfl) (by decide)
theorem d_X8_say_58 : decode cX8_say 58 = .ok (.aload_n 0, 1) := zo_42 (zby_w zwX8_say_1 26 rfl)
theorem d_X8_say_59 : decode cX8_say 59 = .ok (.getfield 29, 3) := zo_180 (a := 0) (b := 29) (zby_w zwX8_say_1 27 rfl) (zby_w zwX8_say_1 28 rfl) (zby_w zwX8_say_1 29 rfl) (by decide)
theorem d_X8_say_62 : decode cX8_say 62 = .ok (.getfield 92, 3) := zo_180 (a := 0) (b := 92) (zby_w zwX8_say_1 30 rfl) (zby_w zwX8_say_1 31 rfl) (zby_w zwX8_say_1 32 rfl) (by decide)
theorem d_X8_say_65 : decode cX8_say 65 = .ok (.ireturn, 1) := zo_172 (zby_w zwX8_say_2 1 rfl)
theorem d_X8_scrap_0 : decode cX8_scrap 0 = .ok (.aload_n 0, 1) := zo_42 (zby_w zwX8_scrap_0 0 rfl)
theorem d_X8_scrap_1 : decode cX8_scrap 1 = .ok (.getfield 10, 3) := zo_180 (a := 0) (b := 10) (zby_w zwX8_scrap_0 1 rfl) (zby_w zwX8_scrap_0 2 rfl) (zby_w zwX8_scrap_0 3 rfl) (by decide)
theorem d_X8_scrap_4 : decode cX8_scrap 4 = .ok (.getfield 51, 3) := zo_180 (a := 0) (b := 51) (zby_w zwX8_scrap_0 4 rfl) (zby_w zwX8_scrap_0 5 rfl) (zby_w zwX8_scrap_0 6 rfl) (by decide)
theorem d_X8_scrap_7 : decode cX8_scrap 7 = .ok (.astore_n 2, 1) := zo_77 (zby_w zwX8_scrap_0 7 rfl)
theorem d_X8_scrap_8 : decode cX8_scrap 8 = .ok (.aload_n 2, 1) := zo_44 (zby_w zwX8_scrap_0 8 rfl)
theorem d_X8_scrap_9 : decode cX8_scrap 9 = .ok (.iload_n 1, 1) := zo_27 (zby_w zwX8_scrap_0 9 rfl)
theorem d_X8_scrap_10 : decode cX8_scrap 10 = .ok (.invokevirtual 79, 3) := zo_182 (a := 0) (b := 79) (zby_w zwX8_scrap_0 10 rfl) (zby_w zwX8_scrap_0 11 rfl) (zby_w zwX8_scrap_0 12 rfl) (by decide)
theorem d_X8_scrap_13 : decode cX8_scrap 13 = .ok (.ifCond .ne 5, 3) := zo_154 (a := 0) (b := 5) (zby_w zwX8_scrap_0 13 rfl) (zby_w zwX8_scrap_0 14 rfl) (zby_w zwX8_scrap_0 15 rfl) (by decide)
theorem d_X8_scrap_16 : decode cX8_scrap 16 = .ok (.iconst (-1), 1) := zo_2 (zby_w zwX8_scrap_0 16 rfl)
theorem d_X8_scrap_17 : decode cX8_scrap 17 = .ok (.ireturn, 1) := zo_172 (zby_w zwX8_scrap_0 17 rfl)
theorem d_X8_scrap_18 : decode cX8_scrap 18 = .ok (.aload_n 2, 1) := zo_44 (zby_w zwX8_scrap_0 18 rfl)
theorem d_X8_scrap_19 : decode cX8_scrap 19 = .ok (.dup, 1) := zo_89 (zby_w zwX8_scrap_0 19 rfl)
theorem d_X8_scrap_20 : decode cX8_scrap 20 = .ok (.getfield 55, 3) := zo_180 (a := 0) (b := 55) (zby_w zwX8_scrap_0 20 rfl) (zby_w zwX8_scrap_0 21 rfl) (zby_w zwX8_scrap_0 22 rfl) (by decide)
theorem d_X8_scrap_23 : decode cX8_scrap 23 = .ok (.iconst 1, 1) := zo_4 (zby_w zwX8_scrap_0 23 rfl)
theorem d_X8_scrap_24 : decode cX8_scrap 24 = .ok (.iload_n 1, 1) := zo_27 (zby_w zwX8_scrap_0 24 rfl)
theorem d_X8_scrap_25 : decode cX8_scrap 25 = .ok (.ishl, 1) := zo_120 (zby_w zwX8_scrap_0 25 rfl)
theorem d_X8_scrap_26 : decode cX8_scrap 26 = .ok (.iconst (-1), 1) := zo_2 (zby_w zwX8_scrap_0 26 rfl)
theorem d_X8_scrap_27 : decode cX8_scrap 27 = .ok (.ixor, 1) := zo_130 (zby_w zwX8_scrap_0 27 rfl)
theorem d_X8_scrap_28 : decode cX8_scrap 28 = .ok (.iand, 1) := zo_126 (zby_w zwX8_scrap_0 28 rfl)
theorem d_X8_scrap_29 : decode cX8_scrap 29 = .ok (.putfield 55, 3) := zo_181 (a := 0) (b := 55) (zby_w zwX8_scrap_0 29 rfl) (zby_w zwX8_scrap_0 30 rfl) (zby_w zwX8_scrap_0 31 rfl) (by decide)
theorem d_X8_scrap_32 : decode cX8_scrap 32 = .ok (.aload_n 2, 1) := zo_44 (zby_w zwX8_scrap_1 0 rfl)
theorem d_X8_scrap_33 : decode cX8_scrap 33 = .ok (.getfield 55, 3) := zo_180 (a := 0) (b := 55) (zby_w zwX8_scrap_1 1 rfl) (zby_w zwX8_scrap_1 2 rfl) (zby_w zwX8_scrap_1 3 rfl) (by decide)
theorem d_X8_scrap_36 : decode cX8_scrap 36 = .ok (.invokestatic 73, 3) := zo_184 (a := 0) (b := 73) (zby_w zwX8_scrap_1 4 rfl) (zby_w zwX8_scrap_1 5 rfl) (zby_w zwX8_scrap_1 6 rfl) (by decide)
theorem d_X8_scrap_39 : decode cX8_scrap 39 = .ok (.ireturn, 1) := zo_172 (zby_w zwX8_scrap_1 7 rfl)
theorem d_X8_seasonCanBe_0 : decode cX8_seasonCanBe 0 = .ok (.aload_n 0, 1) := zo_42 (zby_w zwX8_seasonCanBe_0 0 rfl)
theorem d_X8_seasonCanBe_1 : decode cX8_seasonCanBe 1 = .ok (.getfield 29, 3) := zo_180 (a := 0) (b := 29) (zby_w zwX8_seasonCanBe_0 1 rfl) (zby_w zwX8_seasonCanBe_0 2 rfl) (zby_w zwX8_seasonCanBe_0 3 rfl) (by decide)
theorem d_X8_seasonCanBe_4 : decode cX8_seasonCanBe 4 = .ok (.invokevirtual 105, 3) := zo_182 (a := 0) (b := 105) (zby_w zwX8_seasonCanBe_0 4 rfl) (zby_w zwX8_seasonCanBe_0 5 rfl) (zby_w zwX8_seasonCanBe_0 6 rfl) (by decide)
theorem d_X8_seasonCanBe_7 : decode cX8_seasonCanBe 7 = .ok (.bipush (-6), 2) := zo_16 (a := 250) (zby_w zwX8_seasonCanBe_0 7 rfl) (zby_w zwX8_seasonCanBe_0 8 rfl) (by decide)
theorem d_X8_seasonCanBe_9 : decode cX8_seasonCanBe 9 = .ok (.if_icmp .eq 5, 3) := zo_159 (a := 0) (b := 5) (zby_w zwX8_seasonCanBe_0 9 rfl) (zby_w zwX8_seasonCanBe_0 10 rfl) (zby_w zwX8_seasonCanBe_0 11 rfl) (by decide)
theorem d_X8_seasonCanBe_12 : decode cX8_seasonCanBe 12 = .ok (.iconst 0, 1) := zo_3 (zby_w zwX8_seasonCanBe_0 12 rfl)
theorem d_X8_seasonCanBe_13 : decode cX8_seasonCanBe 13 = .ok (.ireturn, 1) := zo_172 (zby_w zwX8_seasonCanBe_0 13 rfl)
theorem d_X8_seasonCanBe_14 : decode cX8_seasonCanBe 14 = .ok (.aload_n 0, 1) := zo_42 (zby_w zwX8_seasonCanBe_0 14 rfl)
theorem d_X8_seasonCanBe_15 : decode cX8_seasonCanBe 15 = .ok (.getfield 36, 3) := zo_180 (a := 0) (b := 36) (zby_w zwX8_seasonCanBe_0 15 rfl) (zby_w zwX8_seasonCanBe_0 16 rfl) (zby_w zwX8_seasonCanBe_0 17 rfl) (by decide)
theorem d_X8_seasonCanBe_18 : decode cX8_seasonCanBe 18 = .ok (.aload_n 0, 1) := zo_42 (zby_w zwX8_seasonCanBe_0 18 rfl)
theorem d_X8_seasonCanBe_19 : decode cX8_seasonCanBe 19 = .ok (.getfield 29, 3) := zo_180 (a := 0) (b := 29) (zby_w zwX8_seasonCanBe_0 19 rfl) (zby_w zwX8_seasonCanBe_0 20 rfl) (zby_w zwX8_seasonCanBe_0 21 rfl) (by decide)
theorem d_X8_seasonCanBe_22 : decode cX8_seasonCanBe 22 = .ok (.aload_n 0, 1) := zo_42 (zby_w zwX8_seasonCanBe_0 22 rfl)
theorem d_X8_seasonCanBe_23 : decode cX8_seasonCanBe 23 = .ok (.getfield 10, 3) := zo_180 (a := 0) (b := 10) (zby_w zwX8_seasonCanBe_0 23 rfl) (zby_w zwX8_seasonCanBe_0 24 rfl) (zby_w zwX8_seasonCanBe_0 25 rfl) (by decide)
theorem d_X8_seasonCanBe_26 : decode cX8_seasonCanBe 26 = .ok (.getfield 51, 3) := zo_180 (a := 0) (b := 51) (zby_w zwX8_seasonCanBe_0 26 rfl) (zby_w zwX8_seasonCanBe_0 27 rfl) (zby_w zwX8_seasonCanBe_0 28 rfl) (by decide)
theorem d_X8_seasonCanBe_29 : decode cX8_seasonCanBe 29 = .ok (.invokevirtual 120, 3) := zo_182 (a := 0) (b := 120) (zby_w zwX8_seasonCanBe_0 29 rfl) (zby_w zwX8_seasonCanBe_0 30 rfl) (zby_w zwX8_seasonCanBe_0 31 rfl) (by decide)
theorem d_X8_seasonCanBe_32 : decode cX8_seasonCanBe 32 = .ok (.aload_n 0, 1) := zo_42 (zby_w zwX8_seasonCanBe_1 0 rfl)
theorem d_X8_seasonCanBe_33 : decode cX8_seasonCanBe 33 = .ok (.getfield 36, 3) := zo_180 (a := 0) (b := 36) (zby_w zwX8_seasonCanBe_1 1 rfl) (zby_w zwX8_seasonCanBe_1 2 rfl) (zby_w zwX8_seasonCanBe_1 3 rfl) (by decide)
theorem d_X8_seasonCanBe_36 : decode cX8_seasonCanBe 36 = .ok (.getfield 124, 3) := zo_180 (a := 0) (b := 124) (zby_w zwX8_seasonCanBe_1 4 rfl) (zby_w zwX8_seasonCanBe_1 5 rfl) (zby_w zwX8_seasonCanBe_1 6 rfl) (by decide)
theorem d_X8_seasonCanBe_39 : decode cX8_seasonCanBe 39 = .ok (.bipush (-6), 2) := zo_16 (a := 250) (zby_w zwX8_seasonCanBe_1 7 rfl) (zby_w zwX8_seasonCanBe_1 8 rfl) (by decide)
theorem d_X8_seasonCanBe_41 : decode cX8_seasonCanBe 41 = .ok (.if_icmp .ne 7, 3) := zo_160 (a := 0) (b := 7) (zby_w zwX8_seasonCanBe_1 9 rfl) (zby_w zwX8_seasonCanBe_1 10 rfl) (zby_w zwX8_seasonCanBe_1 11 rfl) (by decide)
theorem d_X8_seasonCanBe_44 : decode cX8_seasonCanBe 44 = .ok (.iconst 1, 1) := zo_4 (zby_w zwX8_seasonCanBe_1 12 rfl)
theorem d_X8_seasonCanBe_45 : decode cX8_seasonCanBe 45 = .ok (.goto 4, 3) := zo_167 (a := 0) (b := 4) (zby_w zwX8_seasonCanBe_1 13 rfl) (zby_w zwX8_seasonCanBe_1 14 rfl) (zby_w zwX8_seasonCanBe_1 15 rfl) (by decide)
theorem d_X8_seasonCanBe_48 : decode cX8_seasonCanBe 48 = .ok (.iconst 0, 1) := zo_3 (zby_w zwX8_seasonCanBe_1 16 rfl)
theorem d_X8_seasonCanBe_49 : decode cX8_seasonCanBe 49 = .ok (.ireturn, 1) := zo_172 (zby_w zwX8_seasonCanBe_1 17 rfl)
theorem d_X8_set_0 : decode cX8_set 0 = .ok (.iload_n 1, 1) := zo_27 (zby_w zwX8_set_0 0 rfl)
theorem d_X8_set_1 : decode cX8_set 1 = .ok (.iconst 0, 1) := zo_3 (zby_w zwX8_set_0 1 rfl)
theorem d_X8_set_2 : decode cX8_set 2 = .ok (.bipush 7, 2) := zo_16 (a := 7) (zby_w zwX8_set_0 2 rfl) (zby_w zwX8_set_0 3 rfl) (by decide)
theorem d_X8_set_4 : decode cX8_set 4 = .ok (.invokestatic 47, 3) := zo_184 (a := 0) (b := 47) (zby_w zwX8_set_0 4 rfl) (zby_w zwX8_set_0 5 rfl) (zby_w zwX8_set_0 6 rfl) (by decide)
theorem d_X8_set_7 : decode cX8_set 7 = .ok (.ifCond .eq 20, 3) := zo_153 (a := 0) (b := 20) (zby_w zwX8_set_0 7 rfl) (zby_w zwX8_set_0 8 rfl) (zby_w zwX8_set_0 9 rfl) (by decide)
theorem d_X8_set_10 : decode cX8_set 10 = .ok (.iload_n 2, 1) := zo_28 (zby_w zwX8_set_0 10 rfl)
theorem d_X8_set_11 : decode cX8_set 11 = .ok (.getstatic 83, 3) := zo_178 (a := 0) (b := 83) (zby_w zwX8_set_0 11 rfl) (zby_w zwX8_set_0 12 rfl) (zby_w zwX8_set_0 13 rfl) (by decide)
theorem d_X8_set_14 : decode cX8_set 14 = .ok (.iload_n 1, 1) := zo_27 (zby_w zwX8_set_0 14 rfl)
theorem d_X8_set_15 : decode cX8_set 15 = .ok (.iaload, 1) := zo_46 (zby_w zwX8_set_0 15 rfl)
theorem d_X8_set_16 : decode cX8_set 16 = .ok (.getstatic 86, 3) := zo_178 (a := 0) (b := 86) (zby_w zwX8_set_0 16 rfl) (zby_w zwX8_set_0 17 rfl) (zby_w zwX8_set_0 18 rfl) (by decide)
theorem d_X8_set_19 : decode cX8_set 19 = .ok (.iload_n 1, 1) := zo_27 (zby_w zwX8_set_0 19 rfl)
theorem d_X8_set_20 : decode cX8_set 20 = .ok (.iaload, 1) := zo_46 (zby_w zwX8_set_0 20 rfl)
theorem d_X8_set_21 : decode cX8_set 21 = .ok (.invokestatic 47, 3) := zo_184 (a := 0) (b := 47) (zby_w zwX8_set_0 21 rfl) (zby_w zwX8_set_0 22 rfl) (zby_w zwX8_set_0 23 rfl) (by decide)
theorem d_X8_set_24 : decode cX8_set 24 = .ok (.ifCond .ne 6, 3) := zo_154 (a := 0) (b := 6) (zby_w zwX8_set_0 24 rfl) (zby_w zwX8_set_0 25 rfl) (zby_w zwX8_set_0 26 rfl) (by decide)
theorem d_X8_set_27 : decode cX8_set 27 = .ok (.bipush (-2), 2) := zo_16 (a := 254) (zby_w zwX8_set_0 27 rfl) (zby_w zwX8_set_0 28 rfl) (by decide)
theorem d_X8_set_29 : decode cX8_set 29 = .ok (.ireturn, 1) := zo_172 (zby_w zwX8_set_0 29 rfl)
theorem d_X8_set_30 : decode cX8_set 30 = .ok (.aload_n 0, 1) := zo_42 (zby_w zwX8_set_0 30 rfl)
theorem d_X8_set_31 : decode cX8_set 31 = .ok (.getfield 10, 3) := zo_180 (a := 0) (b := 10) (zby_w zwX8_set_0 31 rfl) (zby_w zwX8_set_0 32 rfl) (zby_w zwX8_set_0 33 rfl) (by decide)
theorem d_X8_set_34 : decode cX8_set 34 = .ok (.getfield 51, 3) := zo_180 (a := 0) (b := 51) (zby_w zwX8_set_1 2 rfl) (zby_w zwX8_set_1 3 rfl) (zby_w zwX8_set_1 4 rfl) (by decide)
theorem d_X8_set_37 : decode cX8_set 37 = .ok (.getfield 89, 3) := zo_180 (a := 0) (b := 89) (zby_w zwX8_set_1 5 rfl) (zby_w zwX8_set_1 6 rfl) (zby_w zwX8_set_1 7 rfl) (by decide)
theorem d_X8_set_40 : decode cX8_set 40 = .ok (.iload_n 1, 1) := zo_27 (zby_w zwX8_set_1 8 rfl)
theorem d_X8_set_41 : decode cX8_set 41 = .ok (.iaload, 1) := zo_46 (zby_w zwX8_set_1 9 rfl)
theorem d_X8_set_42 : decode cX8_set 42 = .ok (.istore_n 3, 1) := zo_62 (zby_w zwX8_set_1 10 rfl)
theorem d_X8_set_43 : decode cX8_set 43 = .ok (.aload_n 0, 1) := zo_42 (zby_w zwX8_set_1 11 rfl)
theorem d_X8_set_44 : decode cX8_set 44 = .ok (.getfield 10, 3) := zo_180 (a := 0) (b := 10) (zby_w zwX8_set_1 12 rfl) (zby_w zwX8_set_1 13 rfl) (zby_w zwX8_set_1 14 rfl) (by decide)
theorem d_X8_set_47 : decode cX8_set 47 = .ok (.getfield 51, 3) := zo_180 (a := 0) (b := 51) (zby_w zwX8_set_1 15 rfl) (zby_w zwX8_set_1 16 rfl) (zby_w zwX8_set_1 17 rfl) (by decide)
theorem d_X8_set_50 : decode cX8_set 50 = .ok (.getfield 89, 3) := zo_180 (a := 0) (b := 89) (zby_w zwX8_set_1 18 rfl) (zby_w zwX8_set_1 19 rfl) (zby_w zwX8_set_1 20 rfl) (by decide)
theorem d_X8_set_53 : decode cX8_set 53 = .ok (.iload_n 1, 1) := zo_27 (zby_w zwX8_set_1 21 rfl)
theorem d_X8_set_54 : decode cX8_set 54 = .ok (.iload_n 2, 1) := zo_28 (zby_w zwX8_set_1 22 rfl)
theorem d_X8_set_55 : decode cX8_set 55 = .ok (.iastore, 1) := zo_79 (zby_w zwX8_set_1 23 rfl)
theorem d_X8_set_56 : decode cX8_set 56 = .ok (.iload_n 3, 1) := zo_29 (zby_w zwX8_set_1 24 rfl)
theorem d_X8_set_57 : decode cX8_set 57 = .ok (.ireturn, 1) := zo_172 (zby_w zwX8_set_1 25 rfl)
theorem d_X8_ship_0 : decode cX8_ship 0 = .ok (.iload_n 1, 1) := zo_27 (zby_w zwX8_ship_0 0 rfl)
theorem d_X8_ship_1 : decode cX8_ship 1 = .ok (.iconst 0, 1) := zo_3 (zby_w zwX8_ship_0 1 rfl)
theorem d_X8_ship_2 : decode cX8_ship 2 = .ok (.iconst 5, 1) := zo_8 (zby_w zwX8_ship_0 2 rfl)
theorem d_X8_ship_3 : decode cX8_ship 3 = .ok (.invokestatic 47, 3) := zo_184 (a := 0) (b := 47) (zby_w zwX8_ship_0 3 rfl) (zby_w zwX8_ship_0 4 rfl) (zby_w zwX8_ship_0 5 rfl) (by decide)
theorem d_X8_ship_6 : decode cX8_ship 6 = .ok (.ifCond .ne 5, 3) := zo_154 (a := 0) (b := 5) (zby_w zwX8_ship_0 6 rfl) (zby_w zwX8_ship_0 7 rfl) (zby_w zwX8_ship_0 8 rfl) (by decide)
theorem d_X8_ship_9 : decode cX8_ship 9 = .ok (.iconst (-1), 1) := zo_2 (zby_w zwX8_ship_0 9 rfl)
theorem d_X8_ship_10 : decode cX8_ship 10 = .ok (.ireturn, 1) := zo_172 (zby_w zwX8_ship_0 10 rfl)
theorem d_X8_ship_11 : decode cX8_ship 11 = .ok (.iload_n 2, 1) := zo_28 (zby_w zwX8_ship_0 11 rfl)
theorem d_X8_ship_12 : decode cX8_ship 12 = .ok (.iconst 1, 1) := zo_4 (zby_w zwX8_ship_0 12 rfl)
theorem d_X8_ship_13 : decode cX8_ship 13 = .ok (.bipush 30, 2) := zo_16 (a := 30) (zby_w zwX8_ship_0 13 rfl) (zby_w zwX8_ship_0 14 rfl) (by decide)
theorem d_X8_ship_15 : decode cX8_ship 15 = .ok (.invokestatic 47, 3) := zo_184 (a := 0) (b := 47) (zby_w zwX8_ship_0 15 rfl) (zby_w zwX8_ship_0 16 rfl) (zby_w zwX8_ship_0 17 rfl) (by decide)
theorem d_X8_ship_18 : decode cX8_ship 18 = .ok (.ifCond .eq 25, 3) := zo_153 (a := 0) (b := 25) (zby_w zwX8_ship_0 18 rfl) (zby_w zwX8_ship_0 19 rfl) (zby_w zwX8_ship_0 20 rfl) (by decide)
theorem d_X8_ship_21 : decode cX8_ship 21 = .ok (.iload_n 3, 1) := zo_29 (zby_w zwX8_ship_0 21 rfl)
theorem d_X8_ship_22 : decode cX8_ship 22 = .ok (.iconst 0, 1) := zo_3 (zby_w zwX8_ship_0 22 rfl)
theorem d_X8_ship_23 : decode cX8_ship 23 = .ok (.bipush 9, 2) := zo_16 (a := 9) (zby_w zwX8_ship_0 23 rfl) (zby_w zwX8_ship_0 24 rfl) (by decide)
theorem d_X8_ship_25 : decode cX8_ship 25 = .ok (.invokestatic 47, 3) := zo_184 (a := 0) (b := 47) (zby_w zwX8_ship_0 25 rfl) (zby_w zwX8_ship_0 26 rfl) (zby_w zwX8_ship_0 27 rfl) (by decide)
theorem d_X8_ship_28 : decode cX8_ship 28 = .ok (.ifCond .eq 15, 3) := zo_153 (a := 0) (b := 15) (zby_w zwX8_ship_0 28 rfl) (zby_w zwX8_ship_0 29 rfl) (zby_w zwX8_ship_0 30 rfl) (by decide)
theorem d_X8_ship_31 : decode cX8_ship 31 = .ok (.iload 4, 2) := zo_21 (a := 4) (zby_w zwX8_ship_0 31 rfl) (zby_w zwX8_ship_0 32 rfl) (by decide)
theorem d_X8_ship_33 : decode cX8_ship 33 = .ok (.iconst 0, 1) := zo_3 (zby_w zwX8_ship_1 1 rfl)
theorem d_X8_ship_34 : decode cX8_ship 34 = .ok (.sipush 999, 3) := zo_17 (a := 3) (b := 231) (zby_w zwX8_ship_1 2 rfl) (zby_w zwX8_ship_1 3 rfl) (zby_w zwX8_ship_1 4 rfl) (by decide)
theorem d_X8_ship_37 : decode cX8_ship 37 = .ok (.invokestatic 47, 3) := zo_184 (a := 0) (b := 47) (zby_w zwX8_ship_1 5 rfl) (zby_w zwX8_ship_1 6 rfl) (zby_w zwX8_ship_1 7 rfl) (by decide)
theorem d_X8_ship_40 : decode cX8_ship 40 = .ok (.ifCond .ne 6, 3) := zo_154 (a := 0) (b := 6) (zby_w zwX8_ship_1 8 rfl) (zby_w zwX8_ship_1 9 rfl) (zby_w zwX8_ship_1 10 rfl) (by decide)
theorem d_X8_ship_43 : decode cX8_ship 43 = .ok (.bipush (-2), 2) := zo_16 (a := 254) (zby_w zwX8_ship_1 11 rfl) (zby_w zwX8_ship_1 12 rfl) (by decide)
theorem d_X8_ship_45 : decode cX8_ship 45 = .ok (.ireturn, 1) := zo_172 (zby_w zwX8_ship_1 13 rfl)
theorem d_X8_ship_46 : decode cX8_ship 46 = .ok (.aload_n 0, 1) := zo_42 (zby_w zwX8_ship_1 14 rfl)
theorem d_X8_ship_47 : decode cX8_ship 47 = .ok (.getfield 10, 3) := zo_180 (a := 0) (b := 10) (zby_w zwX8_ship_1 15 rfl) (zby_w zwX8_ship_1 16 rfl) (zby_w zwX8_ship_1 17 rfl) (by decide)
theorem d_X8_ship_50 : decode cX8_ship 50 = .ok (.getfield 51, 3) := zo_180 (a := 0) (b := 51) (zby_w zwX8_ship_1 18 rfl) (zby_w zwX8_ship_1 19 rfl) (zby_w zwX8_ship_1 20 rfl) (by decide)
theorem d_X8_ship_53 : decode cX8_ship 53 = .ok (.astore 5, 2) := zo_58 (a := 5) (zby_w zwX8_ship_1 21 rfl) (zby_w zwX8_ship_1 22 rfl) (by decide)
theorem d_X8_ship_55 : decode cX8_ship 55 = .ok (.aload 5, 2) := zo_25 (a := 5) (zby_w zwX8_ship_1 23 rfl) (zby_w zwX8_ship_1 24 rfl) (by decide)
theorem d_X8_ship_57 : decode cX8_ship 57 = .ok (.dup, 1) := zo_89 (zby_w zwX8_ship_1 25 rfl)
theorem d_X8_ship_58 : decode cX8_ship 58 = .ok (.getfield 55, 3) := zo_180 (a := 0) (b := 55) (zby_w zwX8_ship_1 26 rfl) (zby_w zwX8_ship_1 27 rfl) (zby_w zwX8_ship_1 28 rfl) (by decide)
theorem d_X8_ship_61 : decode cX8_ship 61 = .ok (.iconst 1, 1) := zo_4 (zby_w zwX8_ship_1 29 rfl)
theorem d_X8_ship_62 : decode cX8_ship 62 = .ok (.iload_n 1, 1) := zo_27 (zby_w zwX8_ship_1 30 rfl)
theorem d_X8_ship_63 : decode cX8_ship 63 = .ok (.ishl, 1) := zo_120 (zby_w zwX8_ship_1 31 rfl)
theorem d_X8_ship_64 : decode cX8_ship 64 = .ok (.ior, 1) := zo_128 (zby_w zwX8_ship_2 0 rfl)
theorem d_X8_ship_65 : decode cX8_ship 65 = .ok (.putfield 55, 3) := zo_181 (a := 0) (b := 55) (zby_w zwX8_ship_2 1 rfl) (zby_w zwX8_ship_2 2 rfl) (zby_w zwX8_ship_2 3 rfl) (by decide)
theorem d_X8_ship_68 : decode cX8_ship 68 = .ok (.aload 5, 2) := zo_25 (a := 5) (zby_w zwX8_ship_2 4 rfl) (zby_w zwX8_ship_2 5 rfl) (by decide)
theorem d_X8_ship_70 : decode cX8_ship 70 = .ok (.getfield 60, 3) := zo_180 (a := 0) (b := 60) (zby_w zwX8_ship_2 6 rfl) (zby_w zwX8_ship_2 7 rfl) (zby_w zwX8_ship_2 8 rfl) (by decide)
theorem d_X8_ship_73 : decode cX8_ship 73 = .ok (.iload_n 1, 1) := zo_27 (zby_w zwX8_ship_2 9 rfl)
theorem d_X8_ship_74 : decode cX8_ship 74 = .ok (.iconst 0, 1) := zo_3 (zby_w zwX8_ship_2 10 rfl)
theorem d_X8_ship_75 : decode cX8_ship 75 = .ok (.iastore, 1) := zo_79 (zby_w zwX8_ship_2 11 rfl)
theorem d_X8_ship_76 : decode cX8_ship 76 = .ok (.aload 5, 2) := zo_25 (a := 5) (zby_w zwX8_ship_2 12 rfl) (zby_w zwX8_ship_2 13 rfl) (by decide)
theorem d_X8_ship_78 : decode cX8_ship 78 = .ok (.getfield 64, 3) := zo_180 (a := 0) (b := 64) (zby_w zwX8_ship_2 14 rfl) (zby_w zwX8_ship_2 15 rfl) (zby_w zwX8_ship_2 16 rfl) (by decide)
theorem d_X8_ship_81 : decode cX8_ship 81 = .ok (.iload_n 1, 1) := zo_27 (zby_w zwX8_ship_2 17 rfl)
theorem d_X8_ship_82 : decode cX8_ship 82 = .ok (.iload_n 2, 1) := zo_28 (zby_w zwX8_ship_2 18 rfl)
theorem d_X8_ship_83 : decode cX8_ship 83 = .ok (.iastore, 1) := zo_79 (zby_w zwX8_ship_2 19 rfl)
theorem d_X8_ship_84 : decode cX8_ship 84 = .ok (.aload 5, 2) := zo_25 (a := 5) (zby_w zwX8_ship_2 20 rfl) (zby_w zwX8_ship_2 21 rfl) (by decide)
theorem d_X8_ship_86 : decode cX8_ship 86 = .ok (.getfield 67, 3) := zo_180 (a := 0) (b := 67) (zby_w zwX8_ship_2 22 rfl) (zby_w zwX8_ship_2 23 rfl) (zby_w zwX8_ship_2 24 rfl) (by decide)
theorem d_X8_ship_89 : decode cX8_ship 89 = .ok (.iload_n 1, 1) := zo_27 (zby_w zwX8_ship_2 25 rfl)
theorem d_X8_ship_90 : decode cX8_ship 90 = .ok (.iload_n 3, 1) := zo_29 (zby_w zwX8_ship_2 26 rfl)
theorem d_X8_ship_91 : decode cX8_ship 91 = .ok (.iastore, 1) := zo_79 (zby_w zwX8_ship_2 27 rfl)
theorem d_X8_ship_92 : decode cX8_ship 92 = .ok (.aload 5, 2) := zo_25 (a := 5) (zby_w zwX8_ship_2 28 rfl) (zby_w zwX8_ship_2 29 rfl) (by decide)
theorem d_X8_ship_94 : decode cX8_ship 94 = .ok (.getfield 70, 3) := zo_180 (a := 0) (b := 70) (zby_w zwX8_ship_2 30 rfl) (zby_w zwX8_ship_2 31 rfl) (zby_w zwX8_ship_2 32 rfl) (by decide)
theorem d_X8_ship_97 : decode cX8_ship 97 = .ok (.iload_n 1, 1) := zo_27 (zby_w zwX8_ship_3 1 rfl)
theorem d_X8_ship_98 : decode cX8_ship 98 = .ok (.iload 4, 2) := zo_21 (a := 4) (zby_w zwX8_ship_3 2 rfl) (zby_w zwX8_ship_3 3 rfl) (by decide)
theorem d_X8_ship_100 : decode cX8_ship 100 = .ok (.iastore, 1) := zo_79 (zby_w zwX8_ship_3 4 rfl)
theorem d_X8_ship_101 : decode cX8_ship 101 = .ok (.aload 5, 2) := zo_25 (a := 5) (zby_w zwX8_ship_3 5 rfl) (zby_w zwX8_ship_3 6 rfl) (by decide)
theorem d_X8_ship_103 : decode cX8_ship 103 = .ok (.getfield 55, 3) := zo_180 (a := 0) (b := 55) (zby_w zwX8_ship_3 7 rfl) (zby_w zwX8_ship_3 8 rfl) (zby_w zwX8_ship_3 9 rfl) (by decide)
theorem d_X8_ship_106 : decode cX8_ship 106 = .ok (.invokestatic 73, 3) := zo_184 (a := 0) (b := 73) (zby_w zwX8_ship_3 10 rfl) (zby_w zwX8_ship_3 11 rfl) (zby_w zwX8_ship_3 12 rfl) (by decide)
theorem d_X8_ship_109 : decode cX8_ship 109 = .ok (.ireturn, 1) := zo_172 (zby_w zwX8_ship_3 13 rfl)
theorem d_X8_state_0 : decode cX8_state 0 = .ok (.aload_n 0, 1) := zo_42 (zby_w zwX8_state_0 0 rfl)
theorem d_X8_state_1 : decode cX8_state 1 = .ok (.getfield 10, 3) := zo_180 (a := 0) (b := 10) (zby_w zwX8_state_0 1 rfl) (zby_w zwX8_state_0 2 rfl) (zby_w zwX8_state_0 3 rfl) (by decide)
theorem d_X8_state_4 : decode cX8_state 4 = .ok (.getfield 51, 3) := zo_180 (a := 0) (b := 51) (zby_w zwX8_state_0 4 rfl) (zby_w zwX8_state_0 5 rfl) (zby_w zwX8_state_0 6 rfl) (by decide)
theorem d_X8_state_7 : decode cX8_state 7 = .ok (.iload_n 1, 1) := zo_27 (zby_w zwX8_state_0 7 rfl)
theorem d_X8_state_8 : decode cX8_state 8 = .ok (.invokevirtual 79, 3) := zo_182 (a := 0) (b := 79) (zby_w zwX8_state_0 8 rfl) (zby_w zwX8_state_0 9 rfl) (zby_w zwX8_state_0 10 rfl) (by decide)
theorem d_X8_state_11 : decode cX8_state 11 = .ok (.ifCond .ne 5, 3) := zo_154 (a := 0) (b := 5) (zby_w zwX8_state_0 11 rfl) (zby_w zwX8_state_0 12 rfl) (zby_w zwX8_state_0 13 rfl) (by decide)
theorem d_X8_state_14 : decode cX8_state 14 = .ok (.iconst (-1), 1) := zo_2 (zby_w zwX8_state_0 14 rfl)
theorem d_X8_state_15 : decode cX8_state 15 = .ok (.ireturn, 1) := zo_172 (zby_w zwX8_state_0 15 rfl)
theorem d_X8_state_16 : decode cX8_state 16 = .ok (.iload_n 2, 1) := zo_28 (zby_w zwX8_state_0 16 rfl)
theorem d_X8_state_17 : decode cX8_state 17 = .ok (.iconst 0, 1) := zo_3 (zby_w zwX8_state_0 17 rfl)
theorem d_X8_state_18 : decode cX8_state 18 = .ok (.iconst 2, 1) := zo_5 (zby_w zwX8_state_0 18 rfl)
theorem d_X8_state_19 : decode cX8_state 19 = .ok (.invokestatic 47, 3) := zo_184 (a := 0) (b := 47) (zby_w zwX8_state_0 19 rfl) (zby_w zwX8_state_0 20 rfl) (zby_w zwX8_state_0 21 rfl) (by decide)
theorem d_X8_state_22 : decode cX8_state 22 = .ok (.ifCond .ne 6, 3) := zo_154 (a := 0) (b := 6) (zby_w zwX8_state_0 22 rfl) (zby_w zwX8_state_0 23 rfl) (zby_w zwX8_state_0 24 rfl) (by decide)
theorem d_X8_state_25 : decode cX8_state 25 = .ok (.bipush (-2), 2) := zo_16 (a := 254) (zby_w zwX8_state_0 25 rfl) (zby_w zwX8_state_0 26 rfl) (by decide)
theorem d_X8_state_27 : decode cX8_state 27 = .ok (.ireturn, 1) := zo_172 (zby_w zwX8_state_0 27 rfl)
theorem d_X8_state_28 : decode cX8_state 28 = .ok (.aload_n 0, 1) := zo_42 (zby_w zwX8_state_0 28 rfl)
theorem d_X8_state_29 : decode cX8_state 29 = .ok (.getfield 10, 3) := zo_180 (a := 0) (b := 10) (zby_w zwX8_state_0 29 rfl) (zby_w zwX8_state_0 30 rfl) (zby_w zwX8_state_0 31 rfl) (by decide)
theorem d_X8_state_32 : decode cX8_state 32 = .ok (.getfield 51, 3) := zo_180 (a := 0) (b := 51) (zby_w zwX8_state_1 0 rfl) (zby_w zwX8_state_1 1 rfl) (zby_w zwX8_state_1 2 rfl) (by decide)
theorem d_X8_state_35 : decode cX8_state 35 = .ok (.iload_n 1, 1) := zo_27 (zby_w zwX8_state_1 3 rfl)
theorem d_X8_state_36 : decode cX8_state 36 = .ok (.iload_n 2, 1) := zo_28 (zby_w zwX8_state_1 4 rfl)
theorem d_X8_state_37 : decode cX8_state 37 = .ok (.invokevirtual 130, 3) := zo_182 (a := 0) (b := 130) (zby_w zwX8_state_1 5 rfl) (zby_w zwX8_state_1 6 rfl) (zby_w zwX8_state_1 7 rfl) (by decide)
theorem d_X8_state_40 : decode cX8_state 40 = .ok (.ireturn, 1) := zo_172 (zby_w zwX8_state_1 8 rfl)
theorem d_X8_sum_0 : decode cX8_sum 0 = .ok (.iload_n 1, 1) := zo_27 (zby_w zwX8_sum_0 0 rfl)
theorem d_X8_sum_1 : decode cX8_sum 1 = .ok (.iconst 0, 1) := zo_3 (zby_w zwX8_sum_0 1 rfl)
theorem d_X8_sum_2 : decode cX8_sum 2 = .ok (.iconst 2, 1) := zo_5 (zby_w zwX8_sum_0 2 rfl)
theorem d_X8_sum_3 : decode cX8_sum 3 = .ok (.invokestatic 47, 3) := zo_184 (a := 0) (b := 47) (zby_w zwX8_sum_0 3 rfl) (zby_w zwX8_sum_0 4 rfl) (zby_w zwX8_sum_0 5 rfl) (by decide)
theorem d_X8_sum_6 : decode cX8_sum 6 = .ok (.ifCond .eq 18, 3) := zo_153 (a := 0) (b := 18) (zby_w zwX8_sum_0 6 rfl) (zby_w zwX8_sum_0 7 rfl) (zby_w zwX8_sum_0 8 rfl) (by decide)
theorem d_X8_sum_9 : decode cX8_sum 9 = .ok (.aload_n 0, 1) := zo_42 (zby_w zwX8_sum_0 9 rfl)
theorem d_X8_sum_10 : decode cX8_sum 10 = .ok (.getfield 10, 3) := zo_180 (a := 0) (b := 10) (zby_w zwX8_sum_0 10 rfl) (zby_w zwX8_sum_0 11 rfl) (zby_w zwX8_sum_0 12 rfl) (by decide)
theorem d_X8_sum_13 : decode cX8_sum 13 = .ok (.getfield 51, 3) := zo_180 (a := 0) (b := 51) (zby_w zwX8_sum_0 13 rfl) (zby_w zwX8_sum_0 14 rfl) (zby_w zwX8_sum_0 15 rfl) (by decide)
theorem d_X8_sum_16 : decode cX8_sum 16 = .ok (.getfield 142, 3) := zo_180 (a := 0) (b := 142) (zby_w zwX8_sum_0 16 rfl) (zby_w zwX8_sum_0 17 rfl) (zby_w zwX8_sum_0 18 rfl) (by decide)
theorem d_X8_sum_19 : decode cX8_sum 19 = .ok (.iload_n 1, 1) := zo_27 (zby_w zwX8_sum_0 19 rfl)
theorem d_X8_sum_20 : decode cX8_sum 20 = .ok (.iaload, 1) := zo_46 (zby_w zwX8_sum_0 20 rfl)
theorem d_X8_sum_21 : decode cX8_sum 21 = .ok (.goto 5, 3) := zo_167 (a := 0) (b := 5) (zby_w zwX8_sum_0 21 rfl) (zby_w zwX8_sum_0 22 rfl) (zby_w zwX8_sum_0 23 rfl) (by decide)
theorem d_X8_sum_24 : decode cX8_sum 24 = .ok (.bipush (-2), 2) := zo_16 (a := 254) (zby_w zwX8_sum_0 24 rfl) (zby_w zwX8_sum_0 25 rfl) (by decide)
theorem d_X8_sum_26 : decode cX8_sum 26 = .ok (.ireturn, 1) := zo_172 (zby_w zwX8_sum_0 26 rfl)
theorem d_X8_tide_0 : decode cX8_tide 0 = .ok (.aload_n 0, 1) := zo_42 (zby_w zwX8_tide_0 0 rfl)
theorem d_X8_tide_1 : decode cX8_tide 1 = .ok (.getfield 29, 3) := zo_180 (a := 0) (b := 29) (zby_w zwX8_tide_0 1 rfl) (zby_w zwX8_tide_0 2 rfl) (zby_w zwX8_tide_0 3 rfl) (by decide)
theorem d_X8_tide_4 : decode cX8_tide 4 = .ok (.invokevirtual 102, 3) := zo_182 (a := 0) (b := 102) (zby_w zwX8_tide_0 4 rfl) (zby_w zwX8_tide_0 5 rfl) (zby_w zwX8_tide_0 6 rfl) (by decide)
theorem d_X8_tide_7 : decode cX8_tide 7 = .ok (.bipush (-6), 2) := zo_16 (a := 250) (zby_w zwX8_tide_0 7 rfl) (zby_w zwX8_tide_0 8 rfl) (by decide)
theorem d_X8_tide_9 : decode cX8_tide 9 = .ok (.if_icmp .eq 6, 3) := zo_159 (a := 0) (b := 6) (zby_w zwX8_tide_0 9 rfl) (zby_w zwX8_tide_0 10 rfl) (zby_w zwX8_tide_0 11 rfl) (by decide)
theorem d_X8_tide_12 : decode cX8_tide 12 = .ok (.bipush (-5), 2) := zo_16 (a := 251) (zby_w zwX8_tide_0 12 rfl) (zby_w zwX8_tide_0 13 rfl) (by decide)
theorem d_X8_tide_14 : decode cX8_tide 14 = .ok (.ireturn, 1) := zo_172 (zby_w zwX8_tide_0 14 rfl)
theorem d_X8_tide_15 : decode cX8_tide 15 = .ok (.aload_n 0, 1) := zo_42 (zby_w zwX8_tide_0 15 rfl)
theorem d_X8_tide_16 : decode cX8_tide 16 = .ok (.getfield 10, 3) := zo_180 (a := 0) (b := 10) (zby_w zwX8_tide_0 16 rfl) (zby_w zwX8_tide_0 17 rfl) (zby_w zwX8_tide_0 18 rfl) (by decide)
theorem d_X8_tide_19 : decode cX8_tide 19 = .ok (.getfield 51, 3) := zo_180 (a := 0) (b := 51) (zby_w zwX8_tide_0 19 rfl) (zby_w zwX8_tide_0 20 rfl) (zby_w zwX8_tide_0 21 rfl) (by decide)
theorem d_X8_tide_22 : decode cX8_tide 22 = .ok (.astore_n 1, 1) := zo_76 (zby_w zwX8_tide_0 22 rfl)
theorem d_X8_tide_23 : decode cX8_tide 23 = .ok (.aload_n 1, 1) := zo_43 (zby_w zwX8_tide_0 23 rfl)
theorem d_X8_tide_24 : decode cX8_tide 24 = .ok (.aload_n 0, 1) := zo_42 (zby_w zwX8_tide_0 24 rfl)
theorem d_X8_tide_25 : decode cX8_tide 25 = .ok (.getfield 29, 3) := zo_180 (a := 0) (b := 29) (zby_w zwX8_tide_0 25 rfl) (zby_w zwX8_tide_0 26 rfl) (zby_w zwX8_tide_0 27 rfl) (by decide)
theorem d_X8_tide_28 : decode cX8_tide 28 = .ok (.getfield 92, 3) := zo_180 (a := 0) (b := 92) (zby_w zwX8_tide_0 28 rfl) (zby_w zwX8_tide_0 29 rfl) (zby_w zwX8_tide_0 30 rfl) (by decide)
theorem d_X8_tide_31 : decode cX8_tide 31 = .ok (.bipush 24, 2) := zo_16 (a := 24) (zby_w zwX8_tide_0 31 rfl) (zby_w zwX8_tide_0 32 rfl) (by decide)
theorem d_X8_tide_33 : decode cX8_tide 33 = .ok (.invokestatic 108, 3) := zo_184 (a := 0) (b := 108) (zby_w zwX8_tide_1 1 rfl) (zby_w zwX8_tide_1 2 rfl) (zby_w zwX8_tide_1 3 rfl) (by decide)
theorem d_X8_tide_36 : decode cX8_tide 36 = .ok (.putfield 114, 3) := zo_181 (a := 0) (b := 114) (zby_w zwX8_tide_1 4 rfl) (zby_w zwX8_tide_1 5 rfl) (zby_w zwX8_tide_1 6 rfl) (by decide)
theorem d_X8_tide_39 : decode cX8_tide 39 = .ok (.iconst 0, 1) := zo_3 (zby_w zwX8_tide_1 7 rfl)
theorem d_X8_tide_40 : decode cX8_tide 40 = .ok (.istore_n 2, 1) := zo_61 (zby_w zwX8_tide_1 8 rfl)
theorem d_X8_tide_41 : decode cX8_tide 41 = .ok (.iload_n 2, 1) := zo_28 (zby_w zwX8_tide_1 9 rfl)
theorem d_X8_tide_42 : decode cX8_tide 42 = .ok (.aload_n 1, 1) := zo_43 (zby_w zwX8_tide_1 10 rfl)
theorem d_X8_tide_43 : decode cX8_tide 43 = .ok (.getfield 114, 3) := zo_180 (a := 0) (b := 114) (zby_w zwX8_tide_1 11 rfl) (zby_w zwX8_tide_1 12 rfl) (zby_w zwX8_tide_1 13 rfl) (by decide)
theorem d_X8_tide_46 : decode cX8_tide 46 = .ok (.if_icmp .ge 27, 3) := zo_162 (a := 0) (b := 27) (zby_w zwX8_tide_1 14 rfl) (zby_w zwX8_tide_1 15 rfl) (zby_w zwX8_tide_1 16 rfl) (by decide)
theorem d_X8_tide_49 : decode cX8_tide 49 = .ok (.aload_n 1, 1) := zo_43 (zby_w zwX8_tide_1 17 rfl)
theorem d_X8_tide_50 : decode cX8_tide 50 = .ok (.getfield 117, 3) := zo_180 (a := 0) (b := 117) (zby_w zwX8_tide_1 18 rfl) (zby_w zwX8_tide_1 19 rfl) (zby_w zwX8_tide_1 20 rfl) (by decide)
theorem d_X8_tide_53 : decode cX8_tide 53 = .ok (.iload_n 2, 1) := zo_28 (zby_w zwX8_tide_1 21 rfl)
theorem d_X8_tide_54 : decode cX8_tide 54 = .ok (.aload_n 0, 1) := zo_42 (zby_w zwX8_tide_1 22 rfl)
theorem d_X8_tide_55 : decode cX8_tide 55 = .ok (.getfield 29, 3) := zo_180 (a := 0) (b := 29) (zby_w zwX8_tide_1 23 rfl) (zby_w zwX8_tide_1 24 rfl) (zby_w zwX8_tide_1 25 rfl) (by decide)
theorem d_X8_tide_58 : decode cX8_tide 58 = .ok (.getfield 95, 3) := zo_180 (a := 0) (b := 95) (zby_w zwX8_tide_1 26 rfl) (zby_w zwX8_tide_1 27 rfl) (zby_w zwX8_tide_1 28 rfl) (by decide)
theorem d_X8_tide_61 : decode cX8_tide 61 = .ok (.iload_n 2, 1) := zo_28 (zby_w zwX8_tide_1 29 rfl)
theorem d_X8_tide_62 : decode cX8_tide 62 = .ok (.iaload, 1) := zo_46 (zby_w zwX8_tide_1 30 rfl)
theorem d_X8_tide_63 : decode cX8_tide 63 = .ok (.bipush 48, 2) := zo_16 (a := 48) (zby_w zwX8_tide_1 31 rfl) (zby_w zwX8_tide_1 32 rfl) (by decide)
theorem d_X8_tide_65 : decode cX8_tide 65 = .ok (.isub, 1) := zo_100 (zby_w zwX8_tide_2 1 rfl)
theorem d_X8_tide_66 : decode cX8_tide 66 = .ok (.iastore, 1) := zo_79 (zby_w zwX8_tide_2 2 rfl)
theorem d_X8_tide_67 : decode cX8_tide 67 = .ok (.iinc 2 1, 3) := by decide +kernel
theorem d_X8_tide_70 : decode cX8_tide 70 = .ok (.goto (-29), 3) := zo_167 (a := 255) (b := 227) (zby_w zwX8_tide_2 6 rfl) (zby_w zwX8_tide_2 7 rfl) (zby_w zwX8_tide_2 8 rfl) (by decide)
theorem d_X8_tide_73 : decode cX8_tide 73 = .ok (.aload_n 0, 1) := zo_42 (zby_w zwX8_tide_2 9 rfl)
theorem d_X8_tide_74 : decode cX8_tide 74 = .ok (.getfield 29, 3) := zo_180 (a := 0) (b := 29) (zby_w zwX8_tide_2 10 rfl) (zby_w zwX8_tide_2 11 rfl) (zby_w zwX8_tide_2 12 rfl) (by decide)
theorem d_X8_tide_77 : decode cX8_tide 77 = .ok (.invokevirtual 98, 3) := zo_182 (a := 0) (b := 98) (zby_w zwX8_tide_2 13 rfl) (zby_w zwX8_tide_2 14 rfl) (zby_w zwX8_tide_2 15 rfl) (by decide)
theorem d_X8_tide_80 : decode cX8_tide 80 = .ok (.ireturn, 1) := zo_172 (zby_w zwX8_tide_2 16 rfl)
theorem d_X8_told_0 : decode cX8_told 0 = .ok (.iload_n 1, 1) := zo_27 (zby_w zwX8_told_0 0 rfl)
theorem d_X8_told_1 : decode cX8_told 1 = .ok (.iconst 2, 1) := zo_5 (zby_w zwX8_told_0 1 rfl)
theorem d_X8_told_2 : decode cX8_told 2 = .ok (.bipush 9, 2) := zo_16 (a := 9) (zby_w zwX8_told_0 2 rfl) (zby_w zwX8_told_0 3 rfl) (by decide)
theorem d_X8_told_4 : decode cX8_told 4 = .ok (.invokestatic 47, 3) := zo_184 (a := 0) (b := 47) (zby_w zwX8_told_0 4 rfl) (zby_w zwX8_told_0 5 rfl) (zby_w zwX8_told_0 6 rfl) (by decide)
theorem d_X8_told_7 : decode cX8_told 7 = .ok (.ifCond .eq 18, 3) := zo_153 (a := 0) (b := 18) (zby_w zwX8_told_0 7 rfl) (zby_w zwX8_told_0 8 rfl) (zby_w zwX8_told_0 9 rfl) (by decide)
theorem d_X8_told_10 : decode cX8_told 10 = .ok (.aload_n 0, 1) := zo_42 (zby_w zwX8_told_0 10 rfl)
theorem d_X8_told_11 : decode cX8_told 11 = .ok (.getfield 10, 3) := zo_180 (a := 0) (b := 10) (zby_w zwX8_told_0 11 rfl) (zby_w zwX8_told_0 12 rfl) (zby_w zwX8_told_0 13 rfl) (by decide)
theorem d_X8_told_14 : decode cX8_told 14 = .ok (.getfield 51, 3) := zo_180 (a := 0) (b := 51) (zby_w zwX8_told_0 14 rfl) (zby_w zwX8_told_0 15 rfl) (zby_w zwX8_told_0 16 rfl) (by decide)
theorem d_X8_told_17 : decode cX8_told 17 = .ok (.getfield 89, 3) := zo_180 (a := 0) (b := 89) (zby_w zwX8_told_0 17 rfl) (zby_w zwX8_told_0 18 rfl) (zby_w zwX8_told_0 19 rfl) (by decide)
theorem d_X8_told_20 : decode cX8_told 20 = .ok (.iload_n 1, 1) := zo_27 (zby_w zwX8_told_0 20 rfl)
theorem d_X8_told_21 : decode cX8_told 21 = .ok (.iconst 2, 1) := zo_5 (zby_w zwX8_told_0 21 rfl)
theorem d_X8_told_22 : decode cX8_told 22 = .ok (.isub, 1) := zo_100 (zby_w zwX8_told_0 22 rfl)
theorem d_X8_told_23 : decode cX8_told 23 = .ok (.iaload, 1) := zo_46 (zby_w zwX8_told_0 23 rfl)
theorem d_X8_told_24 : decode cX8_told 24 = .ok (.ireturn, 1) := zo_172 (zby_w zwX8_told_0 24 rfl)
theorem d_X8_told_25 : decode cX8_told 25 = .ok (.iload_n 1, 1) := zo_27 (zby_w zwX8_told_0 25 rfl)
theorem d_X8_told_26 : decode cX8_told 26 = .ok (.bipush 20, 2) := zo_16 (a := 20) (zby_w zwX8_told_0 26 rfl) (zby_w zwX8_told_0 27 rfl) (by decide)
theorem d_X8_told_28 : decode cX8_told 28 = .ok (.bipush 27, 2) := zo_16 (a := 27) (zby_w zwX8_told_0 28 rfl) (zby_w zwX8_told_0 29 rfl) (by decide)
theorem d_X8_told_30 : decode cX8_told 30 = .ok (.invokestatic 47, 3) := zo_184 (a := 0) (b := 47) (zby_w zwX8_told_0 30 rfl) (zby_w zwX8_told_0 31 rfl) (zby_w zwX8_told_0 32 rfl) (by decide)
theorem d_X8_told_33 : decode cX8_told 33 = .ok (.ifCond .eq 41, 3) := zo_153 (a := 0) (b := 41) (zby_w zwX8_told_1 1 rfl) (zby_w zwX8_told_1 2 rfl) (zby_w zwX8_told_1 3 rfl) (by decide)
theorem d_X8_told_36 : decode cX8_told 36 = .ok (.aload_n 0, 1) := zo_42 (zby_w zwX8_told_1 4 rfl)
theorem d_X8_told_37 : decode cX8_told 37 = .ok (.getfield 10, 3) := zo_180 (a := 0) (b := 10) (zby_w zwX8_told_1 5 rfl) (zby_w zwX8_told_1 6 rfl) (zby_w zwX8_told_1 7 rfl) (by decide)
theorem d_X8_told_40 : decode cX8_told 40 = .ok (.getfield 228, 3) := zo_180 (a := 0) (b := 228) (zby_w zwX8_told_1 8 rfl) (zby_w zwX8_told_1 9 rfl) (zby_w zwX8_told_1 10 rfl) (by decide)
theorem d_X8_told_43 : decode cX8_told 43 = .ok (.iload_n 1, 1) := zo_27 (zby_w zwX8_told_1 11 rfl)
theorem d_X8_told_44 : decode cX8_told 44 = .ok (.bipush 20, 2) := zo_16 (a := 20) (zby_w zwX8_told_1 12 rfl) (zby_w zwX8_told_1 13 rfl) (by decide)
theorem d_X8_told_46 : decode cX8_told 46 = .ok (.isub, 1) := zo_100 (zby_w zwX8_told_1 14 rfl)
theorem d_X8_told_47 : decode cX8_told 47 = .ok (.invokevirtual 238, 3) := zo_182 (a := 0) (b := 238) (zby_w zwX8_told_1 15 rfl) (zby_w zwX8_told_1 16 rfl) (zby_w zwX8_told_1 17 rfl) (by decide)
theorem d_X8_told_50 : decode cX8_told 50 = .ok (.ifCond .eq 21, 3) := zo_153 (a := 0) (b := 21) (zby_w zwX8_told_1 18 rfl) (zby_w zwX8_told_1 19 rfl) (zby_w zwX8_told_1 20 rfl) (by decide)
theorem d_X8_told_53 : decode cX8_told 53 = .ok (.aload_n 0, 1) := zo_42 (zby_w zwX8_told_1 21 rfl)
theorem d_X8_told_54 : decode cX8_told 54 = .ok (.getfield 10, 3) := zo_180 (a := 0) (b := 10) (zby_w zwX8_told_1 22 rfl) (zby_w zwX8_told_1 23 rfl) (zby_w zwX8_told_1 24 rfl) (by decide)
theorem d_X8_told_57 : decode cX8_told 57 = .ok (.getfield 228, 3) := zo_180 (a := 0) (b := 228) (zby_w zwX8_told_1 25 rfl) (zby_w zwX8_told_1 26 rfl) (zby_w zwX8_told_1 27 rfl) (by decide)
theorem d_X8_told_60 : decode cX8_told 60 = .ok (.getfield 235, 3) := zo_180 (a := 0) (b := 235) (zby_w zwX8_told_1 28 rfl) (zby_w zwX8_told_1 29 rfl) (zby_w zwX8_told_1 30 rfl) (by decide)
theorem d_X8_told_63 : decode cX8_told 63 = .ok (.iload_n 1, 1) := zo_27 (zby_w zwX8_told_1 31 rfl)
theorem d_X8_told_64 : decode cX8_told 64 = .ok (.bipush 20, 2) := zo_16 (a := 20) (zby_w zwX8_told_2 0 rfl) (zby_w zwX8_told_2 1 rfl) (by decide)
theorem d_X8_told_66 : decode cX8_told 66 = .ok (.isub, 1) := zo_100 (zby_w zwX8_told_2 2 rfl)
theorem d_X8_told_67 : decode cX8_told 67 = .ok (.iaload, 1) := zo_46 (zby_w zwX8_told_2 3 rfl)
theorem d_X8_told_68 : decode cX8_told 68 = .ok (.goto 5, 3) := zo_167 (a := 0) (b := 5) (zby_w zwX8_told_2 4 rfl) (zby_w zwX8_told_2 5 rfl) (zby_w zwX8_told_2 6 rfl) (by decide)
theorem d_X8_told_71 : decode cX8_told 71 = .ok (.bipush (-2), 2) := zo_16 (a := 254) (zby_w zwX8_told_2 7 rfl) (zby_w zwX8_told_2 8 rfl) (by decide)
theorem d_X8_told_73 : decode cX8_told 73 = .ok (.ireturn, 1) := zo_172 (zby_w zwX8_told_2 9 rfl)
theorem d_X8_told_74 : decode cX8_told 74 = .ok (.iload_n 1, 1) := zo_27 (zby_w zwX8_told_2 10 rfl)
theorem d_X8_told_75 : decode cX8_told 75 = .ok (.bipush 30, 2) := zo_16 (a := 30) (zby_w zwX8_told_2 11 rfl) (zby_w zwX8_told_2 12 rfl) (by decide)
theorem d_X8_told_77 : decode cX8_told 77 = .ok (.bipush 35, 2) := zo_16 (a := 35) (zby_w zwX8_told_2 13 rfl) (zby_w zwX8_told_2 14 rfl) (by decide)
theorem d_X8_told_79 : decode cX8_told 79 = .ok (.invokestatic 47, 3) := zo_184 (a := 0) (b := 47) (zby_w zwX8_told_2 15 rfl) (zby_w zwX8_told_2 16 rfl) (zby_w zwX8_told_2 17 rfl) (by decide)
theorem d_X8_told_82 : decode cX8_told 82 = .ok (.ifCond .eq 41, 3) := zo_153 (a := 0) (b := 41) (zby_w zwX8_told_2 18 rfl) (zby_w zwX8_told_2 19 rfl) (zby_w zwX8_told_2 20 rfl) (by decide)
theorem d_X8_told_85 : decode cX8_told 85 = .ok (.aload_n 0, 1) := zo_42 (zby_w zwX8_told_2 21 rfl)
theorem d_X8_told_86 : decode cX8_told 86 = .ok (.getfield 10, 3) := zo_180 (a := 0) (b := 10) (zby_w zwX8_told_2 22 rfl) (zby_w zwX8_told_2 23 rfl) (zby_w zwX8_told_2 24 rfl) (by decide)
theorem d_X8_told_89 : decode cX8_told 89 = .ok (.getfield 51, 3) := zo_180 (a := 0) (b := 51) (zby_w zwX8_told_2 25 rfl) (zby_w zwX8_told_2 26 rfl) (zby_w zwX8_told_2 27 rfl) (by decide)
theorem d_X8_told_92 : decode cX8_told 92 = .ok (.iload_n 1, 1) := zo_27 (zby_w zwX8_told_2 28 rfl)
theorem d_X8_told_93 : decode cX8_told 93 = .ok (.bipush 30, 2) := zo_16 (a := 30) (zby_w zwX8_told_2 29 rfl) (zby_w zwX8_told_2 30 rfl) (by decide)
theorem d_X8_told_95 : decode cX8_told 95 = .ok (.isub, 1) := zo_100 (zby_w zwX8_told_2 31 rfl)
theorem d_X8_told_96 : decode cX8_told 96 = .ok (.invokevirtual 79, 3) := zo_182 (a := 0) (b := 79) (zby_w zwX8_told_3 0 rfl) (zby_w zwX8_told_3 1 rfl) (zby_w zwX8_told_3 2 rfl) (by decide)
theorem d_X8_told_99 : decode cX8_told 99 = .ok (.ifCond .eq 21, 3) := zo_153 (a := 0) (b := 21) (zby_w zwX8_told_3 3 rfl) (zby_w zwX8_told_3 4 rfl) (zby_w zwX8_told_3 5 rfl) (by decide)
theorem d_X8_told_102 : decode cX8_told 102 = .ok (.aload_n 0, 1) := zo_42 (zby_w zwX8_told_3 6 rfl)
theorem d_X8_told_103 : decode cX8_told 103 = .ok (.getfield 10, 3) := zo_180 (a := 0) (b := 10) (zby_w zwX8_told_3 7 rfl) (zby_w zwX8_told_3 8 rfl) (zby_w zwX8_told_3 9 rfl) (by decide)
theorem d_X8_told_106 : decode cX8_told 106 = .ok (.getfield 51, 3) := zo_180 (a := 0) (b := 51) (zby_w zwX8_told_3 10 rfl) (zby_w zwX8_told_3 11 rfl) (zby_w zwX8_told_3 12 rfl) (by decide)
theorem d_X8_told_109 : decode cX8_told 109 = .ok (.getfield 70, 3) := zo_180 (a := 0) (b := 70) (zby_w zwX8_told_3 13 rfl) (zby_w zwX8_told_3 14 rfl) (zby_w zwX8_told_3 15 rfl) (by decide)
theorem d_X8_told_112 : decode cX8_told 112 = .ok (.iload_n 1, 1) := zo_27 (zby_w zwX8_told_3 16 rfl)
theorem d_X8_told_113 : decode cX8_told 113 = .ok (.bipush 30, 2) := zo_16 (a := 30) (zby_w zwX8_told_3 17 rfl) (zby_w zwX8_told_3 18 rfl) (by decide)
theorem d_X8_told_115 : decode cX8_told 115 = .ok (.isub, 1) := zo_100 (zby_w zwX8_told_3 19 rfl)
theorem d_X8_told_116 : decode cX8_told 116 = .ok (.iaload, 1) := zo_46 (zby_w zwX8_told_3 20 rfl)
theorem d_X8_told_117 : decode cX8_told 117 = .ok (.goto 5, 3) := zo_167 (a := 0) (b := 5) (zby_w zwX8_told_3 21 rfl) (zby_w zwX8_told_3 22 rfl) (zby_w zwX8_told_3 23 rfl) (by decide)
theorem d_X8_told_120 : decode cX8_told 120 = .ok (.bipush (-2), 2) := zo_16 (a := 254) (zby_w zwX8_told_3 24 rfl) (zby_w zwX8_told_3 25 rfl) (by decide)
theorem d_X8_told_122 : decode cX8_told 122 = .ok (.ireturn, 1) := zo_172 (zby_w zwX8_told_3 26 rfl)
theorem d_X8_told_123 : decode cX8_told 123 = .ok (.iload_n 1, 1) := zo_27 (zby_w zwX8_told_3 27 rfl)
theorem d_X8_told_124 : decode cX8_told 124 = .ok (.bipush 100, 2) := zo_16 (a := 100) (zby_w zwX8_told_3 28 rfl) (zby_w zwX8_told_3 29 rfl) (by decide)
theorem d_X8_told_126 : decode cX8_told 126 = .ok (.bipush 123, 2) := zo_16 (a := 123) (zby_w zwX8_told_3 30 rfl) (zby_w zwX8_told_3 31 rfl) (by decide)
theorem d_X8_told_128 : decode cX8_told 128 = .ok (.invokestatic 47, 3) := zo_184 (a := 0) (b := 47) (zby_w zwX8_told_4 0 rfl) (zby_w zwX8_told_4 1 rfl) (zby_w zwX8_told_4 2 rfl) (by decide)
theorem d_X8_told_131 : decode cX8_told 131 = .ok (.ifCond .eq 18, 3) := zo_153 (a := 0) (b := 18) (zby_w zwX8_told_4 3 rfl) (zby_w zwX8_told_4 4 rfl) (zby_w zwX8_told_4 5 rfl) (by decide)
theorem d_X8_told_134 : decode cX8_told 134 = .ok (.aload_n 0, 1) := zo_42 (zby_w zwX8_told_4 6 rfl)
theorem d_X8_told_135 : decode cX8_told 135 = .ok (.getfield 10, 3) := zo_180 (a := 0) (b := 10) (zby_w zwX8_told_4 7 rfl) (zby_w zwX8_told_4 8 rfl) (zby_w zwX8_told_4 9 rfl) (by decide)
theorem d_X8_told_138 : decode cX8_told 138 = .ok (.getfield 51, 3) := zo_180 (a := 0) (b := 51) (zby_w zwX8_told_4 10 rfl) (zby_w zwX8_told_4 11 rfl) (zby_w zwX8_told_4 12 rfl) (by decide)
theorem d_X8_told_141 : decode cX8_told 141 = .ok (.iload_n 1, 1) := zo_27 (zby_w zwX8_told_4 13 rfl)
theorem d_X8_told_142 : decode cX8_told 142 = .ok (.bipush 100, 2) := zo_16 (a := 100) (zby_w zwX8_told_4 14 rfl) (zby_w zwX8_told_4 15 rfl) (by decide)
theorem d_X8_told_144 : decode cX8_told 144 = .ok (.isub, 1) := zo_100 (zby_w zwX8_told_4 16 rfl)
theorem d_X8_told_145 : decode cX8_told 145 = .ok (.invokevirtual 209, 3) := zo_182 (a := 0) (b := 209) (zby_w zwX8_told_4 17 rfl) (zby_w zwX8_told_4 18 rfl) (zby_w zwX8_told_4 19 rfl) (by decide)
theorem d_X8_told_148 : decode cX8_told 148 = .ok (.ireturn, 1) := zo_172 (zby_w zwX8_told_4 20 rfl)
theorem d_X8_told_149 : decode cX8_told 149 = .ok (.iload_n 1, 1) := zo_27 (zby_w zwX8_told_4 21 rfl)
theorem d_X8_told_150 : decode cX8_told 150 = .ok (.tableswitch 133 0 13 #[70, 78, 133, 133, 133, 133, 133, 133, 133, 133, 89, 100, 111, 122], 70) := by decide +kernel
theorem d_X8_told_220 : decode cX8_told 220 = .ok (.aload_n 0, 1) := zo_42 (zby_w zwX8_told_6 28 rfl)
theorem d_X8_told_221 : decode cX8_told 221 = .ok (.getfield 29, 3) := zo_180 (a := 0) (b := 29) (zby_w zwX8_told_6 29 rfl) (zby_w zwX8_told_6 30 rfl) (zby_w zwX8_told_6 31 rfl) (by decide)
theorem d_X8_told_224 : decode cX8_told 224 = .ok (.getfield 92, 3) := zo_180 (a := 0) (b := 92) (zby_w zwX8_told_7 0 rfl) (zby_w zwX8_told_7 1 rfl) (zby_w zwX8_told_7 2 rfl) (by decide)
theorem d_X8_told_227 : decode cX8_told 227 = .ok (.ireturn, 1) := zo_172 (zby_w zwX8_told_7 3 rfl)
theorem d_X8_told_228 : decode cX8_told 228 = .ok (.aload_n 0, 1) := zo_42 (zby_w zwX8_told_7 4 rfl)
theorem d_X8_told_229 : decode cX8_told 229 = .ok (.getfield 10, 3) := zo_180 (a := 0) (b := 10) (zby_w zwX8_told_7 5 rfl) (zby_w zwX8_told_7 6 rfl) (zby_w zwX8_told_7 7 rfl) (by decide)
theorem d_X8_told_232 : decode cX8_told 232 = .ok (.getfield 51, 3) := zo_180 (a := 0) (b := 51) (zby_w zwX8_told_7 8 rfl) (zby_w zwX8_told_7 9 rfl) (zby_w zwX8_told_7 10 rfl) (by decide)
theorem d_X8_told_235 : decode cX8_told 235 = .ok (.getfield 55, 3) := zo_180 (a := 0) (b := 55) (zby_w zwX8_told_7 11 rfl) (zby_w zwX8_told_7 12 rfl) (zby_w zwX8_told_7 13 rfl) (by decide)
theorem d_X8_told_238 : decode cX8_told 238 = .ok (.ireturn, 1) := zo_172 (zby_w zwX8_told_7 14 rfl)
theorem d_X8_told_239 : decode cX8_told 239 = .ok (.aload_n 0, 1) := zo_42 (zby_w zwX8_told_7 15 rfl)
theorem d_X8_told_240 : decode cX8_told 240 = .ok (.getfield 10, 3) := zo_180 (a := 0) (b := 10) (zby_w zwX8_told_7 16 rfl) (zby_w zwX8_told_7 17 rfl) (zby_w zwX8_told_7 18 rfl) (by decide)
theorem d_X8_told_243 : decode cX8_told 243 = .ok (.getfield 51, 3) := zo_180 (a := 0) (b := 51) (zby_w zwX8_told_7 19 rfl) (zby_w zwX8_told_7 20 rfl) (zby_w zwX8_told_7 21 rfl) (by decide)
theorem d_X8_told_246 : decode cX8_told 246 = .ok (.getfield 114, 3) := zo_180 (a := 0) (b := 114) (zby_w zwX8_told_7 22 rfl) (zby_w zwX8_told_7 23 rfl) (zby_w zwX8_told_7 24 rfl) (by decide)
theorem d_X8_told_249 : decode cX8_told 249 = .ok (.ireturn, 1) := zo_172 (zby_w zwX8_told_7 25 rfl)
theorem d_X8_told_250 : decode cX8_told 250 = .ok (.aload_n 0, 1) := zo_42 (zby_w zwX8_told_7 26 rfl)
theorem d_X8_told_251 : decode cX8_told 251 = .ok (.getfield 10, 3) := zo_180 (a := 0) (b := 10) (zby_w zwX8_told_7 27 rfl) (zby_w zwX8_told_7 28 rfl) (zby_w zwX8_told_7 29 rfl) (by decide)
theorem d_X8_told_254 : decode cX8_told 254 = .ok (.getfield 196, 3) := zo_180 (a := 0) (b := 196) (zby_w zwX8_told_7 30 rfl) (zby_w zwX8_told_7 31 rfl) (zby_w zwX8_told_7 32 rfl) (by decide)
theorem d_X8_told_257 : decode cX8_told 257 = .ok (.getfield 200, 3) := zo_180 (a := 0) (b := 200) (zby_w zwX8_told_8 1 rfl) (zby_w zwX8_told_8 2 rfl) (zby_w zwX8_told_8 3 rfl) (by decide)
theorem d_X8_told_260 : decode cX8_told 260 = .ok (.ireturn, 1) := zo_172 (zby_w zwX8_told_8 4 rfl)
theorem d_X8_told_261 : decode cX8_told 261 = .ok (.aload_n 0, 1) := zo_42 (zby_w zwX8_told_8 5 rfl)
theorem d_X8_told_262 : decode cX8_told 262 = .ok (.getfield 10, 3) := zo_180 (a := 0) (b := 10) (zby_w zwX8_told_8 6 rfl) (zby_w zwX8_told_8 7 rfl) (zby_w zwX8_told_8 8 rfl) (by decide)
theorem d_X8_told_265 : decode cX8_told 265 = .ok (.getfield 228, 3) := zo_180 (a := 0) (b := 228) (zby_w zwX8_told_8 9 rfl) (zby_w zwX8_told_8 10 rfl) (zby_w zwX8_told_8 11 rfl) (by decide)
theorem d_X8_told_268 : decode cX8_told 268 = .ok (.getfield 232, 3) := zo_180 (a := 0) (b := 232) (zby_w zwX8_told_8 12 rfl) (zby_w zwX8_told_8 13 rfl) (zby_w zwX8_told_8 14 rfl) (by decide)
theorem d_X8_told_271 : decode cX8_told 271 = .ok (.ireturn, 1) := zo_172 (zby_w zwX8_told_8 15 rfl)
theorem d_X8_told_272 : decode cX8_told 272 = .ok (.aload_n 0, 1) := zo_42 (zby_w zwX8_told_8 16 rfl)
theorem d_X8_told_273 : decode cX8_told 273 = .ok (.getfield 10, 3) := zo_180 (a := 0) (b := 10) (zby_w zwX8_told_8 17 rfl) (zby_w zwX8_told_8 18 rfl) (zby_w zwX8_told_8 19 rfl) (by decide)
theorem d_X8_told_276 : decode cX8_told 276 = .ok (.getfield 257, 3) := zo_180 (a := 1) (b := 1) (zby_w zwX8_told_8 20 rfl) (zby_w zwX8_told_8 21 rfl) (zby_w zwX8_told_8 22 rfl) (by decide)
theorem d_X8_told_279 : decode cX8_told 279 = .ok (.getfield 261, 3) := zo_180 (a := 1) (b := 5) (zby_w zwX8_told_8 23 rfl) (zby_w zwX8_told_8 24 rfl) (zby_w zwX8_told_8 25 rfl) (by decide)
theorem d_X8_told_282 : decode cX8_told 282 = .ok (.ireturn, 1) := zo_172 (zby_w zwX8_told_8 26 rfl)
theorem d_X8_told_283 : decode cX8_told 283 = .ok (.bipush (-2), 2) := zo_16 (a := 254) (zby_w zwX8_told_8 27 rfl) (zby_w zwX8_told_8 28 rfl) (by decide)
theorem d_X8_told_285 : decode cX8_told 285 = .ok (.ireturn, 1) := zo_172 (zby_w zwX8_told_8 29 rfl)
theorem d_X8_twice_0 : decode cX8_twice 0 = .ok (.iload_n 1, 1) := zo_27 (zby_w zwX8_twice_0 0 rfl)
theorem d_X8_twice_1 : decode cX8_twice 1 = .ok (.iconst 0, 1) := zo_3 (zby_w zwX8_twice_0 1 rfl)
theorem d_X8_twice_2 : decode cX8_twice 2 = .ok (.iconst 1, 1) := zo_4 (zby_w zwX8_twice_0 2 rfl)
theorem d_X8_twice_3 : decode cX8_twice 3 = .ok (.invokestatic 47, 3) := zo_184 (a := 0) (b := 47) (zby_w zwX8_twice_0 3 rfl) (zby_w zwX8_twice_0 4 rfl) (zby_w zwX8_twice_0 5 rfl) (by decide)
theorem d_X8_twice_6 : decode cX8_twice 6 = .ok (.ifCond .eq 26, 3) := zo_153 (a := 0) (b := 26) (zby_w zwX8_twice_0 6 rfl) (zby_w zwX8_twice_0 7 rfl) (zby_w zwX8_twice_0 8 rfl) (by decide)
theorem d_X8_twice_9 : decode cX8_twice 9 = .ok (.aload_n 0, 1) := zo_42 (zby_w zwX8_twice_0 9 rfl)
theorem d_X8_twice_10 : decode cX8_twice 10 = .ok (.getfield 10, 3) := zo_180 (a := 0) (b := 10) (zby_w zwX8_twice_0 10 rfl) (zby_w zwX8_twice_0 11 rfl) (zby_w zwX8_twice_0 12 rfl) (by decide)
theorem d_X8_twice_13 : decode cX8_twice 13 = .ok (.getfield 257, 3) := zo_180 (a := 1) (b := 1) (zby_w zwX8_twice_0 13 rfl) (zby_w zwX8_twice_0 14 rfl) (zby_w zwX8_twice_0 15 rfl) (by decide)
theorem d_X8_twice_16 : decode cX8_twice 16 = .ok (.iload_n 1, 1) := zo_27 (zby_w zwX8_twice_0 16 rfl)
theorem d_X8_twice_17 : decode cX8_twice 17 = .ok (.iconst 1, 1) := zo_4 (zby_w zwX8_twice_0 17 rfl)
theorem d_X8_twice_18 : decode cX8_twice 18 = .ok (.if_icmp .ne 7, 3) := zo_160 (a := 0) (b := 7) (zby_w zwX8_twice_0 18 rfl) (zby_w zwX8_twice_0 19 rfl) (zby_w zwX8_twice_0 20 rfl) (by decide)
theorem d_X8_twice_21 : decode cX8_twice 21 = .ok (.iconst 1, 1) := zo_4 (zby_w zwX8_twice_0 21 rfl)
theorem d_X8_twice_22 : decode cX8_twice 22 = .ok (.goto 4, 3) := zo_167 (a := 0) (b := 4) (zby_w zwX8_twice_0 22 rfl) (zby_w zwX8_twice_0 23 rfl) (zby_w zwX8_twice_0 24 rfl) (by decide)
theorem d_X8_twice_25 : decode cX8_twice 25 = .ok (.iconst 0, 1) := zo_3 (zby_w zwX8_twice_0 25 rfl)
theorem d_X8_twice_26 : decode cX8_twice 26 = .ok (.invokevirtual 270, 3) := zo_182 (a := 1) (b := 14) (zby_w zwX8_twice_0 26 rfl) (zby_w zwX8_twice_0 27 rfl) (zby_w zwX8_twice_0 28 rfl) (by decide)
theorem d_X8_twice_29 : decode cX8_twice 29 = .ok (.goto 5, 3) := zo_167 (a := 0) (b := 5) (zby_w zwX8_twice_0 29 rfl) (zby_w zwX8_twice_0 30 rfl) (zby_w zwX8_twice_0 31 rfl) (by decide)
theorem d_X8_twice_32 : decode cX8_twice 32 = .ok (.bipush (-2), 2) := zo_16 (a := 254) (zby_w zwX8_twice_1 0 rfl) (zby_w zwX8_twice_1 1 rfl) (by decide)
theorem d_X8_twice_34 : decode cX8_twice 34 = .ok (.ireturn, 1) := zo_172 (zby_w zwX8_twice_1 2 rfl)
theorem d_X8_ways_0 : decode cX8_ways 0 = .ok (.iload_n 1, 1) := zo_27 (zby_w zwX8_ways_0 0 rfl)
theorem d_X8_ways_1 : decode cX8_ways 1 = .ok (.ifCond .lt 8, 3) := zo_155 (a := 0) (b := 8) (zby_w zwX8_ways_0 1 rfl) (zby_w zwX8_ways_0 2 rfl) (zby_w zwX8_ways_0 3 rfl) (by decide)
theorem d_X8_ways_4 : decode cX8_ways 4 = .ok (.iload_n 1, 1) := zo_27 (zby_w zwX8_ways_0 4 rfl)
theorem d_X8_ways_5 : decode cX8_ways 5 = .ok (.iload_n 0, 1) := zo_26 (zby_w zwX8_ways_0 5 rfl)
theorem d_X8_ways_6 : decode cX8_ways 6 = .ok (.if_icmp .le 5, 3) := zo_164 (a := 0) (b := 5) (zby_w zwX8_ways_0 6 rfl) (zby_w zwX8_ways_0 7 rfl) (zby_w zwX8_ways_0 8 rfl) (by decide)
theorem d_X8_ways_9 : decode cX8_ways 9 = .ok (.lconst 0, 1) := zo_9 (zby_w zwX8_ways_0 9 rfl)
theorem d_X8_ways_10 : decode cX8_ways 10 = .ok (.lreturn, 1) := zo_173 (zby_w zwX8_ways_0 10 rfl)
theorem d_X8_ways_11 : decode cX8_ways 11 = .ok (.lconst 1, 1) := zo_10 (zby_w zwX8_ways_0 11 rfl)
theorem d_X8_ways_12 : decode cX8_ways 12 = .ok (.lstore_n 2, 1) := zo_65 (zby_w zwX8_ways_0 12 rfl)
theorem d_X8_ways_13 : decode cX8_ways 13 = .ok (.iconst 1, 1) := zo_4 (zby_w zwX8_ways_0 13 rfl)
theorem d_X8_ways_14 : decode cX8_ways 14 = .ok (.istore 4, 2) := zo_54 (a := 4) (zby_w zwX8_ways_0 14 rfl) (zby_w zwX8_ways_0 15 rfl) (by decide)
theorem d_X8_ways_16 : decode cX8_ways 16 = .ok (.iload 4, 2) := zo_21 (a := 4) (zby_w zwX8_ways_0 16 rfl) (zby_w zwX8_ways_0 17 rfl) (by decide)
theorem d_X8_ways_18 : decode cX8_ways 18 = .ok (.iload_n 1, 1) := zo_27 (zby_w zwX8_ways_0 18 rfl)
theorem d_X8_ways_19 : decode cX8_ways 19 = .ok (.if_icmp .gt 23, 3) := zo_163 (a := 0) (b := 23) (zby_w zwX8_ways_0 19 rfl) (zby_w zwX8_ways_0 20 rfl) (zby_w zwX8_ways_0 21 rfl) (by decide)
theorem d_X8_ways_22 : decode cX8_ways 22 = .ok (.lload_n 2, 1) := zo_32 (zby_w zwX8_ways_0 22 rfl)
theorem d_X8_ways_23 : decode cX8_ways 23 = .ok (.iload_n 0, 1) := zo_26 (zby_w zwX8_ways_0 23 rfl)
theorem d_X8_ways_24 : decode cX8_ways 24 = .ok (.iload_n 1, 1) := zo_27 (zby_w zwX8_ways_0 24 rfl)
theorem d_X8_ways_25 : decode cX8_ways 25 = .ok (.isub, 1) := zo_100 (zby_w zwX8_ways_0 25 rfl)
theorem d_X8_ways_26 : decode cX8_ways 26 = .ok (.iload 4, 2) := zo_21 (a := 4) (zby_w zwX8_ways_0 26 rfl) (zby_w zwX8_ways_0 27 rfl) (by decide)
theorem d_X8_ways_28 : decode cX8_ways 28 = .ok (.iadd, 1) := zo_96 (zby_w zwX8_ways_0 28 rfl)
theorem d_X8_ways_29 : decode cX8_ways 29 = .ok (.i2l, 1) := zo_133 (zby_w zwX8_ways_0 29 rfl)
theorem d_X8_ways_30 : decode cX8_ways 30 = .ok (.lmul, 1) := zo_105 (zby_w zwX8_ways_0 30 rfl)
theorem d_X8_ways_31 : decode cX8_ways 31 = .ok (.iload 4, 2) := zo_21 (a := 4) (zby_w zwX8_ways_0 31 rfl) (zby_w zwX8_ways_0 32 rfl) (by decide)
theorem d_X8_ways_33 : decode cX8_ways 33 = .ok (.i2l, 1) := zo_133 (zby_w zwX8_ways_1 1 rfl)
theorem d_X8_ways_34 : decode cX8_ways 34 = .ok (.ldiv, 1) := zo_109 (zby_w zwX8_ways_1 2 rfl)
theorem d_X8_ways_35 : decode cX8_ways 35 = .ok (.lstore_n 2, 1) := zo_65 (zby_w zwX8_ways_1 3 rfl)
theorem d_X8_ways_36 : decode cX8_ways 36 = .ok (.iinc 4 1, 3) := by decide +kernel
theorem d_X8_ways_39 : decode cX8_ways 39 = .ok (.goto (-23), 3) := zo_167 (a := 255) (b := 233) (zby_w zwX8_ways_1 7 rfl) (zby_w zwX8_ways_1 8 rfl) (zby_w zwX8_ways_1 9 rfl) (by decide)
theorem d_X8_ways_42 : decode cX8_ways 42 = .ok (.lload_n 2, 1) := zo_32 (zby_w zwX8_ways_1 10 rfl)
theorem d_X8_ways_43 : decode cX8_ways 43 = .ok (.lreturn, 1) := zo_173 (zby_w zwX8_ways_1 11 rfl)
theorem d_X8_wipe_0 : decode cX8_wipe 0 = .ok (.aload_n 0, 1) := zo_42 (zby_w zwX8_wipe_0 0 rfl)
theorem d_X8_wipe_1 : decode cX8_wipe 1 = .ok (.getfield 29, 3) := zo_180 (a := 0) (b := 29) (zby_w zwX8_wipe_0 1 rfl) (zby_w zwX8_wipe_0 2 rfl) (zby_w zwX8_wipe_0 3 rfl) (by decide)
theorem d_X8_wipe_4 : decode cX8_wipe 4 = .ok (.invokevirtual 98, 3) := zo_182 (a := 0) (b := 98) (zby_w zwX8_wipe_0 4 rfl) (zby_w zwX8_wipe_0 5 rfl) (zby_w zwX8_wipe_0 6 rfl) (by decide)
theorem d_X8_wipe_7 : decode cX8_wipe 7 = .ok (.ireturn, 1) := zo_172 (zby_w zwX8_wipe_0 7 rfl)
theorem d_X8_within_0 : decode cX8_within 0 = .ok (.iload_n 0, 1) := zo_26 (zby_w zwX8_within_0 0 rfl)
theorem d_X8_within_1 : decode cX8_within 1 = .ok (.iload_n 1, 1) := zo_27 (zby_w zwX8_within_0 1 rfl)
theorem d_X8_within_2 : decode cX8_within 2 = .ok (.if_icmp .lt 12, 3) := zo_161 (a := 0) (b := 12) (zby_w zwX8_within_0 2 rfl) (zby_w zwX8_within_0 3 rfl) (zby_w zwX8_within_0 4 rfl) (by decide)
theorem d_X8_within_5 : decode cX8_within 5 = .ok (.iload_n 0, 1) := zo_26 (zby_w zwX8_within_0 5 rfl)
theorem d_X8_within_6 : decode cX8_within 6 = .ok (.iload_n 2, 1) := zo_28 (zby_w zwX8_within_0 6 rfl)
theorem d_X8_within_7 : decode cX8_within 7 = .ok (.if_icmp .gt 7, 3) := zo_163 (a := 0) (b := 7) (zby_w zwX8_within_0 7 rfl) (zby_w zwX8_within_0 8 rfl) (zby_w zwX8_within_0 9 rfl) (by decide)
theorem d_X8_within_10 : decode cX8_within 10 = .ok (.iconst 1, 1) := zo_4 (zby_w zwX8_within_0 10 rfl)
theorem d_X8_within_11 : decode cX8_within 11 = .ok (.goto 4, 3) := zo_167 (a := 0) (b := 4) (zby_w zwX8_within_0 11 rfl) (zby_w zwX8_within_0 12 rfl) (zby_w zwX8_within_0 13 rfl) (by decide)
theorem d_X8_within_14 : decode cX8_within 14 = .ok (.iconst 0, 1) := zo_3 (zby_w zwX8_within_0 14 rfl)
theorem d_X8_within_15 : decode cX8_within 15 = .ok (.ireturn, 1) := zo_172 (zby_w zwX8_within_0 15 rfl)
theorem d_X8_worst_0 : decode cX8_worst 0 = .ok (.aload_n 0, 1) := zo_42 (zby_w zwX8_worst_0 0 rfl)
theorem d_X8_worst_1 : decode cX8_worst 1 = .ok (.getfield 10, 3) := zo_180 (a := 0) (b := 10) (zby_w zwX8_worst_0 1 rfl) (zby_w zwX8_worst_0 2 rfl) (zby_w zwX8_worst_0 3 rfl) (by decide)
theorem d_X8_worst_4 : decode cX8_worst 4 = .ok (.getfield 51, 3) := zo_180 (a := 0) (b := 51) (zby_w zwX8_worst_0 4 rfl) (zby_w zwX8_worst_0 5 rfl) (zby_w zwX8_worst_0 6 rfl) (by decide)
theorem d_X8_worst_7 : decode cX8_worst 7 = .ok (.iload_n 1, 1) := zo_27 (zby_w zwX8_worst_0 7 rfl)
theorem d_X8_worst_8 : decode cX8_worst 8 = .ok (.invokevirtual 79, 3) := zo_182 (a := 0) (b := 79) (zby_w zwX8_worst_0 8 rfl) (zby_w zwX8_worst_0 9 rfl) (zby_w zwX8_worst_0 10 rfl) (by decide)
theorem d_X8_worst_11 : decode cX8_worst 11 = .ok (.ifCond .ne 5, 3) := zo_154 (a := 0) (b := 5) (zby_w zwX8_worst_0 11 rfl) (zby_w zwX8_worst_0 12 rfl) (zby_w zwX8_worst_0 13 rfl) (by decide)
theorem d_X8_worst_14 : decode cX8_worst 14 = .ok (.iconst (-1), 1) := zo_2 (zby_w zwX8_worst_0 14 rfl)
theorem d_X8_worst_15 : decode cX8_worst 15 = .ok (.ireturn, 1) := zo_172 (zby_w zwX8_worst_0 15 rfl)
theorem d_X8_worst_16 : decode cX8_worst 16 = .ok (.iload_n 2, 1) := zo_28 (zby_w zwX8_worst_0 16 rfl)
theorem d_X8_worst_17 : decode cX8_worst 17 = .ok (.iconst 0, 1) := zo_3 (zby_w zwX8_worst_0 17 rfl)
theorem d_X8_worst_18 : decode cX8_worst 18 = .ok (.iconst 2, 1) := zo_5 (zby_w zwX8_worst_0 18 rfl)
theorem d_X8_worst_19 : decode cX8_worst 19 = .ok (.invokestatic 47, 3) := zo_184 (a := 0) (b := 47) (zby_w zwX8_worst_0 19 rfl) (zby_w zwX8_worst_0 20 rfl) (zby_w zwX8_worst_0 21 rfl) (by decide)
theorem d_X8_worst_22 : decode cX8_worst 22 = .ok (.ifCond .eq 10, 3) := zo_153 (a := 0) (b := 10) (zby_w zwX8_worst_0 22 rfl) (zby_w zwX8_worst_0 23 rfl) (zby_w zwX8_worst_0 24 rfl) (by decide)
theorem d_X8_worst_25 : decode cX8_worst 25 = .ok (.iload_n 3, 1) := zo_29 (zby_w zwX8_worst_0 25 rfl)
theorem d_X8_worst_26 : decode cX8_worst 26 = .ok (.invokestatic 145, 3) := zo_184 (a := 0) (b := 145) (zby_w zwX8_worst_0 26 rfl) (zby_w zwX8_worst_0 27 rfl) (zby_w zwX8_worst_0 28 rfl) (by decide)
theorem d_X8_worst_29 : decode cX8_worst 29 = .ok (.ifCond .ne 6, 3) := zo_154 (a := 0) (b := 6) (zby_w zwX8_worst_0 29 rfl) (zby_w zwX8_worst_0 30 rfl) (zby_w zwX8_worst_0 31 rfl) (by decide)
theorem d_X8_worst_32 : decode cX8_worst 32 = .ok (.bipush (-2), 2) := zo_16 (a := 254) (zby_w zwX8_worst_1 0 rfl) (zby_w zwX8_worst_1 1 rfl) (by decide)
theorem d_X8_worst_34 : decode cX8_worst 34 = .ok (.ireturn, 1) := zo_172 (zby_w zwX8_worst_1 2 rfl)
theorem d_X8_worst_35 : decode cX8_worst 35 = .ok (.aload_n 0, 1) := zo_42 (zby_w zwX8_worst_1 3 rfl)
theorem d_X8_worst_36 : decode cX8_worst 36 = .ok (.getfield 10, 3) := zo_180 (a := 0) (b := 10) (zby_w zwX8_worst_1 4 rfl) (zby_w zwX8_worst_1 5 rfl) (zby_w zwX8_worst_1 6 rfl) (by decide)
theorem d_X8_worst_39 : decode cX8_worst 39 = .ok (.getfield 51, 3) := zo_180 (a := 0) (b := 51) (zby_w zwX8_worst_1 7 rfl) (zby_w zwX8_worst_1 8 rfl) (zby_w zwX8_worst_1 9 rfl) (by decide)
theorem d_X8_worst_42 : decode cX8_worst 42 = .ok (.iload_n 1, 1) := zo_27 (zby_w zwX8_worst_1 10 rfl)
theorem d_X8_worst_43 : decode cX8_worst 43 = .ok (.iload_n 2, 1) := zo_28 (zby_w zwX8_worst_1 11 rfl)
theorem d_X8_worst_44 : decode cX8_worst 44 = .ok (.iload_n 3, 1) := zo_29 (zby_w zwX8_worst_1 12 rfl)
theorem d_X8_worst_45 : decode cX8_worst 45 = .ok (.invokevirtual 152, 3) := zo_182 (a := 0) (b := 152) (zby_w zwX8_worst_1 13 rfl) (zby_w zwX8_worst_1 14 rfl) (zby_w zwX8_worst_1 15 rfl) (by decide)
theorem d_X8_worst_48 : decode cX8_worst 48 = .ok (.ireturn, 1) := zo_172 (zby_w zwX8_worst_1 16 rfl)
theorem d_X8_years_0 : decode cX8_years 0 = .ok (.aload_n 0, 1) := zo_42 (zby_w zwX8_years_0 0 rfl)
theorem d_X8_years_1 : decode cX8_years 1 = .ok (.getfield 10, 3) := zo_180 (a := 0) (b := 10) (zby_w zwX8_years_0 1 rfl) (zby_w zwX8_years_0 2 rfl) (zby_w zwX8_years_0 3 rfl) (by decide)
theorem d_X8_years_4 : decode cX8_years 4 = .ok (.getfield 51, 3) := zo_180 (a := 0) (b := 51) (zby_w zwX8_years_0 4 rfl) (zby_w zwX8_years_0 5 rfl) (zby_w zwX8_years_0 6 rfl) (by decide)
theorem d_X8_years_7 : decode cX8_years 7 = .ok (.astore 5, 2) := zo_58 (a := 5) (zby_w zwX8_years_0 7 rfl) (zby_w zwX8_years_0 8 rfl) (by decide)
theorem d_X8_years_9 : decode cX8_years 9 = .ok (.aload 5, 2) := zo_25 (a := 5) (zby_w zwX8_years_0 9 rfl) (zby_w zwX8_years_0 10 rfl) (by decide)
theorem d_X8_years_11 : decode cX8_years 11 = .ok (.iload_n 1, 1) := zo_27 (zby_w zwX8_years_0 11 rfl)
theorem d_X8_years_12 : decode cX8_years 12 = .ok (.invokevirtual 79, 3) := zo_182 (a := 0) (b := 79) (zby_w zwX8_years_0 12 rfl) (zby_w zwX8_years_0 13 rfl) (zby_w zwX8_years_0 14 rfl) (by decide)
theorem d_X8_years_15 : decode cX8_years 15 = .ok (.ifCond .ne 5, 3) := zo_154 (a := 0) (b := 5) (zby_w zwX8_years_0 15 rfl) (zby_w zwX8_years_0 16 rfl) (zby_w zwX8_years_0 17 rfl) (by decide)
theorem d_X8_years_18 : decode cX8_years 18 = .ok (.iconst (-1), 1) := zo_2 (zby_w zwX8_years_0 18 rfl)
theorem d_X8_years_19 : decode cX8_years 19 = .ok (.ireturn, 1) := zo_172 (zby_w zwX8_years_0 19 rfl)
theorem d_X8_years_20 : decode cX8_years 20 = .ok (.iload_n 2, 1) := zo_28 (zby_w zwX8_years_0 20 rfl)
theorem d_X8_years_21 : decode cX8_years 21 = .ok (.iconst 0, 1) := zo_3 (zby_w zwX8_years_0 21 rfl)
theorem d_X8_years_22 : decode cX8_years 22 = .ok (.sipush 9999, 3) := zo_17 (a := 39) (b := 15) (zby_w zwX8_years_0 22 rfl) (zby_w zwX8_years_0 23 rfl) (zby_w zwX8_years_0 24 rfl) (by decide)
theorem d_X8_years_25 : decode cX8_years 25 = .ok (.invokestatic 47, 3) := zo_184 (a := 0) (b := 47) (zby_w zwX8_years_0 25 rfl) (zby_w zwX8_years_0 26 rfl) (zby_w zwX8_years_0 27 rfl) (by decide)
theorem d_X8_years_28 : decode cX8_years 28 = .ok (.ifCond .eq 23, 3) := zo_153 (a := 0) (b := 23) (zby_w zwX8_years_0 28 rfl) (zby_w zwX8_years_0 29 rfl) (zby_w zwX8_years_0 30 rfl) (by decide)
theorem d_X8_years_31 : decode cX8_years 31 = .ok (.iload_n 3, 1) := zo_29 (zby_w zwX8_years_0 31 rfl)
theorem d_X8_years_32 : decode cX8_years 32 = .ok (.iconst 1, 1) := zo_4 (zby_w zwX8_years_1 0 rfl)
theorem d_X8_years_33 : decode cX8_years 33 = .ok (.bipush 99, 2) := zo_16 (a := 99) (zby_w zwX8_years_1 1 rfl) (zby_w zwX8_years_1 2 rfl) (by decide)
theorem d_X8_years_35 : decode cX8_years 35 = .ok (.invokestatic 47, 3) := zo_184 (a := 0) (b := 47) (zby_w zwX8_years_1 3 rfl) (zby_w zwX8_years_1 4 rfl) (zby_w zwX8_years_1 5 rfl) (by decide)
theorem d_X8_years_38 : decode cX8_years 38 = .ok (.ifCond .eq 13, 3) := zo_153 (a := 0) (b := 13) (zby_w zwX8_years_1 6 rfl) (zby_w zwX8_years_1 7 rfl) (zby_w zwX8_years_1 8 rfl) (by decide)
theorem d_X8_years_41 : decode cX8_years 41 = .ok (.iload 4, 2) := zo_21 (a := 4) (zby_w zwX8_years_1 9 rfl) (zby_w zwX8_years_1 10 rfl) (by decide)
theorem d_X8_years_43 : decode cX8_years 43 = .ok (.iconst 0, 1) := zo_3 (zby_w zwX8_years_1 11 rfl)
theorem d_X8_years_44 : decode cX8_years 44 = .ok (.iconst 2, 1) := zo_5 (zby_w zwX8_years_1 12 rfl)
theorem d_X8_years_45 : decode cX8_years 45 = .ok (.invokestatic 47, 3) := zo_184 (a := 0) (b := 47) (zby_w zwX8_years_1 13 rfl) (zby_w zwX8_years_1 14 rfl) (zby_w zwX8_years_1 15 rfl) (by decide)
theorem d_X8_years_48 : decode cX8_years 48 = .ok (.ifCond .ne 6, 3) := zo_154 (a := 0) (b := 6) (zby_w zwX8_years_1 16 rfl) (zby_w zwX8_years_1 17 rfl) (zby_w zwX8_years_1 18 rfl) (by decide)
theorem d_X8_years_51 : decode cX8_years 51 = .ok (.bipush (-2), 2) := zo_16 (a := 254) (zby_w zwX8_years_1 19 rfl) (zby_w zwX8_years_1 20 rfl) (by decide)
theorem d_X8_years_53 : decode cX8_years 53 = .ok (.ireturn, 1) := zo_172 (zby_w zwX8_years_1 21 rfl)
theorem d_X8_years_54 : decode cX8_years 54 = .ok (.iload 4, 2) := zo_21 (a := 4) (zby_w zwX8_years_1 22 rfl) (zby_w zwX8_years_1 23 rfl) (by decide)
theorem d_X8_years_56 : decode cX8_years 56 = .ok (.iconst 1, 1) := zo_4 (zby_w zwX8_years_1 24 rfl)
theorem d_X8_years_57 : decode cX8_years 57 = .ok (.if_icmp .ne 12, 3) := zo_160 (a := 0) (b := 12) (zby_w zwX8_years_1 25 rfl) (zby_w zwX8_years_1 26 rfl) (zby_w zwX8_years_1 27 rfl) (by decide)
theorem d_X8_years_60 : decode cX8_years 60 = .ok (.iload_n 3, 1) := zo_29 (zby_w zwX8_years_1 28 rfl)
theorem d_X8_years_61 : decode cX8_years 61 = .ok (.aload 5, 2) := zo_25 (a := 5) (zby_w zwX8_years_1 29 rfl) (zby_w zwX8_years_1 30 rfl) (by decide)
theorem d_X8_years_63 : decode cX8_years 63 = .ok (.iload_n 1, 1) := zo_27 (zby_w zwX8_years_1 31 rfl)
theorem d_X8_years_64 : decode cX8_years 64 = .ok (.invokevirtual 274, 3) := zo_182 (a := 1) (b := 18) (zby_w zwX8_years_2 0 rfl) (zby_w zwX8_years_2 1 rfl) (zby_w zwX8_years_2 2 rfl) (by decide)
theorem d_X8_years_67 : decode cX8_years 67 = .ok (.imul, 1) := zo_104 (zby_w zwX8_years_2 3 rfl)
theorem d_X8_years_68 : decode cX8_years 68 = .ok (.ireturn, 1) := zo_172 (zby_w zwX8_years_2 4 rfl)
theorem d_X8_years_69 : decode cX8_years 69 = .ok (.iload_n 2, 1) := zo_28 (zby_w zwX8_years_2 5 rfl)
theorem d_X8_years_70 : decode cX8_years 70 = .ok (.istore 6, 2) := zo_54 (a := 6) (zby_w zwX8_years_2 6 rfl) (zby_w zwX8_years_2 7 rfl) (by decide)
theorem d_X8_years_72 : decode cX8_years 72 = .ok (.iconst 0, 1) := zo_3 (zby_w zwX8_years_2 8 rfl)
theorem d_X8_years_73 : decode cX8_years 73 = .ok (.istore 7, 2) := zo_54 (a := 7) (zby_w zwX8_years_2 9 rfl) (zby_w zwX8_years_2 10 rfl) (by decide)
theorem d_X8_years_75 : decode cX8_years 75 = .ok (.iconst 0, 1) := zo_3 (zby_w zwX8_years_2 11 rfl)
theorem d_X8_years_76 : decode cX8_years 76 = .ok (.istore 8, 2) := zo_54 (a := 8) (zby_w zwX8_years_2 12 rfl) (zby_w zwX8_years_2 13 rfl) (by decide)
theorem d_X8_years_78 : decode cX8_years 78 = .ok (.iload 8, 2) := zo_21 (a := 8) (zby_w zwX8_years_2 14 rfl) (zby_w zwX8_years_2 15 rfl) (by decide)
theorem d_X8_years_80 : decode cX8_years 80 = .ok (.iload_n 3, 1) := zo_29 (zby_w zwX8_years_2 16 rfl)
theorem d_X8_years_81 : decode cX8_years 81 = .ok (.if_icmp .ge 40, 3) := zo_162 (a := 0) (b := 40) (zby_w zwX8_years_2 17 rfl) (zby_w zwX8_years_2 18 rfl) (zby_w zwX8_years_2 19 rfl) (by decide)
theorem d_X8_years_84 : decode cX8_years 84 = .ok (.iload 6, 2) := zo_21 (a := 6) (zby_w zwX8_years_2 20 rfl) (zby_w zwX8_years_2 21 rfl) (by decide)
theorem d_X8_years_86 : decode cX8_years 86 = .ok (.invokestatic 277, 3) := zo_184 (a := 1) (b := 21) (zby_w zwX8_years_2 22 rfl) (zby_w zwX8_years_2 23 rfl) (zby_w zwX8_years_2 24 rfl) (by decide)
theorem d_X8_years_89 : decode cX8_years 89 = .ok (.istore 6, 2) := zo_54 (a := 6) (zby_w zwX8_years_2 25 rfl) (zby_w zwX8_years_2 26 rfl) (by decide)
theorem d_X8_years_91 : decode cX8_years 91 = .ok (.iload 6, 2) := zo_21 (a := 6) (zby_w zwX8_years_2 27 rfl) (zby_w zwX8_years_2 28 rfl) (by decide)
theorem d_X8_years_93 : decode cX8_years 93 = .ok (.bipush 24, 2) := zo_16 (a := 24) (zby_w zwX8_years_2 29 rfl) (zby_w zwX8_years_2 30 rfl) (by decide)
theorem d_X8_years_95 : decode cX8_years 95 = .ok (.idiv, 1) := zo_108 (zby_w zwX8_years_2 31 rfl)
theorem d_X8_years_96 : decode cX8_years 96 = .ok (.bipush 10, 2) := zo_16 (a := 10) (zby_w zwX8_years_3 0 rfl) (zby_w zwX8_years_3 1 rfl) (by decide)
theorem d_X8_years_98 : decode cX8_years 98 = .ok (.irem, 1) := zo_112 (zby_w zwX8_years_3 2 rfl)
theorem d_X8_years_99 : decode cX8_years 99 = .ok (.aload 5, 2) := zo_25 (a := 5) (zby_w zwX8_years_3 3 rfl) (zby_w zwX8_years_3 4 rfl) (by decide)
theorem d_X8_years_101 : decode cX8_years 101 = .ok (.iload 6, 2) := zo_21 (a := 6) (zby_w zwX8_years_3 5 rfl) (zby_w zwX8_years_3 6 rfl) (by decide)
theorem d_X8_years_103 : decode cX8_years 103 = .ok (.bipush 24, 2) := zo_16 (a := 24) (zby_w zwX8_years_3 7 rfl) (zby_w zwX8_years_3 8 rfl) (by decide)
theorem d_X8_years_105 : decode cX8_years 105 = .ok (.irem, 1) := zo_112 (zby_w zwX8_years_3 9 rfl)
theorem d_X8_years_106 : decode cX8_years 106 = .ok (.invokevirtual 209, 3) := zo_182 (a := 0) (b := 209) (zby_w zwX8_years_3 10 rfl) (zby_w zwX8_years_3 11 rfl) (zby_w zwX8_years_3 12 rfl) (by decide)
theorem d_X8_years_109 : decode cX8_years 109 = .ok (.if_icmp .ge 6, 3) := zo_162 (a := 0) (b := 6) (zby_w zwX8_years_3 13 rfl) (zby_w zwX8_years_3 14 rfl) (zby_w zwX8_years_3 15 rfl) (by decide)
theorem d_X8_years_112 : decode cX8_years 112 = .ok (.iinc 7 1, 3) := by decide +kernel
theorem d_X8_years_115 : decode cX8_years 115 = .ok (.iinc 8 1, 3) := by decide +kernel
theorem d_X8_years_118 : decode cX8_years 118 = .ok (.goto (-40), 3) := zo_167 (a := 255) (b := 216) (zby_w zwX8_years_3 22 rfl) (zby_w zwX8_years_3 23 rfl) (zby_w zwX8_years_3 24 rfl) (by decide)
theorem d_X8_years_121 : decode cX8_years 121 = .ok (.iload 4, 2) := zo_21 (a := 4) (zby_w zwX8_years_3 25 rfl) (zby_w zwX8_years_3 26 rfl) (by decide)
theorem d_X8_years_123 : decode cX8_years 123 = .ok (.iconst 2, 1) := zo_5 (zby_w zwX8_years_3 27 rfl)
theorem d_X8_years_124 : decode cX8_years 124 = .ok (.if_icmp .ne 8, 3) := zo_160 (a := 0) (b := 8) (zby_w zwX8_years_3 28 rfl) (zby_w zwX8_years_3 29 rfl) (zby_w zwX8_years_3 30 rfl) (by decide)
theorem d_X8_years_127 : decode cX8_years 127 = .ok (.iload 7, 2) := zo_21 (a := 7) (zby_w zwX8_years_3 31 rfl) (zby_w zwX8_years_3 32 rfl) (by decide)
theorem d_X8_years_129 : decode cX8_years 129 = .ok (.goto 12, 3) := zo_167 (a := 0) (b := 12) (zby_w zwX8_years_4 1 rfl) (zby_w zwX8_years_4 2 rfl) (zby_w zwX8_years_4 3 rfl) (by decide)
theorem d_X8_years_132 : decode cX8_years 132 = .ok (.iload 7, 2) := zo_21 (a := 7) (zby_w zwX8_years_4 4 rfl) (zby_w zwX8_years_4 5 rfl) (by decide)
theorem d_X8_years_134 : decode cX8_years 134 = .ok (.aload 5, 2) := zo_25 (a := 5) (zby_w zwX8_years_4 6 rfl) (zby_w zwX8_years_4 7 rfl) (by decide)
theorem d_X8_years_136 : decode cX8_years 136 = .ok (.iload_n 1, 1) := zo_27 (zby_w zwX8_years_4 8 rfl)
theorem d_X8_years_137 : decode cX8_years 137 = .ok (.invokevirtual 221, 3) := zo_182 (a := 0) (b := 221) (zby_w zwX8_years_4 9 rfl) (zby_w zwX8_years_4 10 rfl) (zby_w zwX8_years_4 11 rfl) (by decide)
theorem d_X8_years_140 : decode cX8_years 140 = .ok (.imul, 1) := zo_104 (zby_w zwX8_years_4 12 rfl)
theorem d_X8_years_141 : decode cX8_years 141 = .ok (.ireturn, 1) := zo_172 (zby_w zwX8_years_4 13 rfl)
theorem d_X9_aboard_0 : decode cX9_aboard 0 = .ok (.iload_n 1, 1) := zo_27 (zby_w zwX9_aboard_0 0 rfl)
theorem d_X9_aboard_1 : decode cX9_aboard 1 = .ok (.i2l, 1) := zo_133 (zby_w zwX9_aboard_0 1 rfl)
theorem d_X9_aboard_2 : decode cX9_aboard 2 = .ok (.lconst 0, 1) := zo_9 (zby_w zwX9_aboard_0 2 rfl)
theorem d_X9_aboard_3 : decode cX9_aboard 3 = .ok (.ldc2_w 118, 3) := zo_20 (a := 0) (b := 118) (zby_w zwX9_aboard_0 3 rfl) (zby_w zwX9_aboard_0 4 rfl) (zby_w zwX9_aboard_0 5 rfl) (by decide)
theorem d_X9_aboard_6 : decode cX9_aboard 6 = .ok (.invokestatic 89, 3) := zo_184 (a := 0) (b := 89) (zby_w zwX9_aboard_0 6 rfl) (zby_w zwX9_aboard_0 7 rfl) (zby_w zwX9_aboard_0 8 rfl) (by decide)
theorem d_X9_aboard_9 : decode cX9_aboard 9 = .ok (.ifCond .ne 5, 3) := zo_154 (a := 0) (b := 5) (zby_w zwX9_aboard_0 9 rfl) (zby_w zwX9_aboard_0 10 rfl) (zby_w zwX9_aboard_0 11 rfl) (by decide)
theorem d_X9_aboard_12 : decode cX9_aboard 12 = .ok (.iconst (-1), 1) := zo_2 (zby_w zwX9_aboard_0 12 rfl)
theorem d_X9_aboard_13 : decode cX9_aboard 13 = .ok (.ireturn, 1) := zo_172 (zby_w zwX9_aboard_0 13 rfl)
theorem d_X9_aboard_14 : decode cX9_aboard 14 = .ok (.iload_n 2, 1) := zo_28 (zby_w zwX9_aboard_0 14 rfl)
theorem d_X9_aboard_15 : decode cX9_aboard 15 = .ok (.i2l, 1) := zo_133 (zby_w zwX9_aboard_0 15 rfl)
theorem d_X9_aboard_16 : decode cX9_aboard 16 = .ok (.lconst 0, 1) := zo_9 (zby_w zwX9_aboard_0 16 rfl)
theorem d_X9_aboard_17 : decode cX9_aboard 17 = .ok (.ldc2_w 106, 3) := zo_20 (a := 0) (b := 106) (zby_w zwX9_aboard_0 17 rfl) (zby_w zwX9_aboard_0 18 rfl) (zby_w zwX9_aboard_0 19 rfl) (by decide)
theorem d_X9_aboard_20 : decode cX9_aboard 20 = .ok (.invokestatic 89, 3) := zo_184 (a := 0) (b := 89) (zby_w zwX9_aboard_0 20 rfl) (zby_w zwX9_aboard_0 21 rfl) (zby_w zwX9_aboard_0 22 rfl) (by decide)
theorem d_X9_aboard_23 : decode cX9_aboard 23 = .ok (.ifCond .ne 6, 3) := zo_154 (a := 0) (b := 6) (zby_w zwX9_aboard_0 23 rfl) (zby_w zwX9_aboard_0 24 rfl) (zby_w zwX9_aboard_0 25 rfl) (by decide)
theorem d_X9_aboard_26 : decode cX9_aboard 26 = .ok (.bipush (-2), 2) := zo_16 (a := 254) (zby_w zwX9_aboard_0 26 rfl) (zby_w zwX9_aboard_0 27 rfl) (by decide)
theorem d_X9_aboard_28 : decode cX9_aboard 28 = .ok (.ireturn, 1) := zo_172 (zby_w zwX9_aboard_0 28 rfl)
theorem d_X9_aboard_29 : decode cX9_aboard 29 = .ok (.aload_n 0, 1) := zo_42 (zby_w zwX9_aboard_0 29 rfl)
theorem d_X9_aboard_30 : decode cX9_aboard 30 = .ok (.getfield 31, 3) := zo_180 (a := 0) (b := 31) (zby_w zwX9_aboard_0 30 rfl) (zby_w zwX9_aboard_0 31 rfl) (zby_w zwX9_aboard_0 32 rfl) (by decide)
theorem d_X9_aboard_33 : decode cX9_aboard 33 = .ok (.iload_n 1, 1) := zo_27 (zby_w zwX9_aboard_1 1 rfl)
theorem d_X9_aboard_34 : decode cX9_aboard 34 = .ok (.iload_n 2, 1) := zo_28 (zby_w zwX9_aboard_1 2 rfl)
theorem d_X9_aboard_35 : decode cX9_aboard 35 = .ok (.iastore, 1) := zo_79 (zby_w zwX9_aboard_1 3 rfl)
theorem d_X9_aboard_36 : decode cX9_aboard 36 = .ok (.aload_n 0, 1) := zo_42 (zby_w zwX9_aboard_1 4 rfl)
theorem d_X9_aboard_37 : decode cX9_aboard 37 = .ok (.dup, 1) := zo_89 (zby_w zwX9_aboard_1 5 rfl)
theorem d_X9_aboard_38 : decode cX9_aboard 38 = .ok (.getfield 272, 3) := zo_180 (a := 1) (b := 16) (zby_w zwX9_aboard_1 6 rfl) (zby_w zwX9_aboard_1 7 rfl) (zby_w zwX9_aboard_1 8 rfl) (by decide)
theorem d_X9_aboard_41 : decode cX9_aboard 41 = .ok (.iconst 1, 1) := zo_4 (zby_w zwX9_aboard_1 9 rfl)
theorem d_X9_aboard_42 : decode cX9_aboard 42 = .ok (.iload_n 1, 1) := zo_27 (zby_w zwX9_aboard_1 10 rfl)
theorem d_X9_aboard_43 : decode cX9_aboard 43 = .ok (.ishl, 1) := zo_120 (zby_w zwX9_aboard_1 11 rfl)
theorem d_X9_aboard_44 : decode cX9_aboard 44 = .ok (.ior, 1) := zo_128 (zby_w zwX9_aboard_1 12 rfl)
theorem d_X9_aboard_45 : decode cX9_aboard 45 = .ok (.putfield 272, 3) := zo_181 (a := 1) (b := 16) (zby_w zwX9_aboard_1 13 rfl) (zby_w zwX9_aboard_1 14 rfl) (zby_w zwX9_aboard_1 15 rfl) (by decide)
theorem d_X9_aboard_48 : decode cX9_aboard 48 = .ok (.aload_n 0, 1) := zo_42 (zby_w zwX9_aboard_1 16 rfl)
theorem d_X9_aboard_49 : decode cX9_aboard 49 = .ok (.getfield 272, 3) := zo_180 (a := 1) (b := 16) (zby_w zwX9_aboard_1 17 rfl) (zby_w zwX9_aboard_1 18 rfl) (zby_w zwX9_aboard_1 19 rfl) (by decide)
theorem d_X9_aboard_52 : decode cX9_aboard 52 = .ok (.invokestatic 108, 3) := zo_184 (a := 0) (b := 108) (zby_w zwX9_aboard_1 20 rfl) (zby_w zwX9_aboard_1 21 rfl) (zby_w zwX9_aboard_1 22 rfl) (by decide)
theorem d_X9_aboard_55 : decode cX9_aboard 55 = .ok (.ireturn, 1) := zo_172 (zby_w zwX9_aboard_1 23 rfl)
theorem d_X9_allOf_0 : decode cX9_allOf 0 = .ok (.aload_n 0, 1) := zo_42 (zby_w zwX9_allOf_0 0 rfl)
theorem d_X9_allOf_1 : decode cX9_allOf 1 = .ok (.getfield 66, 3) := zo_180 (a := 0) (b := 66) (zby_w zwX9_allOf_0 1 rfl) (zby_w zwX9_allOf_0 2 rfl) (zby_w zwX9_allOf_0 3 rfl) (by decide)
theorem d_X9_allOf_4 : decode cX9_allOf 4 = .ok (.aload_n 0, 1) := zo_42 (zby_w zwX9_allOf_0 4 rfl)
theorem d_X9_allOf_5 : decode cX9_allOf 5 = .ok (.getfield 7, 3) := zo_180 (a := 0) (b := 7) (zby_w zwX9_allOf_0 5 rfl) (zby_w zwX9_allOf_0 6 rfl) (zby_w zwX9_allOf_0 7 rfl) (by decide)
theorem d_X9_allOf_8 : decode cX9_allOf 8 = .ok (.iload_n 1, 1) := zo_27 (zby_w zwX9_allOf_0 8 rfl)
theorem d_X9_allOf_9 : decode cX9_allOf 9 = .ok (.iaload, 1) := zo_46 (zby_w zwX9_allOf_0 9 rfl)
theorem d_X9_allOf_10 : decode cX9_allOf 10 = .ok (.imul, 1) := zo_104 (zby_w zwX9_allOf_0 10 rfl)
theorem d_X9_allOf_11 : decode cX9_allOf 11 = .ok (.aload_n 0, 1) := zo_42 (zby_w zwX9_allOf_0 11 rfl)
theorem d_X9_allOf_12 : decode cX9_allOf 12 = .ok (.getfield 16, 3) := zo_180 (a := 0) (b := 16) (zby_w zwX9_allOf_0 12 rfl) (zby_w zwX9_allOf_0 13 rfl) (zby_w zwX9_allOf_0 14 rfl) (by decide)
theorem d_X9_allOf_15 : decode cX9_allOf 15 = .ok (.iload_n 1, 1) := zo_27 (zby_w zwX9_allOf_0 15 rfl)
theorem d_X9_allOf_16 : decode cX9_allOf 16 = .ok (.iaload, 1) := zo_46 (zby_w zwX9_allOf_0 16 rfl)
theorem d_X9_allOf_17 : decode cX9_allOf 17 = .ok (.iadd, 1) := zo_96 (zby_w zwX9_allOf_0 17 rfl)
theorem d_X9_allOf_18 : decode cX9_allOf 18 = .ok (.ireturn, 1) := zo_172 (zby_w zwX9_allOf_0 18 rfl)
theorem d_X9_ashore_0 : decode cX9_ashore 0 = .ok (.aload_n 0, 1) := zo_42 (zby_w zwX9_ashore_0 0 rfl)
theorem d_X9_ashore_1 : decode cX9_ashore 1 = .ok (.iload_n 1, 1) := zo_27 (zby_w zwX9_ashore_0 1 rfl)
theorem d_X9_ashore_2 : decode cX9_ashore 2 = .ok (.invokevirtual 275, 3) := zo_182 (a := 1) (b := 19) (zby_w zwX9_ashore_0 2 rfl) (zby_w zwX9_ashore_0 3 rfl) (zby_w zwX9_ashore_0 4 rfl) (by decide)
theorem d_X9_ashore_5 : decode cX9_ashore 5 = .ok (.ifCond .ne 5, 3) := zo_154 (a := 0) (b := 5) (zby_w zwX9_ashore_0 5 rfl) (zby_w zwX9_ashore_0 6 rfl) (zby_w zwX9_ashore_0 7 rfl) (by decide)
theorem d_X9_ashore_8 : decode cX9_ashore 8 = .ok (.iconst (-1), 1) := zo_2 (zby_w zwX9_ashore_0 8 rfl)
theorem d_X9_ashore_9 : decode cX9_ashore 9 = .ok (.ireturn, 1) := zo_172 (zby_w zwX9_ashore_0 9 rfl)
theorem d_X9_ashore_10 : decode cX9_ashore 10 = .ok (.aload_n 0, 1) := zo_42 (zby_w zwX9_ashore_0 10 rfl)
theorem d_X9_ashore_11 : decode cX9_ashore 11 = .ok (.dup, 1) := zo_89 (zby_w zwX9_ashore_0 11 rfl)
theorem d_X9_ashore_12 : decode cX9_ashore 12 = .ok (.getfield 272, 3) := zo_180 (a := 1) (b := 16) (zby_w zwX9_ashore_0 12 rfl) (zby_w zwX9_ashore_0 13 rfl) (zby_w zwX9_ashore_0 14 rfl) (by decide)
theorem d_X9_ashore_15 : decode cX9_ashore 15 = .ok (.iconst 1, 1) := zo_4 (zby_w zwX9_ashore_0 15 rfl)
theorem d_X9_ashore_16 : decode cX9_ashore 16 = .ok (.iload_n 1, 1) := zo_27 (zby_w zwX9_ashore_0 16 rfl)
theorem d_X9_ashore_17 : decode cX9_ashore 17 = .ok (.ishl, 1) := zo_120 (zby_w zwX9_ashore_0 17 rfl)
theorem d_X9_ashore_18 : decode cX9_ashore 18 = .ok (.iconst (-1), 1) := zo_2 (zby_w zwX9_ashore_0 18 rfl)
theorem d_X9_ashore_19 : decode cX9_ashore 19 = .ok (.ixor, 1) := zo_130 (zby_w zwX9_ashore_0 19 rfl)
theorem d_X9_ashore_20 : decode cX9_ashore 20 = .ok (.iand, 1) := zo_126 (zby_w zwX9_ashore_0 20 rfl)
theorem d_X9_ashore_21 : decode cX9_ashore 21 = .ok (.putfield 272, 3) := zo_181 (a := 1) (b := 16) (zby_w zwX9_ashore_0 21 rfl) (zby_w zwX9_ashore_0 22 rfl) (zby_w zwX9_ashore_0 23 rfl) (by decide)
theorem d_X9_ashore_24 : decode cX9_ashore 24 = .ok (.aload_n 0, 1) := zo_42 (zby_w zwX9_ashore_0 24 rfl)
theorem d_X9_ashore_25 : decode cX9_ashore 25 = .ok (.getfield 272, 3) := zo_180 (a := 1) (b := 16) (zby_w zwX9_ashore_0 25 rfl) (zby_w zwX9_ashore_0 26 rfl) (zby_w zwX9_ashore_0 27 rfl) (by decide)
theorem d_X9_ashore_28 : decode cX9_ashore 28 = .ok (.invokestatic 108, 3) := zo_184 (a := 0) (b := 108) (zby_w zwX9_ashore_0 28 rfl) (zby_w zwX9_ashore_0 29 rfl) (zby_w zwX9_ashore_0 30 rfl) (by decide)
theorem d_X9_ashore_31 : decode cX9_ashore 31 = .ok (.ireturn, 1) := zo_172 (zby_w zwX9_ashore_0 31 rfl)
theorem d_X9_behind_0 : decode cX9_behind 0 = .ok (.aload_n 0, 1) := zo_42 (zby_w zwX9_behind_0 0 rfl)
theorem d_X9_behind_1 : decode cX9_behind 1 = .ok (.iload_n 1, 1) := zo_27 (zby_w zwX9_behind_0 1 rfl)
theorem d_X9_behind_2 : decode cX9_behind 2 = .ok (.invokevirtual 112, 3) := zo_182 (a := 0) (b := 112) (zby_w zwX9_behind_0 2 rfl) (zby_w zwX9_behind_0 3 rfl) (zby_w zwX9_behind_0 4 rfl) (by decide)
theorem d_X9_behind_5 : decode cX9_behind 5 = .ok (.ifCond .ne 5, 3) := zo_154 (a := 0) (b := 5) (zby_w zwX9_behind_0 5 rfl) (zby_w zwX9_behind_0 6 rfl) (zby_w zwX9_behind_0 7 rfl) (by decide)
theorem d_X9_behind_8 : decode cX9_behind 8 = .ok (.iconst (-1), 1) := zo_2 (zby_w zwX9_behind_0 8 rfl)
theorem d_X9_behind_9 : decode cX9_behind 9 = .ok (.ireturn, 1) := zo_172 (zby_w zwX9_behind_0 9 rfl)
theorem d_X9_behind_10 : decode cX9_behind 10 = .ok (.iload_n 2, 1) := zo_28 (zby_w zwX9_behind_0 10 rfl)
theorem d_X9_behind_11 : decode cX9_behind 11 = .ok (.i2l, 1) := zo_133 (zby_w zwX9_behind_0 11 rfl)
theorem d_X9_behind_12 : decode cX9_behind 12 = .ok (.lconst 0, 1) := zo_9 (zby_w zwX9_behind_0 12 rfl)
theorem d_X9_behind_13 : decode cX9_behind 13 = .ok (.ldc2_w 102, 3) := zo_20 (a := 0) (b := 102) (zby_w zwX9_behind_0 13 rfl) (zby_w zwX9_behind_0 14 rfl) (zby_w zwX9_behind_0 15 rfl) (by decide)
theorem d_X9_behind_16 : decode cX9_behind 16 = .ok (.invokestatic 89, 3) := zo_184 (a := 0) (b := 89) (zby_w zwX9_behind_0 16 rfl) (zby_w zwX9_behind_0 17 rfl) (zby_w zwX9_behind_0 18 rfl) (by decide)
theorem d_X9_behind_19 : decode cX9_behind 19 = .ok (.ifCond .ne 6, 3) := zo_154 (a := 0) (b := 6) (zby_w zwX9_behind_0 19 rfl) (zby_w zwX9_behind_0 20 rfl) (zby_w zwX9_behind_0 21 rfl) (by decide)
theorem d_X9_behind_22 : decode cX9_behind 22 = .ok (.bipush (-2), 2) := zo_16 (a := 254) (zby_w zwX9_behind_0 22 rfl) (zby_w zwX9_behind_0 23 rfl) (by decide)
theorem d_X9_behind_24 : decode cX9_behind 24 = .ok (.ireturn, 1) := zo_172 (zby_w zwX9_behind_0 24 rfl)
theorem d_X9_behind_25 : decode cX9_behind 25 = .ok (.aload_n 0, 1) := zo_42 (zby_w zwX9_behind_0 25 rfl)
theorem d_X9_behind_26 : decode cX9_behind 26 = .ok (.invokevirtual 145, 3) := zo_182 (a := 0) (b := 145) (zby_w zwX9_behind_0 26 rfl) (zby_w zwX9_behind_0 27 rfl) (zby_w zwX9_behind_0 28 rfl) (by decide)
theorem d_X9_behind_29 : decode cX9_behind 29 = .ok (.ifCond .lt 6, 3) := zo_155 (a := 0) (b := 6) (zby_w zwX9_behind_0 29 rfl) (zby_w zwX9_behind_0 30 rfl) (zby_w zwX9_behind_0 31 rfl) (by decide)
theorem d_X9_behind_32 : decode cX9_behind 32 = .ok (.bipush (-5), 2) := zo_16 (a := 251) (zby_w zwX9_behind_1 0 rfl) (zby_w zwX9_behind_1 1 rfl) (by decide)
theorem d_X9_behind_34 : decode cX9_behind 34 = .ok (.ireturn, 1) := zo_172 (zby_w zwX9_behind_1 2 rfl)
theorem d_X9_behind_35 : decode cX9_behind 35 = .ok (.aload_n 0, 1) := zo_42 (zby_w zwX9_behind_1 3 rfl)
theorem d_X9_behind_36 : decode cX9_behind 36 = .ok (.invokevirtual 193, 3) := zo_182 (a := 0) (b := 193) (zby_w zwX9_behind_1 4 rfl) (zby_w zwX9_behind_1 5 rfl) (zby_w zwX9_behind_1 6 rfl) (by decide)
theorem d_X9_behind_39 : decode cX9_behind 39 = .ok (.aload_n 0, 1) := zo_42 (zby_w zwX9_behind_1 7 rfl)
theorem d_X9_behind_40 : decode cX9_behind 40 = .ok (.invokevirtual 196, 3) := zo_182 (a := 0) (b := 196) (zby_w zwX9_behind_1 8 rfl) (zby_w zwX9_behind_1 9 rfl) (zby_w zwX9_behind_1 10 rfl) (by decide)
theorem d_X9_behind_43 : decode cX9_behind 43 = .ok (.aload_n 0, 1) := zo_42 (zby_w zwX9_behind_1 11 rfl)
theorem d_X9_behind_44 : decode cX9_behind 44 = .ok (.iload_n 1, 1) := zo_27 (zby_w zwX9_behind_1 12 rfl)
theorem d_X9_behind_45 : decode cX9_behind 45 = .ok (.iload_n 2, 1) := zo_28 (zby_w zwX9_behind_1 13 rfl)
theorem d_X9_behind_46 : decode cX9_behind 46 = .ok (.invokevirtual 202, 3) := zo_182 (a := 0) (b := 202) (zby_w zwX9_behind_1 14 rfl) (zby_w zwX9_behind_1 15 rfl) (zby_w zwX9_behind_1 16 rfl) (by decide)
theorem d_X9_behind_49 : decode cX9_behind 49 = .ok (.istore_n 3, 1) := zo_62 (zby_w zwX9_behind_1 17 rfl)
theorem d_X9_behind_50 : decode cX9_behind 50 = .ok (.aload_n 0, 1) := zo_42 (zby_w zwX9_behind_1 18 rfl)
theorem d_X9_behind_51 : decode cX9_behind 51 = .ok (.invokevirtual 199, 3) := zo_182 (a := 0) (b := 199) (zby_w zwX9_behind_1 19 rfl) (zby_w zwX9_behind_1 20 rfl) (zby_w zwX9_behind_1 21 rfl) (by decide)
theorem d_X9_behind_54 : decode cX9_behind 54 = .ok (.aload_n 0, 1) := zo_42 (zby_w zwX9_behind_1 22 rfl)
theorem d_X9_behind_55 : decode cX9_behind 55 = .ok (.getfield 175, 3) := zo_180 (a := 0) (b := 175) (zby_w zwX9_behind_1 23 rfl) (zby_w zwX9_behind_1 24 rfl) (zby_w zwX9_behind_1 25 rfl) (by decide)
theorem d_X9_behind_58 : decode cX9_behind 58 = .ok (.ifCond .lt 8, 3) := zo_155 (a := 0) (b := 8) (zby_w zwX9_behind_1 26 rfl) (zby_w zwX9_behind_1 27 rfl) (zby_w zwX9_behind_1 28 rfl) (by decide)
theorem d_X9_behind_61 : decode cX9_behind 61 = .ok (.bipush (-5), 2) := zo_16 (a := 251) (zby_w zwX9_behind_1 29 rfl) (zby_w zwX9_behind_1 30 rfl) (by decide)
theorem d_X9_behind_63 : decode cX9_behind 63 = .ok (.goto 4, 3) := zo_167 (a := 0) (b := 4) (zby_w zwX9_behind_1 31 rfl) (zby_w zwX9_behind_1 32 rfl) (zby_w zwX9_behind_1 33 rfl) (by decide)
theorem d_X9_behind_66 : decode cX9_behind 66 = .ok (.iload_n 3, 1) := zo_29 (zby_w zwX9_behind_2 2 rfl)
theorem d_X9_behind_67 : decode cX9_behind 67 = .ok (.ireturn, 1) := zo_172 (zby_w zwX9_behind_2 3 rfl)
theorem d_X9_behindIt_0 : decode cX9_behindIt 0 = .ok (.iconst 1, 1) := zo_4 (zby_w zwX9_behindIt_0 0 rfl)
theorem d_X9_behindIt_1 : decode cX9_behindIt 1 = .ok (.istore_n 2, 1) := zo_61 (zby_w zwX9_behindIt_0 1 rfl)
theorem d_X9_behindIt_2 : decode cX9_behindIt 2 = .ok (.iload_n 1, 1) := zo_27 (zby_w zwX9_behindIt_0 2 rfl)
theorem d_X9_behindIt_3 : decode cX9_behindIt 3 = .ok (.iconst 1, 1) := zo_4 (zby_w zwX9_behindIt_0 3 rfl)
theorem d_X9_behindIt_4 : decode cX9_behindIt 4 = .ok (.iadd, 1) := zo_96 (zby_w zwX9_behindIt_0 4 rfl)
theorem d_X9_behindIt_5 : decode cX9_behindIt 5 = .ok (.istore_n 3, 1) := zo_62 (zby_w zwX9_behindIt_0 5 rfl)
theorem d_X9_behindIt_6 : decode cX9_behindIt 6 = .ok (.iload_n 3, 1) := zo_29 (zby_w zwX9_behindIt_0 6 rfl)
theorem d_X9_behindIt_7 : decode cX9_behindIt 7 = .ok (.bipush 6, 2) := zo_16 (a := 6) (zby_w zwX9_behindIt_0 7 rfl) (zby_w zwX9_behindIt_0 8 rfl) (by decide)
theorem d_X9_behindIt_9 : decode cX9_behindIt 9 = .ok (.if_icmp .ge 25, 3) := zo_162 (a := 0) (b := 25) (zby_w zwX9_behindIt_0 9 rfl) (zby_w zwX9_behindIt_0 10 rfl) (zby_w zwX9_behindIt_0 11 rfl) (by decide)
theorem d_X9_behindIt_12 : decode cX9_behindIt 12 = .ok (.iload_n 2, 1) := zo_28 (zby_w zwX9_behindIt_0 12 rfl)
theorem d_X9_behindIt_13 : decode cX9_behindIt 13 = .ok (.aload_n 0, 1) := zo_42 (zby_w zwX9_behindIt_0 13 rfl)
theorem d_X9_behindIt_14 : decode cX9_behindIt 14 = .ok (.iload_n 3, 1) := zo_29 (zby_w zwX9_behindIt_0 14 rfl)
theorem d_X9_behindIt_15 : decode cX9_behindIt 15 = .ok (.invokevirtual 234, 3) := zo_182 (a := 0) (b := 234) (zby_w zwX9_behindIt_0 15 rfl) (zby_w zwX9_behindIt_0 16 rfl) (zby_w zwX9_behindIt_0 17 rfl) (by decide)
theorem d_X9_behindIt_18 : decode cX9_behindIt 18 = .ok (.ifCond .eq 7, 3) := zo_153 (a := 0) (b := 7) (zby_w zwX9_behindIt_0 18 rfl) (zby_w zwX9_behindIt_0 19 rfl) (zby_w zwX9_behindIt_0 20 rfl) (by decide)
theorem d_X9_behindIt_21 : decode cX9_behindIt 21 = .ok (.iconst 3, 1) := zo_6 (zby_w zwX9_behindIt_0 21 rfl)
theorem d_X9_behindIt_22 : decode cX9_behindIt 22 = .ok (.goto 4, 3) := zo_167 (a := 0) (b := 4) (zby_w zwX9_behindIt_0 22 rfl) (zby_w zwX9_behindIt_0 23 rfl) (zby_w zwX9_behindIt_0 24 rfl) (by decide)
theorem d_X9_behindIt_25 : decode cX9_behindIt 25 = .ok (.iconst 1, 1) := zo_4 (zby_w zwX9_behindIt_0 25 rfl)
theorem d_X9_behindIt_26 : decode cX9_behindIt 26 = .ok (.imul, 1) := zo_104 (zby_w zwX9_behindIt_0 26 rfl)
theorem d_X9_behindIt_27 : decode cX9_behindIt 27 = .ok (.istore_n 2, 1) := zo_61 (zby_w zwX9_behindIt_0 27 rfl)
theorem d_X9_behindIt_28 : decode cX9_behindIt 28 = .ok (.iinc 3 1, 3) := by decide +kernel
theorem d_X9_behindIt_31 : decode cX9_behindIt 31 = .ok (.goto (-25), 3) := zo_167 (a := 255) (b := 231) (zby_w zwX9_behindIt_0 31 rfl) (zby_w zwX9_behindIt_0 32 rfl) (zby_w zwX9_behindIt_0 33 rfl) (by decide)
theorem d_X9_behindIt_34 : decode cX9_behindIt 34 = .ok (.iload_n 2, 1) := zo_28 (zby_w zwX9_behindIt_1 2 rfl)
theorem d_X9_behindIt_35 : decode cX9_behindIt 35 = .ok (.ireturn, 1) := zo_172 (zby_w zwX9_behindIt_1 3 rfl)
theorem d_X9_bound_0 : decode cX9_bound 0 = .ok (.iload_n 3, 1) := zo_29 (zby_w zwX9_bound_0 0 rfl)
theorem d_X9_bound_1 : decode cX9_bound 1 = .ok (.iconst (-1), 1) := zo_2 (zby_w zwX9_bound_0 1 rfl)
theorem d_X9_bound_2 : decode cX9_bound 2 = .ok (.if_icmp .eq 13, 3) := zo_159 (a := 0) (b := 13) (zby_w zwX9_bound_0 2 rfl) (zby_w zwX9_bound_0 3 rfl) (zby_w zwX9_bound_0 4 rfl) (by decide)
theorem d_X9_bound_5 : decode cX9_bound 5 = .ok (.aload_n 0, 1) := zo_42 (zby_w zwX9_bound_0 5 rfl)
theorem d_X9_bound_6 : decode cX9_bound 6 = .ok (.iload_n 3, 1) := zo_29 (zby_w zwX9_bound_0 6 rfl)
theorem d_X9_bound_7 : decode cX9_bound 7 = .ok (.invokevirtual 234, 3) := zo_182 (a := 0) (b := 234) (zby_w zwX9_bound_0 7 rfl) (zby_w zwX9_bound_0 8 rfl) (zby_w zwX9_bound_0 9 rfl) (by decide)
theorem d_X9_bound_10 : decode cX9_bound 10 = .ok (.ifCond .ne 5, 3) := zo_154 (a := 0) (b := 5) (zby_w zwX9_bound_0 10 rfl) (zby_w zwX9_bound_0 11 rfl) (zby_w zwX9_bound_0 12 rfl) (by decide)
theorem d_X9_bound_13 : decode cX9_bound 13 = .ok (.iconst (-1), 1) := zo_2 (zby_w zwX9_bound_0 13 rfl)
theorem d_X9_bound_14 : decode cX9_bound 14 = .ok (.ireturn, 1) := zo_172 (zby_w zwX9_bound_0 14 rfl)
theorem d_X9_bound_15 : decode cX9_bound 15 = .ok (.iload_n 1, 1) := zo_27 (zby_w zwX9_bound_0 15 rfl)
theorem d_X9_bound_16 : decode cX9_bound 16 = .ok (.invokestatic 219, 3) := zo_184 (a := 0) (b := 219) (zby_w zwX9_bound_0 16 rfl) (zby_w zwX9_bound_0 17 rfl) (zby_w zwX9_bound_0 18 rfl) (by decide)
theorem d_X9_bound_19 : decode cX9_bound 19 = .ok (.ifCond .eq 15, 3) := zo_153 (a := 0) (b := 15) (zby_w zwX9_bound_0 19 rfl) (zby_w zwX9_bound_0 20 rfl) (zby_w zwX9_bound_0 21 rfl) (by decide)
theorem d_X9_bound_22 : decode cX9_bound 22 = .ok (.iload_n 2, 1) := zo_28 (zby_w zwX9_bound_0 22 rfl)
theorem d_X9_bound_23 : decode cX9_bound 23 = .ok (.i2l, 1) := zo_133 (zby_w zwX9_bound_0 23 rfl)
theorem d_X9_bound_24 : decode cX9_bound 24 = .ok (.lconst 0, 1) := zo_9 (zby_w zwX9_bound_0 24 rfl)
theorem d_X9_bound_25 : decode cX9_bound 25 = .ok (.ldc2_w 237, 3) := zo_20 (a := 0) (b := 237) (zby_w zwX9_bound_0 25 rfl) (zby_w zwX9_bound_0 26 rfl) (zby_w zwX9_bound_0 27 rfl) (by decide)
theorem d_X9_bound_28 : decode cX9_bound 28 = .ok (.invokestatic 89, 3) := zo_184 (a := 0) (b := 89) (zby_w zwX9_bound_0 28 rfl) (zby_w zwX9_bound_0 29 rfl) (zby_w zwX9_bound_0 30 rfl) (by decide)
theorem d_X9_bound_31 : decode cX9_bound 31 = .ok (.ifCond .ne 6, 3) := zo_154 (a := 0) (b := 6) (zby_w zwX9_bound_0 31 rfl) (zby_w zwX9_bound_0 32 rfl) (zby_w zwX9_bound_0 33 rfl) (by decide)
theorem d_X9_bound_34 : decode cX9_bound 34 = .ok (.bipush (-2), 2) := zo_16 (a := 254) (zby_w zwX9_bound_1 2 rfl) (zby_w zwX9_bound_1 3 rfl) (by decide)
theorem d_X9_bound_36 : decode cX9_bound 36 = .ok (.ireturn, 1) := zo_172 (zby_w zwX9_bound_1 4 rfl)
theorem d_X9_bound_37 : decode cX9_bound 37 = .ok (.aload_n 0, 1) := zo_42 (zby_w zwX9_bound_1 5 rfl)
theorem d_X9_bound_38 : decode cX9_bound 38 = .ok (.iload_n 1, 1) := zo_27 (zby_w zwX9_bound_1 6 rfl)
theorem d_X9_bound_39 : decode cX9_bound 39 = .ok (.invokevirtual 239, 3) := zo_182 (a := 0) (b := 239) (zby_w zwX9_bound_1 7 rfl) (zby_w zwX9_bound_1 8 rfl) (zby_w zwX9_bound_1 9 rfl) (by decide)
theorem d_X9_bound_42 : decode cX9_bound 42 = .ok (.bipush (-6), 2) := zo_16 (a := 250) (zby_w zwX9_bound_1 10 rfl) (zby_w zwX9_bound_1 11 rfl) (by decide)
theorem d_X9_bound_44 : decode cX9_bound 44 = .ok (.istore 4, 2) := zo_54 (a := 4) (zby_w zwX9_bound_1 12 rfl) (zby_w zwX9_bound_1 13 rfl) (by decide)
theorem d_X9_bound_46 : decode cX9_bound 46 = .ok (.iconst 0, 1) := zo_3 (zby_w zwX9_bound_1 14 rfl)
theorem d_X9_bound_47 : decode cX9_bound 47 = .ok (.istore 5, 2) := zo_54 (a := 5) (zby_w zwX9_bound_1 15 rfl) (zby_w zwX9_bound_1 16 rfl) (by decide)
theorem d_X9_bound_49 : decode cX9_bound 49 = .ok (.iload 5, 2) := zo_21 (a := 5) (zby_w zwX9_bound_1 17 rfl) (zby_w zwX9_bound_1 18 rfl) (by decide)
theorem d_X9_bound_51 : decode cX9_bound 51 = .ok (.aload_n 0, 1) := zo_42 (zby_w zwX9_bound_1 19 rfl)
theorem d_X9_bound_52 : decode cX9_bound 52 = .ok (.getfield 231, 3) := zo_180 (a := 0) (b := 231) (zby_w zwX9_bound_1 20 rfl) (zby_w zwX9_bound_1 21 rfl) (zby_w zwX9_bound_1 22 rfl) (by decide)
theorem d_X9_bound_55 : decode cX9_bound 55 = .ok (.if_icmp .ge 63, 3) := zo_162 (a := 0) (b := 63) (zby_w zwX9_bound_1 23 rfl) (zby_w zwX9_bound_1 24 rfl) (zby_w zwX9_bound_1 25 rfl) (by decide)
theorem d_X9_bound_58 : decode cX9_bound 58 = .ok (.aload_n 0, 1) := zo_42 (zby_w zwX9_bound_1 26 rfl)
theorem d_X9_bound_59 : decode cX9_bound 59 = .ok (.getfield 49, 3) := zo_180 (a := 0) (b := 49) (zby_w zwX9_bound_1 27 rfl) (zby_w zwX9_bound_1 28 rfl) (zby_w zwX9_bound_1 29 rfl) (by decide)
theorem d_X9_bound_62 : decode cX9_bound 62 = .ok (.iload 5, 2) := zo_21 (a := 5) (zby_w zwX9_bound_1 30 rfl) (zby_w zwX9_bound_1 31 rfl) (by decide)
theorem d_X9_bound_64 : decode cX9_bound 64 = .ok (.iaload, 1) := zo_46 (zby_w zwX9_bound_2 0 rfl)
theorem d_X9_bound_65 : decode cX9_bound 65 = .ok (.iload_n 2, 1) := zo_28 (zby_w zwX9_bound_2 1 rfl)
theorem d_X9_bound_66 : decode cX9_bound 66 = .ok (.if_icmp .gt 29, 3) := zo_163 (a := 0) (b := 29) (zby_w zwX9_bound_2 2 rfl) (zby_w zwX9_bound_2 3 rfl) (zby_w zwX9_bound_2 4 rfl) (by decide)
theorem d_X9_bound_69 : decode cX9_bound 69 = .ok (.iload 4, 2) := zo_21 (a := 4) (zby_w zwX9_bound_2 5 rfl) (zby_w zwX9_bound_2 6 rfl) (by decide)
theorem d_X9_bound_71 : decode cX9_bound 71 = .ok (.ifCond .lt 20, 3) := zo_155 (a := 0) (b := 20) (zby_w zwX9_bound_2 7 rfl) (zby_w zwX9_bound_2 8 rfl) (zby_w zwX9_bound_2 9 rfl) (by decide)
theorem d_X9_bound_74 : decode cX9_bound 74 = .ok (.aload_n 0, 1) := zo_42 (zby_w zwX9_bound_2 10 rfl)
theorem d_X9_bound_75 : decode cX9_bound 75 = .ok (.getfield 46, 3) := zo_180 (a := 0) (b := 46) (zby_w zwX9_bound_2 11 rfl) (zby_w zwX9_bound_2 12 rfl) (zby_w zwX9_bound_2 13 rfl) (by decide)
theorem d_X9_bound_78 : decode cX9_bound 78 = .ok (.iload 5, 2) := zo_21 (a := 5) (zby_w zwX9_bound_2 14 rfl) (zby_w zwX9_bound_2 15 rfl) (by decide)
theorem d_X9_bound_80 : decode cX9_bound 80 = .ok (.iaload, 1) := zo_46 (zby_w zwX9_bound_2 16 rfl)
theorem d_X9_bound_81 : decode cX9_bound 81 = .ok (.aload_n 0, 1) := zo_42 (zby_w zwX9_bound_2 17 rfl)
theorem d_X9_bound_82 : decode cX9_bound 82 = .ok (.getfield 46, 3) := zo_180 (a := 0) (b := 46) (zby_w zwX9_bound_2 18 rfl) (zby_w zwX9_bound_2 19 rfl) (zby_w zwX9_bound_2 20 rfl) (by decide)
theorem d_X9_bound_85 : decode cX9_bound 85 = .ok (.iload 4, 2) := zo_21 (a := 4) (zby_w zwX9_bound_2 21 rfl) (zby_w zwX9_bound_2 22 rfl) (by decide)
theorem d_X9_bound_87 : decode cX9_bound 87 = .ok (.iaload, 1) := zo_46 (zby_w zwX9_bound_2 23 rfl)
theorem d_X9_bound_88 : decode cX9_bound 88 = .ok (.if_icmp .ge 7, 3) := zo_162 (a := 0) (b := 7) (zby_w zwX9_bound_2 24 rfl) (zby_w zwX9_bound_2 25 rfl) (zby_w zwX9_bound_2 26 rfl) (by decide)
theorem d_X9_bound_91 : decode cX9_bound 91 = .ok (.iconst 1, 1) := zo_4 (zby_w zwX9_bound_2 27 rfl)
theorem d_X9_bound_92 : decode cX9_bound 92 = .ok (.goto 4, 3) := zo_167 (a := 0) (b := 4) (zby_w zwX9_bound_2 28 rfl) (zby_w zwX9_bound_2 29 rfl) (zby_w zwX9_bound_2 30 rfl) (by decide)
theorem d_X9_bound_95 : decode cX9_bound 95 = .ok (.iconst 0, 1) := zo_3 (zby_w zwX9_bound_2 31 rfl)
theorem d_X9_bound_96 : decode cX9_bound 96 = .ok (.istore 6, 2) := zo_54 (a := 6) (zby_w zwX9_bound_3 0 rfl) (zby_w zwX9_bound_3 1 rfl) (by decide)
theorem d_X9_bound_98 : decode cX9_bound 98 = .ok (.iload 6, 2) := zo_21 (a := 6) (zby_w zwX9_bound_3 2 rfl) (zby_w zwX9_bound_3 3 rfl) (by decide)
theorem d_X9_bound_100 : decode cX9_bound 100 = .ok (.ifCond .eq 8, 3) := zo_153 (a := 0) (b := 8) (zby_w zwX9_bound_3 4 rfl) (zby_w zwX9_bound_3 5 rfl) (zby_w zwX9_bound_3 6 rfl) (by decide)
theorem d_X9_bound_103 : decode cX9_bound 103 = .ok (.iload 5, 2) := zo_21 (a := 5) (zby_w zwX9_bound_3 7 rfl) (zby_w zwX9_bound_3 8 rfl) (by decide)
theorem d_X9_bound_105 : decode cX9_bound 105 = .ok (.goto 5, 3) := zo_167 (a := 0) (b := 5) (zby_w zwX9_bound_3 9 rfl) (zby_w zwX9_bound_3 10 rfl) (zby_w zwX9_bound_3 11 rfl) (by decide)
theorem d_X9_bound_108 : decode cX9_bound 108 = .ok (.iload 4, 2) := zo_21 (a := 4) (zby_w zwX9_bound_3 12 rfl) (zby_w zwX9_bound_3 13 rfl) (by decide)
theorem d_X9_bound_110 : decode cX9_bound 110 = .ok (.istore 4, 2) := zo_54 (a := 4) (zby_w zwX9_bound_3 14 rfl) (zby_w zwX9_bound_3 15 rfl) (by decide)
theorem d_X9_bound_112 : decode cX9_bound 112 = .ok (.iinc 5 1, 3) := by decide +kernel
theorem d_X9_bound_115 : decode cX9_bound 115 = .ok (.goto (-66), 3) := zo_167 (a := 255) (b := 190) (zby_w zwX9_bound_3 19 rfl) (zby_w zwX9_bound_3 20 rfl) (zby_w zwX9_bound_3 21 rfl) (by decide)
theorem d_X9_bound_118 : decode cX9_bound 118 = .ok (.iload 4, 2) := zo_21 (a := 4) (zby_w zwX9_bound_3 22 rfl) (zby_w zwX9_bound_3 23 rfl) (by decide)
theorem d_X9_bound_120 : decode cX9_bound 120 = .ok (.ifCond .ge 8, 3) := zo_156 (a := 0) (b := 8) (zby_w zwX9_bound_3 24 rfl) (zby_w zwX9_bound_3 25 rfl) (zby_w zwX9_bound_3 26 rfl) (by decide)
theorem d_X9_bound_123 : decode cX9_bound 123 = .ok (.bipush (-6), 2) := zo_16 (a := 250) (zby_w zwX9_bound_3 27 rfl) (zby_w zwX9_bound_3 28 rfl) (by decide)
theorem d_X9_bound_125 : decode cX9_bound 125 = .ok (.goto 28, 3) := zo_167 (a := 0) (b := 28) (zby_w zwX9_bound_3 29 rfl) (zby_w zwX9_bound_3 30 rfl) (zby_w zwX9_bound_3 31 rfl) (by decide)
theorem d_X9_bound_128 : decode cX9_bound 128 = .ok (.iload_n 3, 1) := zo_29 (zby_w zwX9_bound_4 0 rfl)
theorem d_X9_bound_129 : decode cX9_bound 129 = .ok (.iconst (-1), 1) := zo_2 (zby_w zwX9_bound_4 1 rfl)
theorem d_X9_bound_130 : decode cX9_bound 130 = .ok (.if_icmp .ne 13, 3) := zo_160 (a := 0) (b := 13) (zby_w zwX9_bound_4 2 rfl) (zby_w zwX9_bound_4 3 rfl) (zby_w zwX9_bound_4 4 rfl) (by decide)
theorem d_X9_bound_133 : decode cX9_bound 133 = .ok (.aload_n 0, 1) := zo_42 (zby_w zwX9_bound_4 5 rfl)
theorem d_X9_bound_134 : decode cX9_bound 134 = .ok (.getfield 46, 3) := zo_180 (a := 0) (b := 46) (zby_w zwX9_bound_4 6 rfl) (zby_w zwX9_bound_4 7 rfl) (zby_w zwX9_bound_4 8 rfl) (by decide)
theorem d_X9_bound_137 : decode cX9_bound 137 = .ok (.iload 4, 2) := zo_21 (a := 4) (zby_w zwX9_bound_4 9 rfl) (zby_w zwX9_bound_4 10 rfl) (by decide)
theorem d_X9_bound_139 : decode cX9_bound 139 = .ok (.iaload, 1) := zo_46 (zby_w zwX9_bound_4 11 rfl)
theorem d_X9_bound_140 : decode cX9_bound 140 = .ok (.goto 13, 3) := zo_167 (a := 0) (b := 13) (zby_w zwX9_bound_4 12 rfl) (zby_w zwX9_bound_4 13 rfl) (zby_w zwX9_bound_4 14 rfl) (by decide)
theorem d_X9_bound_143 : decode cX9_bound 143 = .ok (.iload 4, 2) := zo_21 (a := 4) (zby_w zwX9_bound_4 15 rfl) (zby_w zwX9_bound_4 16 rfl) (by decide)
theorem d_X9_bound_145 : decode cX9_bound 145 = .ok (.aload_n 0, 1) := zo_42 (zby_w zwX9_bound_4 17 rfl)
theorem d_X9_bound_146 : decode cX9_bound 146 = .ok (.iload_n 3, 1) := zo_29 (zby_w zwX9_bound_4 18 rfl)
theorem d_X9_bound_147 : decode cX9_bound 147 = .ok (.invokevirtual 242, 3) := zo_182 (a := 0) (b := 242) (zby_w zwX9_bound_4 19 rfl) (zby_w zwX9_bound_4 20 rfl) (zby_w zwX9_bound_4 21 rfl) (by decide)
theorem d_X9_bound_150 : decode cX9_bound 150 = .ok (.idiv, 1) := zo_108 (zby_w zwX9_bound_4 22 rfl)
theorem d_X9_bound_151 : decode cX9_bound 151 = .ok (.iconst 3, 1) := zo_6 (zby_w zwX9_bound_4 23 rfl)
theorem d_X9_bound_152 : decode cX9_bound 152 = .ok (.irem, 1) := zo_112 (zby_w zwX9_bound_4 24 rfl)
theorem d_X9_bound_153 : decode cX9_bound 153 = .ok (.ireturn, 1) := zo_172 (zby_w zwX9_bound_4 25 rfl)
theorem d_X9_burnt_0 : decode cX9_burnt 0 = .ok (.lconst 1, 1) := zo_10 (zby_w zwX9_burnt_0 0 rfl)
theorem d_X9_burnt_1 : decode cX9_burnt 1 = .ok (.lstore_n 1, 1) := zo_64 (zby_w zwX9_burnt_0 1 rfl)
theorem d_X9_burnt_2 : decode cX9_burnt 2 = .ok (.iconst 0, 1) := zo_3 (zby_w zwX9_burnt_0 2 rfl)
theorem d_X9_burnt_3 : decode cX9_burnt 3 = .ok (.istore_n 3, 1) := zo_62 (zby_w zwX9_burnt_0 3 rfl)
theorem d_X9_burnt_4 : decode cX9_burnt 4 = .ok (.iload_n 3, 1) := zo_29 (zby_w zwX9_burnt_0 4 rfl)
theorem d_X9_burnt_5 : decode cX9_burnt 5 = .ok (.aload_n 0, 1) := zo_42 (zby_w zwX9_burnt_0 5 rfl)
theorem d_X9_burnt_6 : decode cX9_burnt 6 = .ok (.getfield 297, 3) := zo_180 (a := 1) (b := 41) (zby_w zwX9_burnt_0 6 rfl) (zby_w zwX9_burnt_0 7 rfl) (zby_w zwX9_burnt_0 8 rfl) (by decide)
theorem d_X9_burnt_9 : decode cX9_burnt 9 = .ok (.if_icmp .ge 40, 3) := zo_162 (a := 0) (b := 40) (zby_w zwX9_burnt_0 9 rfl) (zby_w zwX9_burnt_0 10 rfl) (zby_w zwX9_burnt_0 11 rfl) (by decide)
theorem d_X9_burnt_12 : decode cX9_burnt 12 = .ok (.aload_n 0, 1) := zo_42 (zby_w zwX9_burnt_0 12 rfl)
theorem d_X9_burnt_13 : decode cX9_burnt 13 = .ok (.getfield 34, 3) := zo_180 (a := 0) (b := 34) (zby_w zwX9_burnt_0 13 rfl) (zby_w zwX9_burnt_0 14 rfl) (zby_w zwX9_burnt_0 15 rfl) (by decide)
theorem d_X9_burnt_16 : decode cX9_burnt 16 = .ok (.iload_n 3, 1) := zo_29 (zby_w zwX9_burnt_0 16 rfl)
theorem d_X9_burnt_17 : decode cX9_burnt 17 = .ok (.iaload, 1) := zo_46 (zby_w zwX9_burnt_0 17 rfl)
theorem d_X9_burnt_18 : decode cX9_burnt 18 = .ok (.invokestatic 108, 3) := zo_184 (a := 0) (b := 108) (zby_w zwX9_burnt_0 18 rfl) (zby_w zwX9_burnt_0 19 rfl) (zby_w zwX9_burnt_0 20 rfl) (by decide)
theorem d_X9_burnt_21 : decode cX9_burnt 21 = .ok (.istore 4, 2) := zo_54 (a := 4) (zby_w zwX9_burnt_0 21 rfl) (zby_w zwX9_burnt_0 22 rfl) (by decide)
theorem d_X9_burnt_23 : decode cX9_burnt 23 = .ok (.lload_n 1, 1) := zo_31 (zby_w zwX9_burnt_0 23 rfl)
theorem d_X9_burnt_24 : decode cX9_burnt 24 = .ok (.bipush 8, 2) := zo_16 (a := 8) (zby_w zwX9_burnt_0 24 rfl) (zby_w zwX9_burnt_0 25 rfl) (by decide)
theorem d_X9_burnt_26 : decode cX9_burnt 26 = .ok (.iload 4, 2) := zo_21 (a := 4) (zby_w zwX9_burnt_0 26 rfl) (zby_w zwX9_burnt_0 27 rfl) (by decide)
theorem d_X9_burnt_28 : decode cX9_burnt 28 = .ok (.isub, 1) := zo_100 (zby_w zwX9_burnt_0 28 rfl)
theorem d_X9_burnt_29 : decode cX9_burnt 29 = .ok (.aload_n 0, 1) := zo_42 (zby_w zwX9_burnt_0 29 rfl)
theorem d_X9_burnt_30 : decode cX9_burnt 30 = .ok (.getfield 37, 3) := zo_180 (a := 0) (b := 37) (zby_w zwX9_burnt_0 30 rfl) (zby_w zwX9_burnt_0 31 rfl) (zby_w zwX9_burnt_0 32 rfl) (by decide)
theorem d_X9_burnt_33 : decode cX9_burnt 33 = .ok (.iload_n 3, 1) := zo_29 (zby_w zwX9_burnt_1 1 rfl)
theorem d_X9_burnt_34 : decode cX9_burnt 34 = .ok (.iaload, 1) := zo_46 (zby_w zwX9_burnt_1 2 rfl)
theorem d_X9_burnt_35 : decode cX9_burnt 35 = .ok (.iload 4, 2) := zo_21 (a := 4) (zby_w zwX9_burnt_1 3 rfl) (zby_w zwX9_burnt_1 4 rfl) (by decide)
theorem d_X9_burnt_37 : decode cX9_burnt 37 = .ok (.isub, 1) := zo_100 (zby_w zwX9_burnt_1 5 rfl)
theorem d_X9_burnt_38 : decode cX9_burnt 38 = .ok (.invokestatic 288, 3) := zo_184 (a := 1) (b := 32) (zby_w zwX9_burnt_1 6 rfl) (zby_w zwX9_burnt_1 7 rfl) (zby_w zwX9_burnt_1 8 rfl) (by decide)
theorem d_X9_burnt_41 : decode cX9_burnt 41 = .ok (.lmul, 1) := zo_105 (zby_w zwX9_burnt_1 9 rfl)
theorem d_X9_burnt_42 : decode cX9_burnt 42 = .ok (.lstore_n 1, 1) := zo_64 (zby_w zwX9_burnt_1 10 rfl)
theorem d_X9_burnt_43 : decode cX9_burnt 43 = .ok (.iinc 3 1, 3) := by decide +kernel
theorem d_X9_burnt_46 : decode cX9_burnt 46 = .ok (.goto (-42), 3) := zo_167 (a := 255) (b := 214) (zby_w zwX9_burnt_1 14 rfl) (zby_w zwX9_burnt_1 15 rfl) (zby_w zwX9_burnt_1 16 rfl) (by decide)
theorem d_X9_burnt_49 : decode cX9_burnt 49 = .ok (.lload_n 1, 1) := zo_31 (zby_w zwX9_burnt_1 17 rfl)
theorem d_X9_burnt_50 : decode cX9_burnt 50 = .ok (.lreturn, 1) := zo_173 (zby_w zwX9_burnt_1 18 rfl)
theorem d_X9_captain_0 : decode cX9_captain 0 = .ok (.aload_n 0, 1) := zo_42 (zby_w zwX9_captain_0 0 rfl)
theorem d_X9_captain_1 : decode cX9_captain 1 = .ok (.iload_n 1, 1) := zo_27 (zby_w zwX9_captain_0 1 rfl)
theorem d_X9_captain_2 : decode cX9_captain 2 = .ok (.invokevirtual 112, 3) := zo_182 (a := 0) (b := 112) (zby_w zwX9_captain_0 2 rfl) (zby_w zwX9_captain_0 3 rfl) (zby_w zwX9_captain_0 4 rfl) (by decide)
theorem d_X9_captain_5 : decode cX9_captain 5 = .ok (.ifCond .ne 5, 3) := zo_154 (a := 0) (b := 5) (zby_w zwX9_captain_0 5 rfl) (zby_w zwX9_captain_0 6 rfl) (zby_w zwX9_captain_0 7 rfl) (by decide)
theorem d_X9_captain_8 : decode cX9_captain 8 = .ok (.iconst (-1), 1) := zo_2 (zby_w zwX9_captain_0 8 rfl)
theorem d_X9_captain_9 : decode cX9_captain 9 = .ok (.ireturn, 1) := zo_172 (zby_w zwX9_captain_0 9 rfl)
theorem d_X9_captain_10 : decode cX9_captain 10 = .ok (.iload_n 2, 1) := zo_28 (zby_w zwX9_captain_0 10 rfl)
theorem d_X9_captain_11 : decode cX9_captain 11 = .ok (.invokestatic 219, 3) := zo_184 (a := 0) (b := 219) (zby_w zwX9_captain_0 11 rfl) (zby_w zwX9_captain_0 12 rfl) (zby_w zwX9_captain_0 13 rfl) (by decide)
theorem d_X9_captain_14 : decode cX9_captain 14 = .ok (.ifCond .eq 16, 3) := zo_153 (a := 0) (b := 16) (zby_w zwX9_captain_0 14 rfl) (zby_w zwX9_captain_0 15 rfl) (zby_w zwX9_captain_0 16 rfl) (by decide)
theorem d_X9_captain_17 : decode cX9_captain 17 = .ok (.aload_n 0, 1) := zo_42 (zby_w zwX9_captain_0 17 rfl)
theorem d_X9_captain_18 : decode cX9_captain 18 = .ok (.iload_n 1, 1) := zo_27 (zby_w zwX9_captain_0 18 rfl)
theorem d_X9_captain_19 : decode cX9_captain 19 = .ok (.iload_n 2, 1) := zo_28 (zby_w zwX9_captain_0 19 rfl)
theorem d_X9_captain_20 : decode cX9_captain 20 = .ok (.aload_n 0, 1) := zo_42 (zby_w zwX9_captain_0 20 rfl)
theorem d_X9_captain_21 : decode cX9_captain 21 = .ok (.getfield 115, 3) := zo_180 (a := 0) (b := 115) (zby_w zwX9_captain_0 21 rfl) (zby_w zwX9_captain_0 22 rfl) (zby_w zwX9_captain_0 23 rfl) (by decide)
theorem d_X9_captain_24 : decode cX9_captain 24 = .ok (.invokevirtual 255, 3) := zo_182 (a := 0) (b := 255) (zby_w zwX9_captain_0 24 rfl) (zby_w zwX9_captain_0 25 rfl) (zby_w zwX9_captain_0 26 rfl) (by decide)
theorem d_X9_captain_27 : decode cX9_captain 27 = .ok (.goto 5, 3) := zo_167 (a := 0) (b := 5) (zby_w zwX9_captain_0 27 rfl) (zby_w zwX9_captain_0 28 rfl) (zby_w zwX9_captain_0 29 rfl) (by decide)
theorem d_X9_captain_30 : decode cX9_captain 30 = .ok (.bipush (-2), 2) := zo_16 (a := 254) (zby_w zwX9_captain_0 30 rfl) (zby_w zwX9_captain_0 31 rfl) (by decide)
theorem d_X9_captain_32 : decode cX9_captain 32 = .ok (.ireturn, 1) := zo_172 (zby_w zwX9_captain_1 0 rfl)
theorem d_X9_captainBy_0 : decode cX9_captainBy 0 = .ok (.iconst 0, 1) := zo_3 (zby_w zwX9_captainBy_0 0 rfl)
theorem d_X9_captainBy_1 : decode cX9_captainBy 1 = .ok (.istore 4, 2) := zo_54 (a := 4) (zby_w zwX9_captainBy_0 1 rfl) (zby_w zwX9_captainBy_0 2 rfl) (by decide)
theorem d_X9_captainBy_3 : decode cX9_captainBy 3 = .ok (.iconst 1, 1) := zo_4 (zby_w zwX9_captainBy_0 3 rfl)
theorem d_X9_captainBy_4 : decode cX9_captainBy 4 = .ok (.istore 5, 2) := zo_54 (a := 5) (zby_w zwX9_captainBy_0 4 rfl) (zby_w zwX9_captainBy_0 5 rfl) (by decide)
theorem d_X9_captainBy_6 : decode cX9_captainBy 6 = .ok (.iload 5, 2) := zo_21 (a := 5) (zby_w zwX9_captainBy_0 6 rfl) (zby_w zwX9_captainBy_0 7 rfl) (by decide)
theorem d_X9_captainBy_8 : decode cX9_captainBy 8 = .ok (.iconst 3, 1) := zo_6 (zby_w zwX9_captainBy_0 8 rfl)
theorem d_X9_captainBy_9 : decode cX9_captainBy 9 = .ok (.if_icmp .ge 39, 3) := zo_162 (a := 0) (b := 39) (zby_w zwX9_captainBy_0 9 rfl) (zby_w zwX9_captainBy_0 10 rfl) (zby_w zwX9_captainBy_0 11 rfl) (by decide)
theorem d_X9_captainBy_12 : decode cX9_captainBy 12 = .ok (.aload_n 0, 1) := zo_42 (zby_w zwX9_captainBy_0 12 rfl)
theorem d_X9_captainBy_13 : decode cX9_captainBy 13 = .ok (.iload_n 1, 1) := zo_27 (zby_w zwX9_captainBy_0 13 rfl)
theorem d_X9_captainBy_14 : decode cX9_captainBy 14 = .ok (.iload 5, 2) := zo_21 (a := 5) (zby_w zwX9_captainBy_0 14 rfl) (zby_w zwX9_captainBy_0 15 rfl) (by decide)
theorem d_X9_captainBy_16 : decode cX9_captainBy 16 = .ok (.iload_n 2, 1) := zo_28 (zby_w zwX9_captainBy_0 16 rfl)
theorem d_X9_captainBy_17 : decode cX9_captainBy 17 = .ok (.iload_n 3, 1) := zo_29 (zby_w zwX9_captainBy_0 17 rfl)
theorem d_X9_captainBy_18 : decode cX9_captainBy 18 = .ok (.invokevirtual 251, 3) := zo_182 (a := 0) (b := 251) (zby_w zwX9_captainBy_0 18 rfl) (zby_w zwX9_captainBy_0 19 rfl) (zby_w zwX9_captainBy_0 20 rfl) (by decide)
theorem d_X9_captainBy_21 : decode cX9_captainBy 21 = .ok (.aload_n 0, 1) := zo_42 (zby_w zwX9_captainBy_0 21 rfl)
theorem d_X9_captainBy_22 : decode cX9_captainBy 22 = .ok (.iload_n 1, 1) := zo_27 (zby_w zwX9_captainBy_0 22 rfl)
theorem d_X9_captainBy_23 : decode cX9_captainBy 23 = .ok (.iload 4, 2) := zo_21 (a := 4) (zby_w zwX9_captainBy_0 23 rfl) (zby_w zwX9_captainBy_0 24 rfl) (by decide)
theorem d_X9_captainBy_25 : decode cX9_captainBy 25 = .ok (.iload_n 2, 1) := zo_28 (zby_w zwX9_captainBy_0 25 rfl)
theorem d_X9_captainBy_26 : decode cX9_captainBy 26 = .ok (.iload_n 3, 1) := zo_29 (zby_w zwX9_captainBy_0 26 rfl)
theorem d_X9_captainBy_27 : decode cX9_captainBy 27 = .ok (.invokevirtual 251, 3) := zo_182 (a := 0) (b := 251) (zby_w zwX9_captainBy_0 27 rfl) (zby_w zwX9_captainBy_0 28 rfl) (zby_w zwX9_captainBy_0 29 rfl) (by decide)
theorem d_X9_captainBy_30 : decode cX9_captainBy 30 = .ok (.if_icmp .le 8, 3) := zo_164 (a := 0) (b := 8) (zby_w zwX9_captainBy_0 30 rfl) (zby_w zwX9_captainBy_0 31 rfl) (zby_w zwX9_captainBy_0 32 rfl) (by decide)
theorem d_X9_captainBy_33 : decode cX9_captainBy 33 = .ok (.iload 5, 2) := zo_21 (a := 5) (zby_w zwX9_captainBy_1 1 rfl) (zby_w zwX9_captainBy_1 2 rfl) (by decide)
theorem d_X9_captainBy_35 : decode cX9_captainBy 35 = .ok (.goto 5, 3) := zo_167 (a := 0) (b := 5) (zby_w zwX9_captainBy_1 3 rfl) (zby_w zwX9_captainBy_1 4 rfl) (zby_w zwX9_captainBy_1 5 rfl) (by decide)
theorem d_X9_captainBy_38 : decode cX9_captainBy 38 = .ok (.iload 4, 2) := zo_21 (a := 4) (zby_w zwX9_captainBy_1 6 rfl) (zby_w zwX9_captainBy_1 7 rfl) (by decide)
theorem d_X9_captainBy_40 : decode cX9_captainBy 40 = .ok (.istore 4, 2) := zo_54 (a := 4) (zby_w zwX9_captainBy_1 8 rfl) (zby_w zwX9_captainBy_1 9 rfl) (by decide)
theorem d_X9_captainBy_42 : decode cX9_captainBy 42 = .ok (.iinc 5 1, 3) := by decide +kernel
theorem d_X9_captainBy_45 : decode cX9_captainBy 45 = .ok (.goto (-39), 3) := zo_167 (a := 255) (b := 217) (zby_w zwX9_captainBy_1 13 rfl) (zby_w zwX9_captainBy_1 14 rfl) (zby_w zwX9_captainBy_1 15 rfl) (by decide)
theorem d_X9_captainBy_48 : decode cX9_captainBy 48 = .ok (.iload 4, 2) := zo_21 (a := 4) (zby_w zwX9_captainBy_1 16 rfl) (zby_w zwX9_captainBy_1 17 rfl) (by decide)
theorem d_X9_captainBy_50 : decode cX9_captainBy 50 = .ok (.ireturn, 1) := zo_172 (zby_w zwX9_captainBy_1 18 rfl)
theorem d_X9_choice_0 : decode cX9_choice 0 = .ok (.aload_n 0, 1) := zo_42 (zby_w zwX9_choice_0 0 rfl)
theorem d_X9_choice_1 : decode cX9_choice 1 = .ok (.iload_n 1, 1) := zo_27 (zby_w zwX9_choice_0 1 rfl)
theorem d_X9_choice_2 : decode cX9_choice 2 = .ok (.invokevirtual 112, 3) := zo_182 (a := 0) (b := 112) (zby_w zwX9_choice_0 2 rfl) (zby_w zwX9_choice_0 3 rfl) (zby_w zwX9_choice_0 4 rfl) (by decide)
theorem d_X9_choice_5 : decode cX9_choice 5 = .ok (.ifCond .ne 5, 3) := zo_154 (a := 0) (b := 5) (zby_w zwX9_choice_0 5 rfl) (zby_w zwX9_choice_0 6 rfl) (zby_w zwX9_choice_0 7 rfl) (by decide)
theorem d_X9_choice_8 : decode cX9_choice 8 = .ok (.iconst (-1), 1) := zo_2 (zby_w zwX9_choice_0 8 rfl)
theorem d_X9_choice_9 : decode cX9_choice 9 = .ok (.ireturn, 1) := zo_172 (zby_w zwX9_choice_0 9 rfl)
theorem d_X9_choice_10 : decode cX9_choice 10 = .ok (.iload_n 2, 1) := zo_28 (zby_w zwX9_choice_0 10 rfl)
theorem d_X9_choice_11 : decode cX9_choice 11 = .ok (.invokestatic 219, 3) := zo_184 (a := 0) (b := 219) (zby_w zwX9_choice_0 11 rfl) (zby_w zwX9_choice_0 12 rfl) (zby_w zwX9_choice_0 13 rfl) (by decide)
theorem d_X9_choice_14 : decode cX9_choice 14 = .ok (.ifCond .eq 12, 3) := zo_153 (a := 0) (b := 12) (zby_w zwX9_choice_0 14 rfl) (zby_w zwX9_choice_0 15 rfl) (zby_w zwX9_choice_0 16 rfl) (by decide)
theorem d_X9_choice_17 : decode cX9_choice 17 = .ok (.aload_n 0, 1) := zo_42 (zby_w zwX9_choice_0 17 rfl)
theorem d_X9_choice_18 : decode cX9_choice 18 = .ok (.iload_n 1, 1) := zo_27 (zby_w zwX9_choice_0 18 rfl)
theorem d_X9_choice_19 : decode cX9_choice 19 = .ok (.iload_n 2, 1) := zo_28 (zby_w zwX9_choice_0 19 rfl)
theorem d_X9_choice_20 : decode cX9_choice 20 = .ok (.invokevirtual 225, 3) := zo_182 (a := 0) (b := 225) (zby_w zwX9_choice_0 20 rfl) (zby_w zwX9_choice_0 21 rfl) (zby_w zwX9_choice_0 22 rfl) (by decide)
theorem d_X9_choice_23 : decode cX9_choice 23 = .ok (.goto 5, 3) := zo_167 (a := 0) (b := 5) (zby_w zwX9_choice_0 23 rfl) (zby_w zwX9_choice_0 24 rfl) (zby_w zwX9_choice_0 25 rfl) (by decide)
theorem d_X9_choice_26 : decode cX9_choice 26 = .ok (.bipush (-2), 2) := zo_16 (a := 254) (zby_w zwX9_choice_0 26 rfl) (zby_w zwX9_choice_0 27 rfl) (by decide)
theorem d_X9_choice_28 : decode cX9_choice 28 = .ok (.ireturn, 1) := zo_172 (zby_w zwX9_choice_0 28 rfl)
theorem d_X9_choiceOf_0 : decode cX9_choiceOf 0 = .ok (.iconst 0, 1) := zo_3 (zby_w zwX9_choiceOf_0 0 rfl)
theorem d_X9_choiceOf_1 : decode cX9_choiceOf 1 = .ok (.istore_n 3, 1) := zo_62 (zby_w zwX9_choiceOf_0 1 rfl)
theorem d_X9_choiceOf_2 : decode cX9_choiceOf 2 = .ok (.iconst 1, 1) := zo_4 (zby_w zwX9_choiceOf_0 2 rfl)
theorem d_X9_choiceOf_3 : decode cX9_choiceOf 3 = .ok (.istore 4, 2) := zo_54 (a := 4) (zby_w zwX9_choiceOf_0 3 rfl) (zby_w zwX9_choiceOf_0 4 rfl) (by decide)
theorem d_X9_choiceOf_5 : decode cX9_choiceOf 5 = .ok (.iload 4, 2) := zo_21 (a := 4) (zby_w zwX9_choiceOf_0 5 rfl) (zby_w zwX9_choiceOf_0 6 rfl) (by decide)
theorem d_X9_choiceOf_7 : decode cX9_choiceOf 7 = .ok (.iconst 3, 1) := zo_6 (zby_w zwX9_choiceOf_0 7 rfl)
theorem d_X9_choiceOf_8 : decode cX9_choiceOf 8 = .ok (.if_icmp .ge 34, 3) := zo_162 (a := 0) (b := 34) (zby_w zwX9_choiceOf_0 8 rfl) (zby_w zwX9_choiceOf_0 9 rfl) (zby_w zwX9_choiceOf_0 10 rfl) (by decide)
theorem d_X9_choiceOf_11 : decode cX9_choiceOf 11 = .ok (.aload_n 0, 1) := zo_42 (zby_w zwX9_choiceOf_0 11 rfl)
theorem d_X9_choiceOf_12 : decode cX9_choiceOf 12 = .ok (.iload_n 1, 1) := zo_27 (zby_w zwX9_choiceOf_0 12 rfl)
theorem d_X9_choiceOf_13 : decode cX9_choiceOf 13 = .ok (.iload 4, 2) := zo_21 (a := 4) (zby_w zwX9_choiceOf_0 13 rfl) (zby_w zwX9_choiceOf_0 14 rfl) (by decide)
theorem d_X9_choiceOf_15 : decode cX9_choiceOf 15 = .ok (.iload_n 2, 1) := zo_28 (zby_w zwX9_choiceOf_0 15 rfl)
theorem d_X9_choiceOf_16 : decode cX9_choiceOf 16 = .ok (.invokevirtual 212, 3) := zo_182 (a := 0) (b := 212) (zby_w zwX9_choiceOf_0 16 rfl) (zby_w zwX9_choiceOf_0 17 rfl) (zby_w zwX9_choiceOf_0 18 rfl) (by decide)
theorem d_X9_choiceOf_19 : decode cX9_choiceOf 19 = .ok (.aload_n 0, 1) := zo_42 (zby_w zwX9_choiceOf_0 19 rfl)
theorem d_X9_choiceOf_20 : decode cX9_choiceOf 20 = .ok (.iload_n 1, 1) := zo_27 (zby_w zwX9_choiceOf_0 20 rfl)
theorem d_X9_choiceOf_21 : decode cX9_choiceOf 21 = .ok (.iload_n 3, 1) := zo_29 (zby_w zwX9_choiceOf_0 21 rfl)
theorem d_X9_choiceOf_22 : decode cX9_choiceOf 22 = .ok (.iload_n 2, 1) := zo_28 (zby_w zwX9_choiceOf_0 22 rfl)
theorem d_X9_choiceOf_23 : decode cX9_choiceOf 23 = .ok (.invokevirtual 212, 3) := zo_182 (a := 0) (b := 212) (zby_w zwX9_choiceOf_0 23 rfl) (zby_w zwX9_choiceOf_0 24 rfl) (zby_w zwX9_choiceOf_0 25 rfl) (by decide)
theorem d_X9_choiceOf_26 : decode cX9_choiceOf 26 = .ok (.if_icmp .ge 8, 3) := zo_162 (a := 0) (b := 8) (zby_w zwX9_choiceOf_0 26 rfl) (zby_w zwX9_choiceOf_0 27 rfl) (zby_w zwX9_choiceOf_0 28 rfl) (by decide)
theorem d_X9_choiceOf_29 : decode cX9_choiceOf 29 = .ok (.iload 4, 2) := zo_21 (a := 4) (zby_w zwX9_choiceOf_0 29 rfl) (zby_w zwX9_choiceOf_0 30 rfl) (by decide)
theorem d_X9_choiceOf_31 : decode cX9_choiceOf 31 = .ok (.goto 4, 3) := zo_167 (a := 0) (b := 4) (zby_w zwX9_choiceOf_0 31 rfl) (zby_w zwX9_choiceOf_0 32 rfl) (zby_w zwX9_choiceOf_0 33 rfl) (by decide)
theorem d_X9_choiceOf_34 : decode cX9_choiceOf 34 = .ok (.iload_n 3, 1) := zo_29 (zby_w zwX9_choiceOf_1 2 rfl)
theorem d_X9_choiceOf_35 : decode cX9_choiceOf 35 = .ok (.istore_n 3, 1) := zo_62 (zby_w zwX9_choiceOf_1 3 rfl)
theorem d_X9_choiceOf_36 : decode cX9_choiceOf 36 = .ok (.iinc 4 1, 3) := by decide +kernel
theorem d_X9_choiceOf_39 : decode cX9_choiceOf 39 = .ok (.goto (-34), 3) := zo_167 (a := 255) (b := 222) (zby_w zwX9_choiceOf_1 7 rfl) (zby_w zwX9_choiceOf_1 8 rfl) (zby_w zwX9_choiceOf_1 9 rfl) (by decide)
theorem d_X9_choiceOf_42 : decode cX9_choiceOf 42 = .ok (.iload_n 3, 1) := zo_29 (zby_w zwX9_choiceOf_1 10 rfl)
theorem d_X9_choiceOf_43 : decode cX9_choiceOf 43 = .ok (.ireturn, 1) := zo_172 (zby_w zwX9_choiceOf_1 11 rfl)
theorem d_X9_choose_0 : decode cX9_choose 0 = .ok (.lconst 1, 1) := zo_10 (zby_w zwX9_choose_0 0 rfl)
theorem d_X9_choose_1 : decode cX9_choose 1 = .ok (.lstore_n 2, 1) := zo_65 (zby_w zwX9_choose_0 1 rfl)
theorem d_X9_choose_2 : decode cX9_choose 2 = .ok (.iconst 1, 1) := zo_4 (zby_w zwX9_choose_0 2 rfl)
theorem d_X9_choose_3 : decode cX9_choose 3 = .ok (.istore 4, 2) := zo_54 (a := 4) (zby_w zwX9_choose_0 3 rfl) (zby_w zwX9_choose_0 4 rfl) (by decide)
theorem d_X9_choose_5 : decode cX9_choose 5 = .ok (.iload 4, 2) := zo_21 (a := 4) (zby_w zwX9_choose_0 5 rfl) (zby_w zwX9_choose_0 6 rfl) (by decide)
theorem d_X9_choose_7 : decode cX9_choose 7 = .ok (.iload_n 1, 1) := zo_27 (zby_w zwX9_choose_0 7 rfl)
theorem d_X9_choose_8 : decode cX9_choose 8 = .ok (.if_icmp .gt 23, 3) := zo_163 (a := 0) (b := 23) (zby_w zwX9_choose_0 8 rfl) (zby_w zwX9_choose_0 9 rfl) (zby_w zwX9_choose_0 10 rfl) (by decide)
theorem d_X9_choose_11 : decode cX9_choose 11 = .ok (.lload_n 2, 1) := zo_32 (zby_w zwX9_choose_0 11 rfl)
theorem d_X9_choose_12 : decode cX9_choose 12 = .ok (.iload_n 0, 1) := zo_26 (zby_w zwX9_choose_0 12 rfl)
theorem d_X9_choose_13 : decode cX9_choose 13 = .ok (.iload_n 1, 1) := zo_27 (zby_w zwX9_choose_0 13 rfl)
theorem d_X9_choose_14 : decode cX9_choose 14 = .ok (.isub, 1) := zo_100 (zby_w zwX9_choose_0 14 rfl)
theorem d_X9_choose_15 : decode cX9_choose 15 = .ok (.iload 4, 2) := zo_21 (a := 4) (zby_w zwX9_choose_0 15 rfl) (zby_w zwX9_choose_0 16 rfl) (by decide)
theorem d_X9_choose_17 : decode cX9_choose 17 = .ok (.iadd, 1) := zo_96 (zby_w zwX9_choose_0 17 rfl)
theorem d_X9_choose_18 : decode cX9_choose 18 = .ok (.i2l, 1) := zo_133 (zby_w zwX9_choose_0 18 rfl)
theorem d_X9_choose_19 : decode cX9_choose 19 = .ok (.lmul, 1) := zo_105 (zby_w zwX9_choose_0 19 rfl)
theorem d_X9_choose_20 : decode cX9_choose 20 = .ok (.iload 4, 2) := zo_21 (a := 4) (zby_w zwX9_choose_0 20 rfl) (zby_w zwX9_choose_0 21 rfl) (by decide)
theorem d_X9_choose_22 : decode cX9_choose 22 = .ok (.i2l, 1) := zo_133 (zby_w zwX9_choose_0 22 rfl)
theorem d_X9_choose_23 : decode cX9_choose 23 = .ok (.ldiv, 1) := zo_109 (zby_w zwX9_choose_0 23 rfl)
theorem d_X9_choose_24 : decode cX9_choose 24 = .ok (.lstore_n 2, 1) := zo_65 (zby_w zwX9_choose_0 24 rfl)
theorem d_X9_choose_25 : decode cX9_choose 25 = .ok (.iinc 4 1, 3) := by decide +kernel
theorem d_X9_choose_28 : decode cX9_choose 28 = .ok (.goto (-23), 3) := zo_167 (a := 255) (b := 233) (zby_w zwX9_choose_0 28 rfl) (zby_w zwX9_choose_0 29 rfl) (zby_w zwX9_choose_0 30 rfl) (by decide)
theorem d_X9_choose_31 : decode cX9_choose 31 = .ok (.lload_n 2, 1) := zo_32 (zby_w zwX9_choose_0 31 rfl)
theorem d_X9_choose_32 : decode cX9_choose 32 = .ok (.lreturn, 1) := zo_173 (zby_w zwX9_choose_1 0 rfl)
theorem d_X9_convoy_0 : decode cX9_convoy 0 = .ok (.iload_n 1, 1) := zo_27 (zby_w zwX9_convoy_0 0 rfl)
theorem d_X9_convoy_1 : decode cX9_convoy 1 = .ok (.invokestatic 219, 3) := zo_184 (a := 0) (b := 219) (zby_w zwX9_convoy_0 1 rfl) (zby_w zwX9_convoy_0 2 rfl) (zby_w zwX9_convoy_0 3 rfl) (by decide)
theorem d_X9_convoy_4 : decode cX9_convoy 4 = .ok (.ifCond .eq 13, 3) := zo_153 (a := 0) (b := 13) (zby_w zwX9_convoy_0 4 rfl) (zby_w zwX9_convoy_0 5 rfl) (zby_w zwX9_convoy_0 6 rfl) (by decide)
theorem d_X9_convoy_7 : decode cX9_convoy 7 = .ok (.iload_n 2, 1) := zo_28 (zby_w zwX9_convoy_0 7 rfl)
theorem d_X9_convoy_8 : decode cX9_convoy 8 = .ok (.i2l, 1) := zo_133 (zby_w zwX9_convoy_0 8 rfl)
theorem d_X9_convoy_9 : decode cX9_convoy 9 = .ok (.lconst 0, 1) := zo_9 (zby_w zwX9_convoy_0 9 rfl)
theorem d_X9_convoy_10 : decode cX9_convoy 10 = .ok (.lconst 1, 1) := zo_10 (zby_w zwX9_convoy_0 10 rfl)
theorem d_X9_convoy_11 : decode cX9_convoy 11 = .ok (.invokestatic 89, 3) := zo_184 (a := 0) (b := 89) (zby_w zwX9_convoy_0 11 rfl) (zby_w zwX9_convoy_0 12 rfl) (zby_w zwX9_convoy_0 13 rfl) (by decide)
theorem d_X9_convoy_14 : decode cX9_convoy 14 = .ok (.ifCond .ne 6, 3) := zo_154 (a := 0) (b := 6) (zby_w zwX9_convoy_0 14 rfl) (zby_w zwX9_convoy_0 15 rfl) (zby_w zwX9_convoy_0 16 rfl) (by decide)
theorem d_X9_convoy_17 : decode cX9_convoy 17 = .ok (.bipush (-2), 2) := zo_16 (a := 254) (zby_w zwX9_convoy_0 17 rfl) (zby_w zwX9_convoy_0 18 rfl) (by decide)
theorem d_X9_convoy_19 : decode cX9_convoy 19 = .ok (.ireturn, 1) := zo_172 (zby_w zwX9_convoy_0 19 rfl)
theorem d_X9_convoy_20 : decode cX9_convoy 20 = .ok (.iconst 0, 1) := zo_3 (zby_w zwX9_convoy_0 20 rfl)
theorem d_X9_convoy_21 : decode cX9_convoy 21 = .ok (.istore_n 3, 1) := zo_62 (zby_w zwX9_convoy_0 21 rfl)
theorem d_X9_convoy_22 : decode cX9_convoy 22 = .ok (.ldc 230, 2) := zo_18 (a := 230) (zby_w zwX9_convoy_0 22 rfl) (zby_w zwX9_convoy_0 23 rfl) (by decide)
theorem d_X9_convoy_24 : decode cX9_convoy 24 = .ok (.istore 4, 2) := zo_54 (a := 4) (zby_w zwX9_convoy_0 24 rfl) (zby_w zwX9_convoy_0 25 rfl) (by decide)
theorem d_X9_convoy_26 : decode cX9_convoy 26 = .ok (.iconst 0, 1) := zo_3 (zby_w zwX9_convoy_0 26 rfl)
theorem d_X9_convoy_27 : decode cX9_convoy 27 = .ok (.istore 5, 2) := zo_54 (a := 5) (zby_w zwX9_convoy_0 27 rfl) (zby_w zwX9_convoy_0 28 rfl) (by decide)
theorem d_X9_convoy_29 : decode cX9_convoy 29 = .ok (.iload 5, 2) := zo_21 (a := 5) (zby_w zwX9_convoy_0 29 rfl) (zby_w zwX9_convoy_0 30 rfl) (by decide)
theorem d_X9_convoy_31 : decode cX9_convoy 31 = .ok (.iconst 3, 1) := zo_6 (zby_w zwX9_convoy_0 31 rfl)
theorem d_X9_convoy_32 : decode cX9_convoy 32 = .ok (.if_icmp .ge 85, 3) := zo_162 (a := 0) (b := 85) (zby_w zwX9_convoy_1 0 rfl) (zby_w zwX9_convoy_1 1 rfl) (zby_w zwX9_convoy_1 2 rfl) (by decide)
theorem d_X9_convoy_35 : decode cX9_convoy 35 = .ok (.iconst 0, 1) := zo_3 (zby_w zwX9_convoy_1 3 rfl)
theorem d_X9_convoy_36 : decode cX9_convoy 36 = .ok (.istore 6, 2) := zo_54 (a := 6) (zby_w zwX9_convoy_1 4 rfl) (zby_w zwX9_convoy_1 5 rfl) (by decide)
theorem d_X9_convoy_38 : decode cX9_convoy 38 = .ok (.iconst 0, 1) := zo_3 (zby_w zwX9_convoy_1 6 rfl)
theorem d_X9_convoy_39 : decode cX9_convoy 39 = .ok (.istore 7, 2) := zo_54 (a := 7) (zby_w zwX9_convoy_1 7 rfl) (zby_w zwX9_convoy_1 8 rfl) (by decide)
theorem d_X9_convoy_41 : decode cX9_convoy 41 = .ok (.iload 7, 2) := zo_21 (a := 7) (zby_w zwX9_convoy_1 9 rfl) (zby_w zwX9_convoy_1 10 rfl) (by decide)
theorem d_X9_convoy_43 : decode cX9_convoy 43 = .ok (.bipush 6, 2) := zo_16 (a := 6) (zby_w zwX9_convoy_1 11 rfl) (zby_w zwX9_convoy_1 12 rfl) (by decide)
theorem d_X9_convoy_45 : decode cX9_convoy 45 = .ok (.if_icmp .ge 36, 3) := zo_162 (a := 0) (b := 36) (zby_w zwX9_convoy_1 13 rfl) (zby_w zwX9_convoy_1 14 rfl) (zby_w zwX9_convoy_1 15 rfl) (by decide)
theorem d_X9_convoy_48 : decode cX9_convoy 48 = .ok (.iload 6, 2) := zo_21 (a := 6) (zby_w zwX9_convoy_1 16 rfl) (zby_w zwX9_convoy_1 17 rfl) (by decide)
theorem d_X9_convoy_50 : decode cX9_convoy 50 = .ok (.aload_n 0, 1) := zo_42 (zby_w zwX9_convoy_1 18 rfl)
theorem d_X9_convoy_51 : decode cX9_convoy 51 = .ok (.iload 7, 2) := zo_21 (a := 7) (zby_w zwX9_convoy_1 19 rfl) (zby_w zwX9_convoy_1 20 rfl) (by decide)
theorem d_X9_convoy_53 : decode cX9_convoy 53 = .ok (.invokevirtual 234, 3) := zo_182 (a := 0) (b := 234) (zby_w zwX9_convoy_1 21 rfl) (zby_w zwX9_convoy_1 22 rfl) (zby_w zwX9_convoy_1 23 rfl) (by decide)
theorem d_X9_convoy_56 : decode cX9_convoy 56 = .ok (.ifCond .eq 15, 3) := zo_153 (a := 0) (b := 15) (zby_w zwX9_convoy_1 24 rfl) (zby_w zwX9_convoy_1 25 rfl) (zby_w zwX9_convoy_1 26 rfl) (by decide)
theorem d_X9_convoy_59 : decode cX9_convoy 59 = .ok (.aload_n 0, 1) := zo_42 (zby_w zwX9_convoy_1 27 rfl)
theorem d_X9_convoy_60 : decode cX9_convoy 60 = .ok (.iload 7, 2) := zo_21 (a := 7) (zby_w zwX9_convoy_1 28 rfl) (zby_w zwX9_convoy_1 29 rfl) (by decide)
theorem d_X9_convoy_62 : decode cX9_convoy 62 = .ok (.iload 5, 2) := zo_21 (a := 5) (zby_w zwX9_convoy_1 30 rfl) (zby_w zwX9_convoy_1 31 rfl) (by decide)
theorem d_X9_convoy_64 : decode cX9_convoy 64 = .ok (.iload_n 1, 1) := zo_27 (zby_w zwX9_convoy_2 0 rfl)
theorem d_X9_convoy_65 : decode cX9_convoy 65 = .ok (.invokevirtual 212, 3) := zo_182 (a := 0) (b := 212) (zby_w zwX9_convoy_2 1 rfl) (zby_w zwX9_convoy_2 2 rfl) (zby_w zwX9_convoy_2 3 rfl) (by decide)
theorem d_X9_convoy_68 : decode cX9_convoy 68 = .ok (.goto 4, 3) := zo_167 (a := 0) (b := 4) (zby_w zwX9_convoy_2 4 rfl) (zby_w zwX9_convoy_2 5 rfl) (zby_w zwX9_convoy_2 6 rfl) (by decide)
theorem d_X9_convoy_71 : decode cX9_convoy 71 = .ok (.iconst 0, 1) := zo_3 (zby_w zwX9_convoy_2 7 rfl)
theorem d_X9_convoy_72 : decode cX9_convoy 72 = .ok (.iadd, 1) := zo_96 (zby_w zwX9_convoy_2 8 rfl)
theorem d_X9_convoy_73 : decode cX9_convoy 73 = .ok (.istore 6, 2) := zo_54 (a := 6) (zby_w zwX9_convoy_2 9 rfl) (zby_w zwX9_convoy_2 10 rfl) (by decide)
theorem d_X9_convoy_75 : decode cX9_convoy 75 = .ok (.iinc 7 1, 3) := by decide +kernel
theorem d_X9_convoy_78 : decode cX9_convoy 78 = .ok (.goto (-37), 3) := zo_167 (a := 255) (b := 219) (zby_w zwX9_convoy_2 14 rfl) (zby_w zwX9_convoy_2 15 rfl) (zby_w zwX9_convoy_2 16 rfl) (by decide)
theorem d_X9_convoy_81 : decode cX9_convoy 81 = .ok (.iload 6, 2) := zo_21 (a := 6) (zby_w zwX9_convoy_2 17 rfl) (zby_w zwX9_convoy_2 18 rfl) (by decide)
theorem d_X9_convoy_83 : decode cX9_convoy 83 = .ok (.iload 4, 2) := zo_21 (a := 4) (zby_w zwX9_convoy_2 19 rfl) (zby_w zwX9_convoy_2 20 rfl) (by decide)
theorem d_X9_convoy_85 : decode cX9_convoy 85 = .ok (.if_icmp .ge 8, 3) := zo_162 (a := 0) (b := 8) (zby_w zwX9_convoy_2 21 rfl) (zby_w zwX9_convoy_2 22 rfl) (zby_w zwX9_convoy_2 23 rfl) (by decide)
theorem d_X9_convoy_88 : decode cX9_convoy 88 = .ok (.iload 5, 2) := zo_21 (a := 5) (zby_w zwX9_convoy_2 24 rfl) (zby_w zwX9_convoy_2 25 rfl) (by decide)
theorem d_X9_convoy_90 : decode cX9_convoy 90 = .ok (.goto 4, 3) := zo_167 (a := 0) (b := 4) (zby_w zwX9_convoy_2 26 rfl) (zby_w zwX9_convoy_2 27 rfl) (zby_w zwX9_convoy_2 28 rfl) (by decide)
theorem d_X9_convoy_93 : decode cX9_convoy 93 = .ok (.iload_n 3, 1) := zo_29 (zby_w zwX9_convoy_2 29 rfl)
theorem d_X9_convoy_94 : decode cX9_convoy 94 = .ok (.istore_n 3, 1) := zo_62 (zby_w zwX9_convoy_2 30 rfl)
theorem d_X9_convoy_95 : decode cX9_convoy 95 = .ok (.iload 6, 2) := zo_21 (a := 6) (zby_w zwX9_convoy_2 31 rfl) (zby_w zwX9_convoy_2 32 rfl) (by decide)
theorem d_X9_convoy_97 : decode cX9_convoy 97 = .ok (.iload 4, 2) := zo_21 (a := 4) (zby_w zwX9_convoy_3 1 rfl) (zby_w zwX9_convoy_3 2 rfl) (by decide)
theorem d_X9_convoy_99 : decode cX9_convoy 99 = .ok (.if_icmp .ge 8, 3) := zo_162 (a := 0) (b := 8) (zby_w zwX9_convoy_3 3 rfl) (zby_w zwX9_convoy_3 4 rfl) (zby_w zwX9_convoy_3 5 rfl) (by decide)
theorem d_X9_convoy_102 : decode cX9_convoy 102 = .ok (.iload 6, 2) := zo_21 (a := 6) (zby_w zwX9_convoy_3 6 rfl) (zby_w zwX9_convoy_3 7 rfl) (by decide)
theorem d_X9_convoy_104 : decode cX9_convoy 104 = .ok (.goto 5, 3) := zo_167 (a := 0) (b := 5) (zby_w zwX9_convoy_3 8 rfl) (zby_w zwX9_convoy_3 9 rfl) (zby_w zwX9_convoy_3 10 rfl) (by decide)
theorem d_X9_convoy_107 : decode cX9_convoy 107 = .ok (.iload 4, 2) := zo_21 (a := 4) (zby_w zwX9_convoy_3 11 rfl) (zby_w zwX9_convoy_3 12 rfl) (by decide)
theorem d_X9_convoy_109 : decode cX9_convoy 109 = .ok (.istore 4, 2) := zo_54 (a := 4) (zby_w zwX9_convoy_3 13 rfl) (zby_w zwX9_convoy_3 14 rfl) (by decide)
theorem d_X9_convoy_111 : decode cX9_convoy 111 = .ok (.iinc 5 1, 3) := by decide +kernel
theorem d_X9_convoy_114 : decode cX9_convoy 114 = .ok (.goto (-85), 3) := zo_167 (a := 255) (b := 171) (zby_w zwX9_convoy_3 18 rfl) (zby_w zwX9_convoy_3 19 rfl) (zby_w zwX9_convoy_3 20 rfl) (by decide)
theorem d_X9_convoy_117 : decode cX9_convoy 117 = .ok (.iload_n 2, 1) := zo_28 (zby_w zwX9_convoy_3 21 rfl)
theorem d_X9_convoy_118 : decode cX9_convoy 118 = .ok (.ifCond .ne 7, 3) := zo_154 (a := 0) (b := 7) (zby_w zwX9_convoy_3 22 rfl) (zby_w zwX9_convoy_3 23 rfl) (zby_w zwX9_convoy_3 24 rfl) (by decide)
theorem d_X9_convoy_121 : decode cX9_convoy 121 = .ok (.iload_n 3, 1) := zo_29 (zby_w zwX9_convoy_3 25 rfl)
theorem d_X9_convoy_122 : decode cX9_convoy 122 = .ok (.goto 5, 3) := zo_167 (a := 0) (b := 5) (zby_w zwX9_convoy_3 26 rfl) (zby_w zwX9_convoy_3 27 rfl) (zby_w zwX9_convoy_3 28 rfl) (by decide)
theorem d_X9_convoy_125 : decode cX9_convoy 125 = .ok (.iload 4, 2) := zo_21 (a := 4) (zby_w zwX9_convoy_3 29 rfl) (zby_w zwX9_convoy_3 30 rfl) (by decide)
theorem d_X9_convoy_127 : decode cX9_convoy 127 = .ok (.ireturn, 1) := zo_172 (zby_w zwX9_convoy_3 31 rfl)
theorem d_X9_done_0 : decode cX9_done 0 = .ok (.aload_n 0, 1) := zo_42 (zby_w zwX9_done_0 0 rfl)
theorem d_X9_done_1 : decode cX9_done 1 = .ok (.invokevirtual 145, 3) := zo_182 (a := 0) (b := 145) (zby_w zwX9_done_0 1 rfl) (zby_w zwX9_done_0 2 rfl) (zby_w zwX9_done_0 3 rfl) (by decide)
theorem d_X9_done_4 : decode cX9_done 4 = .ok (.ifCond .lt 6, 3) := zo_155 (a := 0) (b := 6) (zby_w zwX9_done_0 4 rfl) (zby_w zwX9_done_0 5 rfl) (zby_w zwX9_done_0 6 rfl) (by decide)
theorem d_X9_done_7 : decode cX9_done 7 = .ok (.bipush (-5), 2) := zo_16 (a := 251) (zby_w zwX9_done_0 7 rfl) (zby_w zwX9_done_0 8 rfl) (by decide)
theorem d_X9_done_9 : decode cX9_done 9 = .ok (.ireturn, 1) := zo_172 (zby_w zwX9_done_0 9 rfl)
theorem d_X9_done_10 : decode cX9_done 10 = .ok (.aload_n 0, 1) := zo_42 (zby_w zwX9_done_0 10 rfl)
theorem d_X9_done_11 : decode cX9_done 11 = .ok (.invokevirtual 193, 3) := zo_182 (a := 0) (b := 193) (zby_w zwX9_done_0 11 rfl) (zby_w zwX9_done_0 12 rfl) (zby_w zwX9_done_0 13 rfl) (by decide)
theorem d_X9_done_14 : decode cX9_done 14 = .ok (.aload_n 0, 1) := zo_42 (zby_w zwX9_done_0 14 rfl)
theorem d_X9_done_15 : decode cX9_done 15 = .ok (.invokevirtual 196, 3) := zo_182 (a := 0) (b := 196) (zby_w zwX9_done_0 15 rfl) (zby_w zwX9_done_0 16 rfl) (zby_w zwX9_done_0 17 rfl) (by decide)
theorem d_X9_done_18 : decode cX9_done 18 = .ok (.aload_n 0, 1) := zo_42 (zby_w zwX9_done_0 18 rfl)
theorem d_X9_done_19 : decode cX9_done 19 = .ok (.getfield 175, 3) := zo_180 (a := 0) (b := 175) (zby_w zwX9_done_0 19 rfl) (zby_w zwX9_done_0 20 rfl) (zby_w zwX9_done_0 21 rfl) (by decide)
theorem d_X9_done_22 : decode cX9_done 22 = .ok (.ifCond .lt 10, 3) := zo_155 (a := 0) (b := 10) (zby_w zwX9_done_0 22 rfl) (zby_w zwX9_done_0 23 rfl) (zby_w zwX9_done_0 24 rfl) (by decide)
theorem d_X9_done_25 : decode cX9_done 25 = .ok (.aload_n 0, 1) := zo_42 (zby_w zwX9_done_0 25 rfl)
theorem d_X9_done_26 : decode cX9_done 26 = .ok (.invokevirtual 199, 3) := zo_182 (a := 0) (b := 199) (zby_w zwX9_done_0 26 rfl) (zby_w zwX9_done_0 27 rfl) (zby_w zwX9_done_0 28 rfl) (by decide)
theorem d_X9_done_29 : decode cX9_done 29 = .ok (.bipush (-5), 2) := zo_16 (a := 251) (zby_w zwX9_done_0 29 rfl) (zby_w zwX9_done_0 30 rfl) (by decide)
theorem d_X9_done_31 : decode cX9_done 31 = .ok (.ireturn, 1) := zo_172 (zby_w zwX9_done_0 31 rfl)
theorem d_X9_done_32 : decode cX9_done 32 = .ok (.aload_n 0, 1) := zo_42 (zby_w zwX9_done_1 0 rfl)
theorem d_X9_done_33 : decode cX9_done 33 = .ok (.iconst 0, 1) := zo_3 (zby_w zwX9_done_1 1 rfl)
theorem d_X9_done_34 : decode cX9_done 34 = .ok (.putfield 130, 3) := zo_181 (a := 0) (b := 130) (zby_w zwX9_done_1 2 rfl) (zby_w zwX9_done_1 3 rfl) (zby_w zwX9_done_1 4 rfl) (by decide)
theorem d_X9_done_37 : decode cX9_done 37 = .ok (.aload_n 0, 1) := zo_42 (zby_w zwX9_done_1 5 rfl)
theorem d_X9_done_38 : decode cX9_done 38 = .ok (.getfield 172, 3) := zo_180 (a := 0) (b := 172) (zby_w zwX9_done_1 6 rfl) (zby_w zwX9_done_1 7 rfl) (zby_w zwX9_done_1 8 rfl) (by decide)
theorem d_X9_done_41 : decode cX9_done 41 = .ok (.ireturn, 1) := zo_172 (zby_w zwX9_done_1 9 rfl)
theorem d_X9_fault_0 : decode cX9_fault 0 = .ok (.iload_n 1, 1) := zo_27 (zby_w zwX9_fault_0 0 rfl)
theorem d_X9_fault_1 : decode cX9_fault 1 = .ok (.ifCond .ne 10, 3) := zo_154 (a := 0) (b := 10) (zby_w zwX9_fault_0 1 rfl) (zby_w zwX9_fault_0 2 rfl) (zby_w zwX9_fault_0 3 rfl) (by decide)
theorem d_X9_fault_4 : decode cX9_fault 4 = .ok (.aload_n 0, 1) := zo_42 (zby_w zwX9_fault_0 4 rfl)
theorem d_X9_fault_5 : decode cX9_fault 5 = .ok (.invokevirtual 141, 3) := zo_182 (a := 0) (b := 141) (zby_w zwX9_fault_0 5 rfl) (zby_w zwX9_fault_0 6 rfl) (zby_w zwX9_fault_0 7 rfl) (by decide)
theorem d_X9_fault_8 : decode cX9_fault 8 = .ok (.goto 17, 3) := zo_167 (a := 0) (b := 17) (zby_w zwX9_fault_0 8 rfl) (zby_w zwX9_fault_0 9 rfl) (zby_w zwX9_fault_0 10 rfl) (by decide)
theorem d_X9_fault_11 : decode cX9_fault 11 = .ok (.iload_n 1, 1) := zo_27 (zby_w zwX9_fault_0 11 rfl)
theorem d_X9_fault_12 : decode cX9_fault 12 = .ok (.iconst 1, 1) := zo_4 (zby_w zwX9_fault_0 12 rfl)
theorem d_X9_fault_13 : decode cX9_fault 13 = .ok (.if_icmp .ne 10, 3) := zo_160 (a := 0) (b := 10) (zby_w zwX9_fault_0 13 rfl) (zby_w zwX9_fault_0 14 rfl) (zby_w zwX9_fault_0 15 rfl) (by decide)
theorem d_X9_fault_16 : decode cX9_fault 16 = .ok (.aload_n 0, 1) := zo_42 (zby_w zwX9_fault_0 16 rfl)
theorem d_X9_fault_17 : decode cX9_fault 17 = .ok (.invokevirtual 145, 3) := zo_182 (a := 0) (b := 145) (zby_w zwX9_fault_0 17 rfl) (zby_w zwX9_fault_0 18 rfl) (zby_w zwX9_fault_0 19 rfl) (by decide)
theorem d_X9_fault_20 : decode cX9_fault 20 = .ok (.goto 5, 3) := zo_167 (a := 0) (b := 5) (zby_w zwX9_fault_0 20 rfl) (zby_w zwX9_fault_0 21 rfl) (zby_w zwX9_fault_0 22 rfl) (by decide)
theorem d_X9_fault_23 : decode cX9_fault 23 = .ok (.bipush (-2), 2) := zo_16 (a := 254) (zby_w zwX9_fault_0 23 rfl) (zby_w zwX9_fault_0 24 rfl) (by decide)
theorem d_X9_fault_25 : decode cX9_fault 25 = .ok (.ireturn, 1) := zo_172 (zby_w zwX9_fault_0 25 rfl)
theorem d_X9_faultOfSeason_0 : decode cX9_faultOfSeason 0 = .ok (.iconst 0, 1) := zo_3 (zby_w zwX9_faultOfSeason_0 0 rfl)
theorem d_X9_faultOfSeason_1 : decode cX9_faultOfSeason 1 = .ok (.istore_n 1, 1) := zo_60 (zby_w zwX9_faultOfSeason_0 1 rfl)
theorem d_X9_faultOfSeason_2 : decode cX9_faultOfSeason 2 = .ok (.iconst 0, 1) := zo_3 (zby_w zwX9_faultOfSeason_0 2 rfl)
theorem d_X9_faultOfSeason_3 : decode cX9_faultOfSeason 3 = .ok (.istore_n 2, 1) := zo_61 (zby_w zwX9_faultOfSeason_0 3 rfl)
theorem d_X9_faultOfSeason_4 : decode cX9_faultOfSeason 4 = .ok (.iload_n 2, 1) := zo_28 (zby_w zwX9_faultOfSeason_0 4 rfl)
theorem d_X9_faultOfSeason_5 : decode cX9_faultOfSeason 5 = .ok (.aload_n 0, 1) := zo_42 (zby_w zwX9_faultOfSeason_0 5 rfl)
theorem d_X9_faultOfSeason_6 : decode cX9_faultOfSeason 6 = .ok (.getfield 130, 3) := zo_180 (a := 0) (b := 130) (zby_w zwX9_faultOfSeason_0 6 rfl) (zby_w zwX9_faultOfSeason_0 7 rfl) (zby_w zwX9_faultOfSeason_0 8 rfl) (by decide)
theorem d_X9_faultOfSeason_9 : decode cX9_faultOfSeason 9 = .ok (.if_icmp .ge 96, 3) := zo_162 (a := 0) (b := 96) (zby_w zwX9_faultOfSeason_0 9 rfl) (zby_w zwX9_faultOfSeason_0 10 rfl) (zby_w zwX9_faultOfSeason_0 11 rfl) (by decide)
theorem d_X9_faultOfSeason_12 : decode cX9_faultOfSeason 12 = .ok (.aload_n 0, 1) := zo_42 (zby_w zwX9_faultOfSeason_0 12 rfl)
theorem d_X9_faultOfSeason_13 : decode cX9_faultOfSeason 13 = .ok (.getfield 40, 3) := zo_180 (a := 0) (b := 40) (zby_w zwX9_faultOfSeason_0 13 rfl) (zby_w zwX9_faultOfSeason_0 14 rfl) (zby_w zwX9_faultOfSeason_0 15 rfl) (by decide)
theorem d_X9_faultOfSeason_16 : decode cX9_faultOfSeason 16 = .ok (.iload_n 2, 1) := zo_28 (zby_w zwX9_faultOfSeason_0 16 rfl)
theorem d_X9_faultOfSeason_17 : decode cX9_faultOfSeason 17 = .ok (.iaload, 1) := zo_46 (zby_w zwX9_faultOfSeason_0 17 rfl)
theorem d_X9_faultOfSeason_18 : decode cX9_faultOfSeason 18 = .ok (.istore_n 3, 1) := zo_62 (zby_w zwX9_faultOfSeason_0 18 rfl)
theorem d_X9_faultOfSeason_19 : decode cX9_faultOfSeason 19 = .ok (.iload_n 1, 1) := zo_27 (zby_w zwX9_faultOfSeason_0 19 rfl)
theorem d_X9_faultOfSeason_20 : decode cX9_faultOfSeason 20 = .ok (.ifCond .eq 29, 3) := zo_153 (a := 0) (b := 29) (zby_w zwX9_faultOfSeason_0 20 rfl) (zby_w zwX9_faultOfSeason_0 21 rfl) (zby_w zwX9_faultOfSeason_0 22 rfl) (by decide)
theorem d_X9_faultOfSeason_23 : decode cX9_faultOfSeason 23 = .ok (.iload_n 3, 1) := zo_29 (zby_w zwX9_faultOfSeason_0 23 rfl)
theorem d_X9_faultOfSeason_24 : decode cX9_faultOfSeason 24 = .ok (.bipush 84, 2) := zo_16 (a := 84) (zby_w zwX9_faultOfSeason_0 24 rfl) (zby_w zwX9_faultOfSeason_0 25 rfl) (by decide)
theorem d_X9_faultOfSeason_26 : decode cX9_faultOfSeason 26 = .ok (.if_icmp .eq 15, 3) := zo_159 (a := 0) (b := 15) (zby_w zwX9_faultOfSeason_0 26 rfl) (zby_w zwX9_faultOfSeason_0 27 rfl) (zby_w zwX9_faultOfSeason_0 28 rfl) (by decide)
theorem d_X9_faultOfSeason_29 : decode cX9_faultOfSeason 29 = .ok (.iload_n 3, 1) := zo_29 (zby_w zwX9_faultOfSeason_0 29 rfl)
theorem d_X9_faultOfSeason_30 : decode cX9_faultOfSeason 30 = .ok (.bipush 87, 2) := zo_16 (a := 87) (zby_w zwX9_faultOfSeason_0 30 rfl) (zby_w zwX9_faultOfSeason_0 31 rfl) (by decide)
theorem d_X9_faultOfSeason_32 : decode cX9_faultOfSeason 32 = .ok (.if_icmp .eq 9, 3) := zo_159 (a := 0) (b := 9) (zby_w zwX9_faultOfSeason_1 0 rfl) (zby_w zwX9_faultOfSeason_1 1 rfl) (zby_w zwX9_faultOfSeason_1 2 rfl) (by decide)
theorem d_X9_faultOfSeason_35 : decode cX9_faultOfSeason 35 = .ok (.iload_n 3, 1) := zo_29 (zby_w zwX9_faultOfSeason_1 3 rfl)
theorem d_X9_faultOfSeason_36 : decode cX9_faultOfSeason 36 = .ok (.bipush 67, 2) := zo_16 (a := 67) (zby_w zwX9_faultOfSeason_1 4 rfl) (zby_w zwX9_faultOfSeason_1 5 rfl) (by decide)
theorem d_X9_faultOfSeason_38 : decode cX9_faultOfSeason 38 = .ok (.if_icmp .ne 7, 3) := zo_160 (a := 0) (b := 7) (zby_w zwX9_faultOfSeason_1 6 rfl) (zby_w zwX9_faultOfSeason_1 7 rfl) (zby_w zwX9_faultOfSeason_1 8 rfl) (by decide)
theorem d_X9_faultOfSeason_41 : decode cX9_faultOfSeason 41 = .ok (.iconst 1, 1) := zo_4 (zby_w zwX9_faultOfSeason_1 9 rfl)
theorem d_X9_faultOfSeason_42 : decode cX9_faultOfSeason 42 = .ok (.goto 32, 3) := zo_167 (a := 0) (b := 32) (zby_w zwX9_faultOfSeason_1 10 rfl) (zby_w zwX9_faultOfSeason_1 11 rfl) (zby_w zwX9_faultOfSeason_1 12 rfl) (by decide)
theorem d_X9_faultOfSeason_45 : decode cX9_faultOfSeason 45 = .ok (.iconst 0, 1) := zo_3 (zby_w zwX9_faultOfSeason_1 13 rfl)
theorem d_X9_faultOfSeason_46 : decode cX9_faultOfSeason 46 = .ok (.goto 28, 3) := zo_167 (a := 0) (b := 28) (zby_w zwX9_faultOfSeason_1 14 rfl) (zby_w zwX9_faultOfSeason_1 15 rfl) (zby_w zwX9_faultOfSeason_1 16 rfl) (by decide)
theorem d_X9_faultOfSeason_49 : decode cX9_faultOfSeason 49 = .ok (.iload_n 3, 1) := zo_29 (zby_w zwX9_faultOfSeason_1 17 rfl)
theorem d_X9_faultOfSeason_50 : decode cX9_faultOfSeason 50 = .ok (.bipush 46, 2) := zo_16 (a := 46) (zby_w zwX9_faultOfSeason_1 18 rfl) (zby_w zwX9_faultOfSeason_1 19 rfl) (by decide)
theorem d_X9_faultOfSeason_52 : decode cX9_faultOfSeason 52 = .ok (.if_icmp .eq 17, 3) := zo_159 (a := 0) (b := 17) (zby_w zwX9_faultOfSeason_1 20 rfl) (zby_w zwX9_faultOfSeason_1 21 rfl) (zby_w zwX9_faultOfSeason_1 22 rfl) (by decide)
theorem d_X9_faultOfSeason_55 : decode cX9_faultOfSeason 55 = .ok (.iload_n 3, 1) := zo_29 (zby_w zwX9_faultOfSeason_1 23 rfl)
theorem d_X9_faultOfSeason_56 : decode cX9_faultOfSeason 56 = .ok (.i2l, 1) := zo_133 (zby_w zwX9_faultOfSeason_1 24 rfl)
theorem d_X9_faultOfSeason_57 : decode cX9_faultOfSeason 57 = .ok (.ldc2_w 137, 3) := zo_20 (a := 0) (b := 137) (zby_w zwX9_faultOfSeason_1 25 rfl) (zby_w zwX9_faultOfSeason_1 26 rfl) (zby_w zwX9_faultOfSeason_1 27 rfl) (by decide)
theorem d_X9_faultOfSeason_60 : decode cX9_faultOfSeason 60 = .ok (.ldc2_w 139, 3) := zo_20 (a := 0) (b := 139) (zby_w zwX9_faultOfSeason_1 28 rfl) (zby_w zwX9_faultOfSeason_1 29 rfl) (zby_w zwX9_faultOfSeason_1 30 rfl) (by decide)
theorem d_X9_faultOfSeason_63 : decode cX9_faultOfSeason 63 = .ok (.invokestatic 89, 3) := zo_184 (a := 0) (b := 89) (zby_w zwX9_faultOfSeason_1 31 rfl) (zby_w zwX9_faultOfSeason_1 32 rfl) (zby_w zwX9_faultOfSeason_1 33 rfl) (by decide)
theorem d_X9_faultOfSeason_66 : decode cX9_faultOfSeason 66 = .ok (.ifCond .eq 7, 3) := zo_153 (a := 0) (b := 7) (zby_w zwX9_faultOfSeason_2 2 rfl) (zby_w zwX9_faultOfSeason_2 3 rfl) (zby_w zwX9_faultOfSeason_2 4 rfl) (by decide)
theorem d_X9_faultOfSeason_69 : decode cX9_faultOfSeason 69 = .ok (.iconst 1, 1) := zo_4 (zby_w zwX9_faultOfSeason_2 5 rfl)
theorem d_X9_faultOfSeason_70 : decode cX9_faultOfSeason 70 = .ok (.goto 4, 3) := zo_167 (a := 0) (b := 4) (zby_w zwX9_faultOfSeason_2 6 rfl) (zby_w zwX9_faultOfSeason_2 7 rfl) (zby_w zwX9_faultOfSeason_2 8 rfl) (by decide)
theorem d_X9_faultOfSeason_73 : decode cX9_faultOfSeason 73 = .ok (.iconst 0, 1) := zo_3 (zby_w zwX9_faultOfSeason_2 9 rfl)
theorem d_X9_faultOfSeason_74 : decode cX9_faultOfSeason 74 = .ok (.istore 4, 2) := zo_54 (a := 4) (zby_w zwX9_faultOfSeason_2 10 rfl) (zby_w zwX9_faultOfSeason_2 11 rfl) (by decide)
theorem d_X9_faultOfSeason_76 : decode cX9_faultOfSeason 76 = .ok (.iload 4, 2) := zo_21 (a := 4) (zby_w zwX9_faultOfSeason_2 12 rfl) (zby_w zwX9_faultOfSeason_2 13 rfl) (by decide)
theorem d_X9_faultOfSeason_78 : decode cX9_faultOfSeason 78 = .ok (.ifCond .ne 5, 3) := zo_154 (a := 0) (b := 5) (zby_w zwX9_faultOfSeason_2 14 rfl) (zby_w zwX9_faultOfSeason_2 15 rfl) (zby_w zwX9_faultOfSeason_2 16 rfl) (by decide)
theorem d_X9_faultOfSeason_81 : decode cX9_faultOfSeason 81 = .ok (.iload_n 2, 1) := zo_28 (zby_w zwX9_faultOfSeason_2 17 rfl)
theorem d_X9_faultOfSeason_82 : decode cX9_faultOfSeason 82 = .ok (.ireturn, 1) := zo_172 (zby_w zwX9_faultOfSeason_2 18 rfl)
theorem d_X9_faultOfSeason_83 : decode cX9_faultOfSeason 83 = .ok (.iload_n 1, 1) := zo_27 (zby_w zwX9_faultOfSeason_2 19 rfl)
theorem d_X9_faultOfSeason_84 : decode cX9_faultOfSeason 84 = .ok (.ifCond .ne 13, 3) := zo_154 (a := 0) (b := 13) (zby_w zwX9_faultOfSeason_2 20 rfl) (zby_w zwX9_faultOfSeason_2 21 rfl) (zby_w zwX9_faultOfSeason_2 22 rfl) (by decide)
theorem d_X9_faultOfSeason_87 : decode cX9_faultOfSeason 87 = .ok (.iload_n 3, 1) := zo_29 (zby_w zwX9_faultOfSeason_2 23 rfl)
theorem d_X9_faultOfSeason_88 : decode cX9_faultOfSeason 88 = .ok (.bipush 46, 2) := zo_16 (a := 46) (zby_w zwX9_faultOfSeason_2 24 rfl) (zby_w zwX9_faultOfSeason_2 25 rfl) (by decide)
theorem d_X9_faultOfSeason_90 : decode cX9_faultOfSeason 90 = .ok (.if_icmp .eq 7, 3) := zo_159 (a := 0) (b := 7) (zby_w zwX9_faultOfSeason_2 26 rfl) (zby_w zwX9_faultOfSeason_2 27 rfl) (zby_w zwX9_faultOfSeason_2 28 rfl) (by decide)
theorem d_X9_faultOfSeason_93 : decode cX9_faultOfSeason 93 = .ok (.iconst 1, 1) := zo_4 (zby_w zwX9_faultOfSeason_2 29 rfl)
theorem d_X9_faultOfSeason_94 : decode cX9_faultOfSeason 94 = .ok (.goto 4, 3) := zo_167 (a := 0) (b := 4) (zby_w zwX9_faultOfSeason_2 30 rfl) (zby_w zwX9_faultOfSeason_2 31 rfl) (zby_w zwX9_faultOfSeason_2 32 rfl) (by decide)
theorem d_X9_faultOfSeason_97 : decode cX9_faultOfSeason 97 = .ok (.iconst 0, 1) := zo_3 (zby_w zwX9_faultOfSeason_3 1 rfl)
theorem d_X9_faultOfSeason_98 : decode cX9_faultOfSeason 98 = .ok (.istore_n 1, 1) := zo_60 (zby_w zwX9_faultOfSeason_3 2 rfl)
theorem d_X9_faultOfSeason_99 : decode cX9_faultOfSeason 99 = .ok (.iinc 2 1, 3) := by decide +kernel
theorem d_X9_faultOfSeason_102 : decode cX9_faultOfSeason 102 = .ok (.goto (-98), 3) := zo_167 (a := 255) (b := 158) (zby_w zwX9_faultOfSeason_3 6 rfl) (zby_w zwX9_faultOfSeason_3 7 rfl) (zby_w zwX9_faultOfSeason_3 8 rfl) (by decide)
theorem d_X9_faultOfSeason_105 : decode cX9_faultOfSeason 105 = .ok (.iload_n 1, 1) := zo_27 (zby_w zwX9_faultOfSeason_3 9 rfl)
theorem d_X9_faultOfSeason_106 : decode cX9_faultOfSeason 106 = .ok (.ifCond .eq 10, 3) := zo_153 (a := 0) (b := 10) (zby_w zwX9_faultOfSeason_3 10 rfl) (zby_w zwX9_faultOfSeason_3 11 rfl) (zby_w zwX9_faultOfSeason_3 12 rfl) (by decide)
theorem d_X9_faultOfSeason_109 : decode cX9_faultOfSeason 109 = .ok (.aload_n 0, 1) := zo_42 (zby_w zwX9_faultOfSeason_3 13 rfl)
theorem d_X9_faultOfSeason_110 : decode cX9_faultOfSeason 110 = .ok (.getfield 130, 3) := zo_180 (a := 0) (b := 130) (zby_w zwX9_faultOfSeason_3 14 rfl) (zby_w zwX9_faultOfSeason_3 15 rfl) (zby_w zwX9_faultOfSeason_3 16 rfl) (by decide)
theorem d_X9_faultOfSeason_113 : decode cX9_faultOfSeason 113 = .ok (.goto 5, 3) := zo_167 (a := 0) (b := 5) (zby_w zwX9_faultOfSeason_3 17 rfl) (zby_w zwX9_faultOfSeason_3 18 rfl) (zby_w zwX9_faultOfSeason_3 19 rfl) (by decide)
theorem d_X9_faultOfSeason_116 : decode cX9_faultOfSeason 116 = .ok (.bipush (-6), 2) := zo_16 (a := 250) (zby_w zwX9_faultOfSeason_3 20 rfl) (zby_w zwX9_faultOfSeason_3 21 rfl) (by decide)
theorem d_X9_faultOfSeason_118 : decode cX9_faultOfSeason 118 = .ok (.ireturn, 1) := zo_172 (zby_w zwX9_faultOfSeason_3 22 rfl)
theorem d_X9_faultOfTide_0 : decode cX9_faultOfTide 0 = .ok (.iconst 0, 1) := zo_3 (zby_w zwX9_faultOfTide_0 0 rfl)
theorem d_X9_faultOfTide_1 : decode cX9_faultOfTide 1 = .ok (.istore_n 1, 1) := zo_60 (zby_w zwX9_faultOfTide_0 1 rfl)
theorem d_X9_faultOfTide_2 : decode cX9_faultOfTide 2 = .ok (.iload_n 1, 1) := zo_27 (zby_w zwX9_faultOfTide_0 2 rfl)
theorem d_X9_faultOfTide_3 : decode cX9_faultOfTide 3 = .ok (.aload_n 0, 1) := zo_42 (zby_w zwX9_faultOfTide_0 3 rfl)
theorem d_X9_faultOfTide_4 : decode cX9_faultOfTide 4 = .ok (.getfield 130, 3) := zo_180 (a := 0) (b := 130) (zby_w zwX9_faultOfTide_0 4 rfl) (zby_w zwX9_faultOfTide_0 5 rfl) (zby_w zwX9_faultOfTide_0 6 rfl) (by decide)
theorem d_X9_faultOfTide_7 : decode cX9_faultOfTide 7 = .ok (.if_icmp .ge 36, 3) := zo_162 (a := 0) (b := 36) (zby_w zwX9_faultOfTide_0 7 rfl) (zby_w zwX9_faultOfTide_0 8 rfl) (zby_w zwX9_faultOfTide_0 9 rfl) (by decide)
theorem d_X9_faultOfTide_10 : decode cX9_faultOfTide 10 = .ok (.iload_n 1, 1) := zo_27 (zby_w zwX9_faultOfTide_0 10 rfl)
theorem d_X9_faultOfTide_11 : decode cX9_faultOfTide 11 = .ok (.bipush 24, 2) := zo_16 (a := 24) (zby_w zwX9_faultOfTide_0 11 rfl) (zby_w zwX9_faultOfTide_0 12 rfl) (by decide)
theorem d_X9_faultOfTide_13 : decode cX9_faultOfTide 13 = .ok (.if_icmp .eq 22, 3) := zo_159 (a := 0) (b := 22) (zby_w zwX9_faultOfTide_0 13 rfl) (zby_w zwX9_faultOfTide_0 14 rfl) (zby_w zwX9_faultOfTide_0 15 rfl) (by decide)
theorem d_X9_faultOfTide_16 : decode cX9_faultOfTide 16 = .ok (.aload_n 0, 1) := zo_42 (zby_w zwX9_faultOfTide_0 16 rfl)
theorem d_X9_faultOfTide_17 : decode cX9_faultOfTide 17 = .ok (.getfield 40, 3) := zo_180 (a := 0) (b := 40) (zby_w zwX9_faultOfTide_0 17 rfl) (zby_w zwX9_faultOfTide_0 18 rfl) (zby_w zwX9_faultOfTide_0 19 rfl) (by decide)
theorem d_X9_faultOfTide_20 : decode cX9_faultOfTide 20 = .ok (.iload_n 1, 1) := zo_27 (zby_w zwX9_faultOfTide_0 20 rfl)
theorem d_X9_faultOfTide_21 : decode cX9_faultOfTide 21 = .ok (.iaload, 1) := zo_46 (zby_w zwX9_faultOfTide_0 21 rfl)
theorem d_X9_faultOfTide_22 : decode cX9_faultOfTide 22 = .ok (.i2l, 1) := zo_133 (zby_w zwX9_faultOfTide_0 22 rfl)
theorem d_X9_faultOfTide_23 : decode cX9_faultOfTide 23 = .ok (.ldc2_w 133, 3) := zo_20 (a := 0) (b := 133) (zby_w zwX9_faultOfTide_0 23 rfl) (zby_w zwX9_faultOfTide_0 24 rfl) (zby_w zwX9_faultOfTide_0 25 rfl) (by decide)
theorem d_X9_faultOfTide_26 : decode cX9_faultOfTide 26 = .ok (.ldc2_w 135, 3) := zo_20 (a := 0) (b := 135) (zby_w zwX9_faultOfTide_0 26 rfl) (zby_w zwX9_faultOfTide_0 27 rfl) (zby_w zwX9_faultOfTide_0 28 rfl) (by decide)
theorem d_X9_faultOfTide_29 : decode cX9_faultOfTide 29 = .ok (.invokestatic 89, 3) := zo_184 (a := 0) (b := 89) (zby_w zwX9_faultOfTide_0 29 rfl) (zby_w zwX9_faultOfTide_0 30 rfl) (zby_w zwX9_faultOfTide_0 31 rfl) (by decide)
theorem d_X9_faultOfTide_32 : decode cX9_faultOfTide 32 = .ok (.ifCond .ne 5, 3) := zo_154 (a := 0) (b := 5) (zby_w zwX9_faultOfTide_1 0 rfl) (zby_w zwX9_faultOfTide_1 1 rfl) (zby_w zwX9_faultOfTide_1 2 rfl) (by decide)
theorem d_X9_faultOfTide_35 : decode cX9_faultOfTide 35 = .ok (.iload_n 1, 1) := zo_27 (zby_w zwX9_faultOfTide_1 3 rfl)
theorem d_X9_faultOfTide_36 : decode cX9_faultOfTide 36 = .ok (.ireturn, 1) := zo_172 (zby_w zwX9_faultOfTide_1 4 rfl)
theorem d_X9_faultOfTide_37 : decode cX9_faultOfTide 37 = .ok (.iinc 1 1, 3) := by decide +kernel
theorem d_X9_faultOfTide_40 : decode cX9_faultOfTide 40 = .ok (.goto (-38), 3) := zo_167 (a := 255) (b := 218) (zby_w zwX9_faultOfTide_1 8 rfl) (zby_w zwX9_faultOfTide_1 9 rfl) (zby_w zwX9_faultOfTide_1 10 rfl) (by decide)
theorem d_X9_faultOfTide_43 : decode cX9_faultOfTide 43 = .ok (.aload_n 0, 1) := zo_42 (zby_w zwX9_faultOfTide_1 11 rfl)
theorem d_X9_faultOfTide_44 : decode cX9_faultOfTide 44 = .ok (.getfield 130, 3) := zo_180 (a := 0) (b := 130) (zby_w zwX9_faultOfTide_1 12 rfl) (zby_w zwX9_faultOfTide_1 13 rfl) (zby_w zwX9_faultOfTide_1 14 rfl) (by decide)
theorem d_X9_faultOfTide_47 : decode cX9_faultOfTide 47 = .ok (.ifCond .ne 7, 3) := zo_154 (a := 0) (b := 7) (zby_w zwX9_faultOfTide_1 15 rfl) (zby_w zwX9_faultOfTide_1 16 rfl) (zby_w zwX9_faultOfTide_1 17 rfl) (by decide)
theorem d_X9_faultOfTide_50 : decode cX9_faultOfTide 50 = .ok (.iconst 0, 1) := zo_3 (zby_w zwX9_faultOfTide_1 18 rfl)
theorem d_X9_faultOfTide_51 : decode cX9_faultOfTide 51 = .ok (.goto 5, 3) := zo_167 (a := 0) (b := 5) (zby_w zwX9_faultOfTide_1 19 rfl) (zby_w zwX9_faultOfTide_1 20 rfl) (zby_w zwX9_faultOfTide_1 21 rfl) (by decide)
theorem d_X9_faultOfTide_54 : decode cX9_faultOfTide 54 = .ok (.bipush (-6), 2) := zo_16 (a := 250) (zby_w zwX9_faultOfTide_1 22 rfl) (zby_w zwX9_faultOfTide_1 23 rfl) (by decide)
theorem d_X9_faultOfTide_56 : decode cX9_faultOfTide 56 = .ok (.ireturn, 1) := zo_172 (zby_w zwX9_faultOfTide_1 24 rfl)
theorem d_X9_forget_0 : decode cX9_forget 0 = .ok (.aload_n 0, 1) := zo_42 (zby_w zwX9_forget_0 0 rfl)
theorem d_X9_forget_1 : decode cX9_forget 1 = .ok (.getfield 297, 3) := zo_180 (a := 1) (b := 41) (zby_w zwX9_forget_0 1 rfl) (zby_w zwX9_forget_0 2 rfl) (zby_w zwX9_forget_0 3 rfl) (by decide)
theorem d_X9_forget_4 : decode cX9_forget 4 = .ok (.istore_n 1, 1) := zo_60 (zby_w zwX9_forget_0 4 rfl)
theorem d_X9_forget_5 : decode cX9_forget 5 = .ok (.aload_n 0, 1) := zo_42 (zby_w zwX9_forget_0 5 rfl)
theorem d_X9_forget_6 : decode cX9_forget 6 = .ok (.iconst 0, 1) := zo_3 (zby_w zwX9_forget_0 6 rfl)
theorem d_X9_forget_7 : decode cX9_forget 7 = .ok (.putfield 297, 3) := zo_181 (a := 1) (b := 41) (zby_w zwX9_forget_0 7 rfl) (zby_w zwX9_forget_0 8 rfl) (zby_w zwX9_forget_0 9 rfl) (by decide)
theorem d_X9_forget_10 : decode cX9_forget 10 = .ok (.iload_n 1, 1) := zo_27 (zby_w zwX9_forget_0 10 rfl)
theorem d_X9_forget_11 : decode cX9_forget 11 = .ok (.ireturn, 1) := zo_172 (zby_w zwX9_forget_0 11 rfl)
theorem d_X9_gets_0 : decode cX9_gets 0 = .ok (.aload_n 0, 1) := zo_42 (zby_w zwX9_gets_0 0 rfl)
theorem d_X9_gets_1 : decode cX9_gets 1 = .ok (.getfield 7, 3) := zo_180 (a := 0) (b := 7) (zby_w zwX9_gets_0 1 rfl) (zby_w zwX9_gets_0 2 rfl) (zby_w zwX9_gets_0 3 rfl) (by decide)
theorem d_X9_gets_4 : decode cX9_gets 4 = .ok (.iload_n 1, 1) := zo_27 (zby_w zwX9_gets_0 4 rfl)
theorem d_X9_gets_5 : decode cX9_gets 5 = .ok (.iaload, 1) := zo_46 (zby_w zwX9_gets_0 5 rfl)
theorem d_X9_gets_6 : decode cX9_gets 6 = .ok (.aload_n 0, 1) := zo_42 (zby_w zwX9_gets_0 6 rfl)
theorem d_X9_gets_7 : decode cX9_gets 7 = .ok (.iload_n 1, 1) := zo_27 (zby_w zwX9_gets_0 7 rfl)
theorem d_X9_gets_8 : decode cX9_gets 8 = .ok (.invokevirtual 148, 3) := zo_182 (a := 0) (b := 148) (zby_w zwX9_gets_0 8 rfl) (zby_w zwX9_gets_0 9 rfl) (zby_w zwX9_gets_0 10 rfl) (by decide)
theorem d_X9_gets_11 : decode cX9_gets 11 = .ok (.isub, 1) := zo_100 (zby_w zwX9_gets_0 11 rfl)
theorem d_X9_gets_12 : decode cX9_gets 12 = .ok (.istore 5, 2) := zo_54 (a := 5) (zby_w zwX9_gets_0 12 rfl) (zby_w zwX9_gets_0 13 rfl) (by decide)
theorem d_X9_gets_14 : decode cX9_gets 14 = .ok (.iload_n 2, 1) := zo_28 (zby_w zwX9_gets_0 14 rfl)
theorem d_X9_gets_15 : decode cX9_gets 15 = .ok (.ifCond .ne 26, 3) := zo_154 (a := 0) (b := 26) (zby_w zwX9_gets_0 15 rfl) (zby_w zwX9_gets_0 16 rfl) (zby_w zwX9_gets_0 17 rfl) (by decide)
theorem d_X9_gets_18 : decode cX9_gets 18 = .ok (.iload 5, 2) := zo_21 (a := 5) (zby_w zwX9_gets_0 18 rfl) (zby_w zwX9_gets_0 19 rfl) (by decide)
theorem d_X9_gets_20 : decode cX9_gets 20 = .ok (.ifCond .ne 7, 3) := zo_154 (a := 0) (b := 7) (zby_w zwX9_gets_0 20 rfl) (zby_w zwX9_gets_0 21 rfl) (zby_w zwX9_gets_0 22 rfl) (by decide)
theorem d_X9_gets_23 : decode cX9_gets 23 = .ok (.iconst 0, 1) := zo_3 (zby_w zwX9_gets_0 23 rfl)
theorem d_X9_gets_24 : decode cX9_gets 24 = .ok (.goto 16, 3) := zo_167 (a := 0) (b := 16) (zby_w zwX9_gets_0 24 rfl) (zby_w zwX9_gets_0 25 rfl) (zby_w zwX9_gets_0 26 rfl) (by decide)
theorem d_X9_gets_27 : decode cX9_gets 27 = .ok (.bipush 10, 2) := zo_16 (a := 10) (zby_w zwX9_gets_0 27 rfl) (zby_w zwX9_gets_0 28 rfl) (by decide)
theorem d_X9_gets_29 : decode cX9_gets 29 = .ok (.aload_n 0, 1) := zo_42 (zby_w zwX9_gets_0 29 rfl)
theorem d_X9_gets_30 : decode cX9_gets 30 = .ok (.getfield 78, 3) := zo_180 (a := 0) (b := 78) (zby_w zwX9_gets_0 30 rfl) (zby_w zwX9_gets_0 31 rfl) (zby_w zwX9_gets_0 32 rfl) (by decide)
theorem d_X9_gets_33 : decode cX9_gets 33 = .ok (.iload 4, 2) := zo_21 (a := 4) (zby_w zwX9_gets_1 1 rfl) (zby_w zwX9_gets_1 2 rfl) (by decide)
theorem d_X9_gets_35 : decode cX9_gets 35 = .ok (.iload 5, 2) := zo_21 (a := 5) (zby_w zwX9_gets_1 3 rfl) (zby_w zwX9_gets_1 4 rfl) (by decide)
theorem d_X9_gets_37 : decode cX9_gets 37 = .ok (.imul, 1) := zo_104 (zby_w zwX9_gets_1 5 rfl)
theorem d_X9_gets_38 : decode cX9_gets 38 = .ok (.iadd, 1) := zo_96 (zby_w zwX9_gets_1 6 rfl)
theorem d_X9_gets_39 : decode cX9_gets 39 = .ok (.imul, 1) := zo_104 (zby_w zwX9_gets_1 7 rfl)
theorem d_X9_gets_40 : decode cX9_gets 40 = .ok (.ireturn, 1) := zo_172 (zby_w zwX9_gets_1 8 rfl)
theorem d_X9_gets_41 : decode cX9_gets 41 = .ok (.aload_n 0, 1) := zo_42 (zby_w zwX9_gets_1 9 rfl)
theorem d_X9_gets_42 : decode cX9_gets 42 = .ok (.getfield 78, 3) := zo_180 (a := 0) (b := 78) (zby_w zwX9_gets_1 10 rfl) (zby_w zwX9_gets_1 11 rfl) (zby_w zwX9_gets_1 12 rfl) (by decide)
theorem d_X9_gets_45 : decode cX9_gets 45 = .ok (.iload 4, 2) := zo_21 (a := 4) (zby_w zwX9_gets_1 13 rfl) (zby_w zwX9_gets_1 14 rfl) (by decide)
theorem d_X9_gets_47 : decode cX9_gets 47 = .ok (.aload_n 0, 1) := zo_42 (zby_w zwX9_gets_1 15 rfl)
theorem d_X9_gets_48 : decode cX9_gets 48 = .ok (.getfield 7, 3) := zo_180 (a := 0) (b := 7) (zby_w zwX9_gets_1 16 rfl) (zby_w zwX9_gets_1 17 rfl) (zby_w zwX9_gets_1 18 rfl) (by decide)
theorem d_X9_gets_51 : decode cX9_gets 51 = .ok (.iload_n 1, 1) := zo_27 (zby_w zwX9_gets_1 19 rfl)
theorem d_X9_gets_52 : decode cX9_gets 52 = .ok (.iaload, 1) := zo_46 (zby_w zwX9_gets_1 20 rfl)
theorem d_X9_gets_53 : decode cX9_gets 53 = .ok (.imul, 1) := zo_104 (zby_w zwX9_gets_1 21 rfl)
theorem d_X9_gets_54 : decode cX9_gets 54 = .ok (.iadd, 1) := zo_96 (zby_w zwX9_gets_1 22 rfl)
theorem d_X9_gets_55 : decode cX9_gets 55 = .ok (.istore 6, 2) := zo_54 (a := 6) (zby_w zwX9_gets_1 23 rfl) (zby_w zwX9_gets_1 24 rfl) (by decide)
theorem d_X9_gets_57 : decode cX9_gets 57 = .ok (.iload_n 2, 1) := zo_28 (zby_w zwX9_gets_1 25 rfl)
theorem d_X9_gets_58 : decode cX9_gets 58 = .ok (.iconst 1, 1) := zo_4 (zby_w zwX9_gets_1 26 rfl)
theorem d_X9_gets_59 : decode cX9_gets 59 = .ok (.if_icmp .ne 30, 3) := zo_160 (a := 0) (b := 30) (zby_w zwX9_gets_1 27 rfl) (zby_w zwX9_gets_1 28 rfl) (zby_w zwX9_gets_1 29 rfl) (by decide)
theorem d_X9_gets_62 : decode cX9_gets 62 = .ok (.bipush 10, 2) := zo_16 (a := 10) (zby_w zwX9_gets_1 30 rfl) (zby_w zwX9_gets_1 31 rfl) (by decide)
theorem d_X9_gets_64 : decode cX9_gets 64 = .ok (.aload_n 0, 1) := zo_42 (zby_w zwX9_gets_2 0 rfl)
theorem d_X9_gets_65 : decode cX9_gets 65 = .ok (.iload_n 3, 1) := zo_29 (zby_w zwX9_gets_2 1 rfl)
theorem d_X9_gets_66 : decode cX9_gets 66 = .ok (.invokevirtual 163, 3) := zo_182 (a := 0) (b := 163) (zby_w zwX9_gets_2 2 rfl) (zby_w zwX9_gets_2 3 rfl) (zby_w zwX9_gets_2 4 rfl) (by decide)
theorem d_X9_gets_69 : decode cX9_gets 69 = .ok (.isub, 1) := zo_100 (zby_w zwX9_gets_2 5 rfl)
theorem d_X9_gets_70 : decode cX9_gets 70 = .ok (.aload_n 0, 1) := zo_42 (zby_w zwX9_gets_2 6 rfl)
theorem d_X9_gets_71 : decode cX9_gets 71 = .ok (.getfield 7, 3) := zo_180 (a := 0) (b := 7) (zby_w zwX9_gets_2 7 rfl) (zby_w zwX9_gets_2 8 rfl) (zby_w zwX9_gets_2 9 rfl) (by decide)
theorem d_X9_gets_74 : decode cX9_gets 74 = .ok (.iload_n 1, 1) := zo_27 (zby_w zwX9_gets_2 10 rfl)
theorem d_X9_gets_75 : decode cX9_gets 75 = .ok (.iaload, 1) := zo_46 (zby_w zwX9_gets_2 11 rfl)
theorem d_X9_gets_76 : decode cX9_gets 76 = .ok (.ifCond .ne 7, 3) := zo_154 (a := 0) (b := 7) (zby_w zwX9_gets_2 12 rfl) (zby_w zwX9_gets_2 13 rfl) (zby_w zwX9_gets_2 14 rfl) (by decide)
theorem d_X9_gets_79 : decode cX9_gets 79 = .ok (.iconst 0, 1) := zo_3 (zby_w zwX9_gets_2 15 rfl)
theorem d_X9_gets_80 : decode cX9_gets 80 = .ok (.goto 5, 3) := zo_167 (a := 0) (b := 5) (zby_w zwX9_gets_2 16 rfl) (zby_w zwX9_gets_2 17 rfl) (zby_w zwX9_gets_2 18 rfl) (by decide)
theorem d_X9_gets_83 : decode cX9_gets 83 = .ok (.iload 6, 2) := zo_21 (a := 6) (zby_w zwX9_gets_2 19 rfl) (zby_w zwX9_gets_2 20 rfl) (by decide)
theorem d_X9_gets_85 : decode cX9_gets 85 = .ok (.imul, 1) := zo_104 (zby_w zwX9_gets_2 21 rfl)
theorem d_X9_gets_86 : decode cX9_gets 86 = .ok (.goto 26, 3) := zo_167 (a := 0) (b := 26) (zby_w zwX9_gets_2 22 rfl) (zby_w zwX9_gets_2 23 rfl) (zby_w zwX9_gets_2 24 rfl) (by decide)
theorem d_X9_gets_89 : decode cX9_gets 89 = .ok (.bipush 10, 2) := zo_16 (a := 10) (zby_w zwX9_gets_2 25 rfl) (zby_w zwX9_gets_2 26 rfl) (by decide)
theorem d_X9_gets_91 : decode cX9_gets 91 = .ok (.aload_n 0, 1) := zo_42 (zby_w zwX9_gets_2 27 rfl)
theorem d_X9_gets_92 : decode cX9_gets 92 = .ok (.getfield 7, 3) := zo_180 (a := 0) (b := 7) (zby_w zwX9_gets_2 28 rfl) (zby_w zwX9_gets_2 29 rfl) (zby_w zwX9_gets_2 30 rfl) (by decide)
theorem d_X9_gets_95 : decode cX9_gets 95 = .ok (.iload_n 1, 1) := zo_27 (zby_w zwX9_gets_2 31 rfl)
theorem d_X9_gets_96 : decode cX9_gets 96 = .ok (.iaload, 1) := zo_46 (zby_w zwX9_gets_3 0 rfl)
theorem d_X9_gets_97 : decode cX9_gets 97 = .ok (.ifCond .ne 7, 3) := zo_154 (a := 0) (b := 7) (zby_w zwX9_gets_3 1 rfl) (zby_w zwX9_gets_3 2 rfl) (zby_w zwX9_gets_3 3 rfl) (by decide)
theorem d_X9_gets_100 : decode cX9_gets 100 = .ok (.iconst 0, 1) := zo_3 (zby_w zwX9_gets_3 4 rfl)
theorem d_X9_gets_101 : decode cX9_gets 101 = .ok (.goto 5, 3) := zo_167 (a := 0) (b := 5) (zby_w zwX9_gets_3 5 rfl) (zby_w zwX9_gets_3 6 rfl) (zby_w zwX9_gets_3 7 rfl) (by decide)
theorem d_X9_gets_104 : decode cX9_gets 104 = .ok (.iload 6, 2) := zo_21 (a := 6) (zby_w zwX9_gets_3 8 rfl) (zby_w zwX9_gets_3 9 rfl) (by decide)
theorem d_X9_gets_106 : decode cX9_gets 106 = .ok (.aload_n 0, 1) := zo_42 (zby_w zwX9_gets_3 10 rfl)
theorem d_X9_gets_107 : decode cX9_gets 107 = .ok (.getfield 72, 3) := zo_180 (a := 0) (b := 72) (zby_w zwX9_gets_3 11 rfl) (zby_w zwX9_gets_3 12 rfl) (zby_w zwX9_gets_3 13 rfl) (by decide)
theorem d_X9_gets_110 : decode cX9_gets 110 = .ok (.isub, 1) := zo_100 (zby_w zwX9_gets_3 14 rfl)
theorem d_X9_gets_111 : decode cX9_gets 111 = .ok (.imul, 1) := zo_104 (zby_w zwX9_gets_3 15 rfl)
theorem d_X9_gets_112 : decode cX9_gets 112 = .ok (.ireturn, 1) := zo_172 (zby_w zwX9_gets_3 16 rfl)
theorem d_X9_goCape_0 : decode cX9_goCape 0 = .ok (.aload_n 0, 1) := zo_42 (zby_w zwX9_goCape_0 0 rfl)
theorem d_X9_goCape_1 : decode cX9_goCape 1 = .ok (.dup, 1) := zo_89 (zby_w zwX9_goCape_0 1 rfl)
theorem d_X9_goCape_2 : decode cX9_goCape 2 = .ok (.getfield 166, 3) := zo_180 (a := 0) (b := 166) (zby_w zwX9_goCape_0 2 rfl) (zby_w zwX9_goCape_0 3 rfl) (zby_w zwX9_goCape_0 4 rfl) (by decide)
theorem d_X9_goCape_5 : decode cX9_goCape 5 = .ok (.aload_n 0, 1) := zo_42 (zby_w zwX9_goCape_0 5 rfl)
theorem d_X9_goCape_6 : decode cX9_goCape 6 = .ok (.getfield 69, 3) := zo_180 (a := 0) (b := 69) (zby_w zwX9_goCape_0 6 rfl) (zby_w zwX9_goCape_0 7 rfl) (zby_w zwX9_goCape_0 8 rfl) (by decide)
theorem d_X9_goCape_9 : decode cX9_goCape 9 = .ok (.aload_n 0, 1) := zo_42 (zby_w zwX9_goCape_0 9 rfl)
theorem d_X9_goCape_10 : decode cX9_goCape 10 = .ok (.getfield 72, 3) := zo_180 (a := 0) (b := 72) (zby_w zwX9_goCape_0 10 rfl) (zby_w zwX9_goCape_0 11 rfl) (zby_w zwX9_goCape_0 12 rfl) (by decide)
theorem d_X9_goCape_13 : decode cX9_goCape 13 = .ok (.imul, 1) := zo_104 (zby_w zwX9_goCape_0 13 rfl)
theorem d_X9_goCape_14 : decode cX9_goCape 14 = .ok (.aload_n 0, 1) := zo_42 (zby_w zwX9_goCape_0 14 rfl)
theorem d_X9_goCape_15 : decode cX9_goCape 15 = .ok (.getfield 7, 3) := zo_180 (a := 0) (b := 7) (zby_w zwX9_goCape_0 15 rfl) (zby_w zwX9_goCape_0 16 rfl) (zby_w zwX9_goCape_0 17 rfl) (by decide)
theorem d_X9_goCape_18 : decode cX9_goCape 18 = .ok (.iload_n 1, 1) := zo_27 (zby_w zwX9_goCape_0 18 rfl)
theorem d_X9_goCape_19 : decode cX9_goCape 19 = .ok (.iaload, 1) := zo_46 (zby_w zwX9_goCape_0 19 rfl)
theorem d_X9_goCape_20 : decode cX9_goCape 20 = .ok (.imul, 1) := zo_104 (zby_w zwX9_goCape_0 20 rfl)
theorem d_X9_goCape_21 : decode cX9_goCape 21 = .ok (.iadd, 1) := zo_96 (zby_w zwX9_goCape_0 21 rfl)
theorem d_X9_goCape_22 : decode cX9_goCape 22 = .ok (.putfield 166, 3) := zo_181 (a := 0) (b := 166) (zby_w zwX9_goCape_0 22 rfl) (zby_w zwX9_goCape_0 23 rfl) (zby_w zwX9_goCape_0 24 rfl) (by decide)
theorem d_X9_goCape_25 : decode cX9_goCape 25 = .ok (.aload_n 0, 1) := zo_42 (zby_w zwX9_goCape_0 25 rfl)
theorem d_X9_goCape_26 : decode cX9_goCape 26 = .ok (.getfield 19, 3) := zo_180 (a := 0) (b := 19) (zby_w zwX9_goCape_0 26 rfl) (zby_w zwX9_goCape_0 27 rfl) (zby_w zwX9_goCape_0 28 rfl) (by decide)
theorem d_X9_goCape_29 : decode cX9_goCape 29 = .ok (.iload_n 1, 1) := zo_27 (zby_w zwX9_goCape_0 29 rfl)
theorem d_X9_goCape_30 : decode cX9_goCape 30 = .ok (.iconst 1, 1) := zo_4 (zby_w zwX9_goCape_0 30 rfl)
theorem d_X9_goCape_31 : decode cX9_goCape 31 = .ok (.iastore, 1) := zo_79 (zby_w zwX9_goCape_0 31 rfl)
theorem d_X9_goCape_32 : decode cX9_goCape 32 = .ok (.return_, 1) := zo_177 (zby_w zwX9_goCape_1 0 rfl)
theorem d_X9_goSeason_0 : decode cX9_goSeason 0 = .ok (.aload_n 0, 1) := zo_42 (zby_w zwX9_goSeason_0 0 rfl)
theorem d_X9_goSeason_1 : decode cX9_goSeason 1 = .ok (.bipush (-6), 2) := zo_16 (a := 250) (zby_w zwX9_goSeason_0 1 rfl) (zby_w zwX9_goSeason_0 2 rfl) (by decide)
theorem d_X9_goSeason_3 : decode cX9_goSeason 3 = .ok (.putfield 175, 3) := zo_181 (a := 0) (b := 175) (zby_w zwX9_goSeason_0 3 rfl) (zby_w zwX9_goSeason_0 4 rfl) (zby_w zwX9_goSeason_0 5 rfl) (by decide)
theorem d_X9_goSeason_6 : decode cX9_goSeason 6 = .ok (.aload_n 0, 1) := zo_42 (zby_w zwX9_goSeason_0 6 rfl)
theorem d_X9_goSeason_7 : decode cX9_goSeason 7 = .ok (.bipush (-6), 2) := zo_16 (a := 250) (zby_w zwX9_goSeason_0 7 rfl) (zby_w zwX9_goSeason_0 8 rfl) (by decide)
theorem d_X9_goSeason_9 : decode cX9_goSeason 9 = .ok (.putfield 169, 3) := zo_181 (a := 0) (b := 169) (zby_w zwX9_goSeason_0 9 rfl) (zby_w zwX9_goSeason_0 10 rfl) (zby_w zwX9_goSeason_0 11 rfl) (by decide)
theorem d_X9_goSeason_12 : decode cX9_goSeason 12 = .ok (.aload_n 0, 1) := zo_42 (zby_w zwX9_goSeason_0 12 rfl)
theorem d_X9_goSeason_13 : decode cX9_goSeason 13 = .ok (.iconst 0, 1) := zo_3 (zby_w zwX9_goSeason_0 13 rfl)
theorem d_X9_goSeason_14 : decode cX9_goSeason 14 = .ok (.putfield 172, 3) := zo_181 (a := 0) (b := 172) (zby_w zwX9_goSeason_0 14 rfl) (zby_w zwX9_goSeason_0 15 rfl) (zby_w zwX9_goSeason_0 16 rfl) (by decide)
theorem d_X9_goSeason_17 : decode cX9_goSeason 17 = .ok (.iconst 0, 1) := zo_3 (zby_w zwX9_goSeason_0 17 rfl)
theorem d_X9_goSeason_18 : decode cX9_goSeason 18 = .ok (.istore_n 1, 1) := zo_60 (zby_w zwX9_goSeason_0 18 rfl)
theorem d_X9_goSeason_19 : decode cX9_goSeason 19 = .ok (.iconst 0, 1) := zo_3 (zby_w zwX9_goSeason_0 19 rfl)
theorem d_X9_goSeason_20 : decode cX9_goSeason 20 = .ok (.istore_n 2, 1) := zo_61 (zby_w zwX9_goSeason_0 20 rfl)
theorem d_X9_goSeason_21 : decode cX9_goSeason 21 = .ok (.iload_n 2, 1) := zo_28 (zby_w zwX9_goSeason_0 21 rfl)
theorem d_X9_goSeason_22 : decode cX9_goSeason 22 = .ok (.aload_n 0, 1) := zo_42 (zby_w zwX9_goSeason_0 22 rfl)
theorem d_X9_goSeason_23 : decode cX9_goSeason 23 = .ok (.getfield 130, 3) := zo_180 (a := 0) (b := 130) (zby_w zwX9_goSeason_0 23 rfl) (zby_w zwX9_goSeason_0 24 rfl) (zby_w zwX9_goSeason_0 25 rfl) (by decide)
theorem d_X9_goSeason_26 : decode cX9_goSeason 26 = .ok (.if_icmp .ge 68, 3) := zo_162 (a := 0) (b := 68) (zby_w zwX9_goSeason_0 26 rfl) (zby_w zwX9_goSeason_0 27 rfl) (zby_w zwX9_goSeason_0 28 rfl) (by decide)
theorem d_X9_goSeason_29 : decode cX9_goSeason 29 = .ok (.aload_n 0, 1) := zo_42 (zby_w zwX9_goSeason_0 29 rfl)
theorem d_X9_goSeason_30 : decode cX9_goSeason 30 = .ok (.getfield 175, 3) := zo_180 (a := 0) (b := 175) (zby_w zwX9_goSeason_0 30 rfl) (zby_w zwX9_goSeason_0 31 rfl) (zby_w zwX9_goSeason_0 32 rfl) (by decide)
theorem d_X9_goSeason_33 : decode cX9_goSeason 33 = .ok (.ifCond .ge 61, 3) := zo_156 (a := 0) (b := 61) (zby_w zwX9_goSeason_1 1 rfl) (zby_w zwX9_goSeason_1 2 rfl) (zby_w zwX9_goSeason_1 3 rfl) (by decide)
theorem d_X9_goSeason_36 : decode cX9_goSeason 36 = .ok (.aload_n 0, 1) := zo_42 (zby_w zwX9_goSeason_1 4 rfl)
theorem d_X9_goSeason_37 : decode cX9_goSeason 37 = .ok (.getfield 40, 3) := zo_180 (a := 0) (b := 40) (zby_w zwX9_goSeason_1 5 rfl) (zby_w zwX9_goSeason_1 6 rfl) (zby_w zwX9_goSeason_1 7 rfl) (by decide)
theorem d_X9_goSeason_40 : decode cX9_goSeason 40 = .ok (.iload_n 2, 1) := zo_28 (zby_w zwX9_goSeason_1 8 rfl)
theorem d_X9_goSeason_41 : decode cX9_goSeason 41 = .ok (.iaload, 1) := zo_46 (zby_w zwX9_goSeason_1 9 rfl)
theorem d_X9_goSeason_42 : decode cX9_goSeason 42 = .ok (.bipush 46, 2) := zo_16 (a := 46) (zby_w zwX9_goSeason_1 10 rfl) (zby_w zwX9_goSeason_1 11 rfl) (by decide)
theorem d_X9_goSeason_44 : decode cX9_goSeason 44 = .ok (.if_icmp .ne 9, 3) := zo_160 (a := 0) (b := 9) (zby_w zwX9_goSeason_1 12 rfl) (zby_w zwX9_goSeason_1 13 rfl) (zby_w zwX9_goSeason_1 14 rfl) (by decide)
theorem d_X9_goSeason_47 : decode cX9_goSeason 47 = .ok (.iinc 1 1, 3) := by decide +kernel
theorem d_X9_goSeason_50 : decode cX9_goSeason 50 = .ok (.goto 28, 3) := zo_167 (a := 0) (b := 28) (zby_w zwX9_goSeason_1 18 rfl) (zby_w zwX9_goSeason_1 19 rfl) (zby_w zwX9_goSeason_1 20 rfl) (by decide)
theorem d_X9_goSeason_53 : decode cX9_goSeason 53 = .ok (.aload_n 0, 1) := zo_42 (zby_w zwX9_goSeason_1 21 rfl)
theorem d_X9_goSeason_54 : decode cX9_goSeason 54 = .ok (.aload_n 0, 1) := zo_42 (zby_w zwX9_goSeason_1 22 rfl)
theorem d_X9_goSeason_55 : decode cX9_goSeason 55 = .ok (.getfield 40, 3) := zo_180 (a := 0) (b := 40) (zby_w zwX9_goSeason_1 23 rfl) (zby_w zwX9_goSeason_1 24 rfl) (zby_w zwX9_goSeason_1 25 rfl) (by decide)
theorem d_X9_goSeason_58 : decode cX9_goSeason 58 = .ok (.iload_n 2, 1) := zo_28 (zby_w zwX9_goSeason_1 26 rfl)
theorem d_X9_goSeason_59 : decode cX9_goSeason 59 = .ok (.iaload, 1) := zo_46 (zby_w zwX9_goSeason_1 27 rfl)
theorem d_X9_goSeason_60 : decode cX9_goSeason 60 = .ok (.bipush 65, 2) := zo_16 (a := 65) (zby_w zwX9_goSeason_1 28 rfl) (zby_w zwX9_goSeason_1 29 rfl) (by decide)
theorem d_X9_goSeason_62 : decode cX9_goSeason 62 = .ok (.isub, 1) := zo_100 (zby_w zwX9_goSeason_1 30 rfl)
theorem d_X9_goSeason_63 : decode cX9_goSeason 63 = .ok (.aload_n 0, 1) := zo_42 (zby_w zwX9_goSeason_1 31 rfl)
theorem d_X9_goSeason_64 : decode cX9_goSeason 64 = .ok (.getfield 40, 3) := zo_180 (a := 0) (b := 40) (zby_w zwX9_goSeason_2 0 rfl) (zby_w zwX9_goSeason_2 1 rfl) (zby_w zwX9_goSeason_2 2 rfl) (by decide)
theorem d_X9_goSeason_67 : decode cX9_goSeason 67 = .ok (.iload_n 2, 1) := zo_28 (zby_w zwX9_goSeason_2 3 rfl)
theorem d_X9_goSeason_68 : decode cX9_goSeason 68 = .ok (.iconst 1, 1) := zo_4 (zby_w zwX9_goSeason_2 4 rfl)
theorem d_X9_goSeason_69 : decode cX9_goSeason 69 = .ok (.iadd, 1) := zo_96 (zby_w zwX9_goSeason_2 5 rfl)
theorem d_X9_goSeason_70 : decode cX9_goSeason 70 = .ok (.iaload, 1) := zo_46 (zby_w zwX9_goSeason_2 6 rfl)
theorem d_X9_goSeason_71 : decode cX9_goSeason 71 = .ok (.iload_n 1, 1) := zo_27 (zby_w zwX9_goSeason_2 7 rfl)
theorem d_X9_goSeason_72 : decode cX9_goSeason 72 = .ok (.invokevirtual 189, 3) := zo_182 (a := 0) (b := 189) (zby_w zwX9_goSeason_2 8 rfl) (zby_w zwX9_goSeason_2 9 rfl) (zby_w zwX9_goSeason_2 10 rfl) (by decide)
theorem d_X9_goSeason_75 : decode cX9_goSeason 75 = .ok (.iinc 2 1, 3) := by decide +kernel
theorem d_X9_goSeason_78 : decode cX9_goSeason 78 = .ok (.aload_n 0, 1) := zo_42 (zby_w zwX9_goSeason_2 14 rfl)
theorem d_X9_goSeason_79 : decode cX9_goSeason 79 = .ok (.dup, 1) := zo_89 (zby_w zwX9_goSeason_2 15 rfl)
theorem d_X9_goSeason_80 : decode cX9_goSeason 80 = .ok (.getfield 172, 3) := zo_180 (a := 0) (b := 172) (zby_w zwX9_goSeason_2 16 rfl) (zby_w zwX9_goSeason_2 17 rfl) (zby_w zwX9_goSeason_2 18 rfl) (by decide)
theorem d_X9_goSeason_83 : decode cX9_goSeason 83 = .ok (.iconst 1, 1) := zo_4 (zby_w zwX9_goSeason_2 19 rfl)
theorem d_X9_goSeason_84 : decode cX9_goSeason 84 = .ok (.iadd, 1) := zo_96 (zby_w zwX9_goSeason_2 20 rfl)
theorem d_X9_goSeason_85 : decode cX9_goSeason 85 = .ok (.putfield 172, 3) := zo_181 (a := 0) (b := 172) (zby_w zwX9_goSeason_2 21 rfl) (zby_w zwX9_goSeason_2 22 rfl) (zby_w zwX9_goSeason_2 23 rfl) (by decide)
theorem d_X9_goSeason_88 : decode cX9_goSeason 88 = .ok (.iinc 2 1, 3) := by decide +kernel
theorem d_X9_goSeason_91 : decode cX9_goSeason 91 = .ok (.goto (-70), 3) := zo_167 (a := 255) (b := 186) (zby_w zwX9_goSeason_2 27 rfl) (zby_w zwX9_goSeason_2 28 rfl) (zby_w zwX9_goSeason_2 29 rfl) (by decide)
theorem d_X9_goSeason_94 : decode cX9_goSeason 94 = .ok (.return_, 1) := zo_177 (zby_w zwX9_goSeason_2 30 rfl)
theorem d_X9_goTeeth_0 : decode cX9_goTeeth 0 = .ok (.aload_n 0, 1) := zo_42 (zby_w zwX9_goTeeth_0 0 rfl)
theorem d_X9_goTeeth_1 : decode cX9_goTeeth 1 = .ok (.iload_n 1, 1) := zo_27 (zby_w zwX9_goTeeth_0 1 rfl)
theorem d_X9_goTeeth_2 : decode cX9_goTeeth 2 = .ok (.invokevirtual 148, 3) := zo_182 (a := 0) (b := 148) (zby_w zwX9_goTeeth_0 2 rfl) (zby_w zwX9_goTeeth_0 3 rfl) (zby_w zwX9_goTeeth_0 4 rfl) (by decide)
theorem d_X9_goTeeth_5 : decode cX9_goTeeth 5 = .ok (.istore_n 2, 1) := zo_61 (zby_w zwX9_goTeeth_0 5 rfl)
theorem d_X9_goTeeth_6 : decode cX9_goTeeth 6 = .ok (.aload_n 0, 1) := zo_42 (zby_w zwX9_goTeeth_0 6 rfl)
theorem d_X9_goTeeth_7 : decode cX9_goTeeth 7 = .ok (.getfield 13, 3) := zo_180 (a := 0) (b := 13) (zby_w zwX9_goTeeth_0 7 rfl) (zby_w zwX9_goTeeth_0 8 rfl) (zby_w zwX9_goTeeth_0 9 rfl) (by decide)
theorem d_X9_goTeeth_10 : decode cX9_goTeeth 10 = .ok (.iload_n 1, 1) := zo_27 (zby_w zwX9_goTeeth_0 10 rfl)
theorem d_X9_goTeeth_11 : decode cX9_goTeeth 11 = .ok (.aload_n 0, 1) := zo_42 (zby_w zwX9_goTeeth_0 11 rfl)
theorem d_X9_goTeeth_12 : decode cX9_goTeeth 12 = .ok (.getfield 13, 3) := zo_180 (a := 0) (b := 13) (zby_w zwX9_goTeeth_0 12 rfl) (zby_w zwX9_goTeeth_0 13 rfl) (zby_w zwX9_goTeeth_0 14 rfl) (by decide)
theorem d_X9_goTeeth_15 : decode cX9_goTeeth 15 = .ok (.iload_n 1, 1) := zo_27 (zby_w zwX9_goTeeth_0 15 rfl)
theorem d_X9_goTeeth_16 : decode cX9_goTeeth 16 = .ok (.iaload, 1) := zo_46 (zby_w zwX9_goTeeth_0 16 rfl)
theorem d_X9_goTeeth_17 : decode cX9_goTeeth 17 = .ok (.aload_n 0, 1) := zo_42 (zby_w zwX9_goTeeth_0 17 rfl)
theorem d_X9_goTeeth_18 : decode cX9_goTeeth 18 = .ok (.getfield 62, 3) := zo_180 (a := 0) (b := 62) (zby_w zwX9_goTeeth_0 18 rfl) (zby_w zwX9_goTeeth_0 19 rfl) (zby_w zwX9_goTeeth_0 20 rfl) (by decide)
theorem d_X9_goTeeth_21 : decode cX9_goTeeth 21 = .ok (.if_icmp .le 17, 3) := zo_164 (a := 0) (b := 17) (zby_w zwX9_goTeeth_0 21 rfl) (zby_w zwX9_goTeeth_0 22 rfl) (zby_w zwX9_goTeeth_0 23 rfl) (by decide)
theorem d_X9_goTeeth_24 : decode cX9_goTeeth 24 = .ok (.aload_n 0, 1) := zo_42 (zby_w zwX9_goTeeth_0 24 rfl)
theorem d_X9_goTeeth_25 : decode cX9_goTeeth 25 = .ok (.getfield 13, 3) := zo_180 (a := 0) (b := 13) (zby_w zwX9_goTeeth_0 25 rfl) (zby_w zwX9_goTeeth_0 26 rfl) (zby_w zwX9_goTeeth_0 27 rfl) (by decide)
theorem d_X9_goTeeth_28 : decode cX9_goTeeth 28 = .ok (.iload_n 1, 1) := zo_27 (zby_w zwX9_goTeeth_0 28 rfl)
theorem d_X9_goTeeth_29 : decode cX9_goTeeth 29 = .ok (.iaload, 1) := zo_46 (zby_w zwX9_goTeeth_0 29 rfl)
theorem d_X9_goTeeth_30 : decode cX9_goTeeth 30 = .ok (.aload_n 0, 1) := zo_42 (zby_w zwX9_goTeeth_0 30 rfl)
theorem d_X9_goTeeth_31 : decode cX9_goTeeth 31 = .ok (.getfield 62, 3) := zo_180 (a := 0) (b := 62) (zby_w zwX9_goTeeth_0 31 rfl) (zby_w zwX9_goTeeth_0 32 rfl) (zby_w zwX9_goTeeth_0 33 rfl) (by decide)
theorem d_X9_goTeeth_34 : decode cX9_goTeeth 34 = .ok (.isub, 1) := zo_100 (zby_w zwX9_goTeeth_1 2 rfl)
theorem d_X9_goTeeth_35 : decode cX9_goTeeth 35 = .ok (.goto 4, 3) := zo_167 (a := 0) (b := 4) (zby_w zwX9_goTeeth_1 3 rfl) (zby_w zwX9_goTeeth_1 4 rfl) (zby_w zwX9_goTeeth_1 5 rfl) (by decide)
theorem d_X9_goTeeth_38 : decode cX9_goTeeth 38 = .ok (.iconst 0, 1) := zo_3 (zby_w zwX9_goTeeth_1 6 rfl)
theorem d_X9_goTeeth_39 : decode cX9_goTeeth 39 = .ok (.iastore, 1) := zo_79 (zby_w zwX9_goTeeth_1 7 rfl)
theorem d_X9_goTeeth_40 : decode cX9_goTeeth 40 = .ok (.aload_n 0, 1) := zo_42 (zby_w zwX9_goTeeth_1 8 rfl)
theorem d_X9_goTeeth_41 : decode cX9_goTeeth 41 = .ok (.getfield 7, 3) := zo_180 (a := 0) (b := 7) (zby_w zwX9_goTeeth_1 9 rfl) (zby_w zwX9_goTeeth_1 10 rfl) (zby_w zwX9_goTeeth_1 11 rfl) (by decide)
theorem d_X9_goTeeth_44 : decode cX9_goTeeth 44 = .ok (.iload_n 1, 1) := zo_27 (zby_w zwX9_goTeeth_1 12 rfl)
theorem d_X9_goTeeth_45 : decode cX9_goTeeth 45 = .ok (.dup2, 1) := zo_92 (zby_w zwX9_goTeeth_1 13 rfl)
theorem d_X9_goTeeth_46 : decode cX9_goTeeth 46 = .ok (.iaload, 1) := zo_46 (zby_w zwX9_goTeeth_1 14 rfl)
theorem d_X9_goTeeth_47 : decode cX9_goTeeth 47 = .ok (.iload_n 2, 1) := zo_28 (zby_w zwX9_goTeeth_1 15 rfl)
theorem d_X9_goTeeth_48 : decode cX9_goTeeth 48 = .ok (.isub, 1) := zo_100 (zby_w zwX9_goTeeth_1 16 rfl)
theorem d_X9_goTeeth_49 : decode cX9_goTeeth 49 = .ok (.iastore, 1) := zo_79 (zby_w zwX9_goTeeth_1 17 rfl)
theorem d_X9_goTeeth_50 : decode cX9_goTeeth 50 = .ok (.aload_n 0, 1) := zo_42 (zby_w zwX9_goTeeth_1 18 rfl)
theorem d_X9_goTeeth_51 : decode cX9_goTeeth 51 = .ok (.dup, 1) := zo_89 (zby_w zwX9_goTeeth_1 19 rfl)
theorem d_X9_goTeeth_52 : decode cX9_goTeeth 52 = .ok (.getfield 151, 3) := zo_180 (a := 0) (b := 151) (zby_w zwX9_goTeeth_1 20 rfl) (zby_w zwX9_goTeeth_1 21 rfl) (zby_w zwX9_goTeeth_1 22 rfl) (by decide)
theorem d_X9_goTeeth_55 : decode cX9_goTeeth 55 = .ok (.iload_n 2, 1) := zo_28 (zby_w zwX9_goTeeth_1 23 rfl)
theorem d_X9_goTeeth_56 : decode cX9_goTeeth 56 = .ok (.iadd, 1) := zo_96 (zby_w zwX9_goTeeth_1 24 rfl)
theorem d_X9_goTeeth_57 : decode cX9_goTeeth 57 = .ok (.putfield 151, 3) := zo_181 (a := 0) (b := 151) (zby_w zwX9_goTeeth_1 25 rfl) (zby_w zwX9_goTeeth_1 26 rfl) (zby_w zwX9_goTeeth_1 27 rfl) (by decide)
theorem d_X9_goTeeth_60 : decode cX9_goTeeth 60 = .ok (.aload_n 0, 1) := zo_42 (zby_w zwX9_goTeeth_1 28 rfl)
theorem d_X9_goTeeth_61 : decode cX9_goTeeth 61 = .ok (.getfield 19, 3) := zo_180 (a := 0) (b := 19) (zby_w zwX9_goTeeth_1 29 rfl) (zby_w zwX9_goTeeth_1 30 rfl) (zby_w zwX9_goTeeth_1 31 rfl) (by decide)
theorem d_X9_goTeeth_64 : decode cX9_goTeeth 64 = .ok (.iload_n 1, 1) := zo_27 (zby_w zwX9_goTeeth_2 0 rfl)
theorem d_X9_goTeeth_65 : decode cX9_goTeeth 65 = .ok (.aload_n 0, 1) := zo_42 (zby_w zwX9_goTeeth_2 1 rfl)
theorem d_X9_goTeeth_66 : decode cX9_goTeeth 66 = .ok (.getfield 7, 3) := zo_180 (a := 0) (b := 7) (zby_w zwX9_goTeeth_2 2 rfl) (zby_w zwX9_goTeeth_2 3 rfl) (zby_w zwX9_goTeeth_2 4 rfl) (by decide)
theorem d_X9_goTeeth_69 : decode cX9_goTeeth 69 = .ok (.iload_n 1, 1) := zo_27 (zby_w zwX9_goTeeth_2 5 rfl)
theorem d_X9_goTeeth_70 : decode cX9_goTeeth 70 = .ok (.iaload, 1) := zo_46 (zby_w zwX9_goTeeth_2 6 rfl)
theorem d_X9_goTeeth_71 : decode cX9_goTeeth 71 = .ok (.ifCond .ne 7, 3) := zo_154 (a := 0) (b := 7) (zby_w zwX9_goTeeth_2 7 rfl) (zby_w zwX9_goTeeth_2 8 rfl) (zby_w zwX9_goTeeth_2 9 rfl) (by decide)
theorem d_X9_goTeeth_74 : decode cX9_goTeeth 74 = .ok (.iconst 2, 1) := zo_5 (zby_w zwX9_goTeeth_2 10 rfl)
theorem d_X9_goTeeth_75 : decode cX9_goTeeth 75 = .ok (.goto 4, 3) := zo_167 (a := 0) (b := 4) (zby_w zwX9_goTeeth_2 11 rfl) (zby_w zwX9_goTeeth_2 12 rfl) (zby_w zwX9_goTeeth_2 13 rfl) (by decide)
theorem d_X9_goTeeth_78 : decode cX9_goTeeth 78 = .ok (.iconst 1, 1) := zo_4 (zby_w zwX9_goTeeth_2 14 rfl)
theorem d_X9_goTeeth_79 : decode cX9_goTeeth 79 = .ok (.iastore, 1) := zo_79 (zby_w zwX9_goTeeth_2 15 rfl)
theorem d_X9_goTeeth_80 : decode cX9_goTeeth 80 = .ok (.aload_n 0, 1) := zo_42 (zby_w zwX9_goTeeth_2 16 rfl)
theorem d_X9_goTeeth_81 : decode cX9_goTeeth 81 = .ok (.dup, 1) := zo_89 (zby_w zwX9_goTeeth_2 17 rfl)
theorem d_X9_goTeeth_82 : decode cX9_goTeeth 82 = .ok (.getfield 154, 3) := zo_180 (a := 0) (b := 154) (zby_w zwX9_goTeeth_2 18 rfl) (zby_w zwX9_goTeeth_2 19 rfl) (zby_w zwX9_goTeeth_2 20 rfl) (by decide)
theorem d_X9_goTeeth_85 : decode cX9_goTeeth 85 = .ok (.aload_n 0, 1) := zo_42 (zby_w zwX9_goTeeth_2 21 rfl)
theorem d_X9_goTeeth_86 : decode cX9_goTeeth 86 = .ok (.getfield 7, 3) := zo_180 (a := 0) (b := 7) (zby_w zwX9_goTeeth_2 22 rfl) (zby_w zwX9_goTeeth_2 23 rfl) (zby_w zwX9_goTeeth_2 24 rfl) (by decide)
theorem d_X9_goTeeth_89 : decode cX9_goTeeth 89 = .ok (.iload_n 1, 1) := zo_27 (zby_w zwX9_goTeeth_2 25 rfl)
theorem d_X9_goTeeth_90 : decode cX9_goTeeth 90 = .ok (.iaload, 1) := zo_46 (zby_w zwX9_goTeeth_2 26 rfl)
theorem d_X9_goTeeth_91 : decode cX9_goTeeth 91 = .ok (.ifCond .ne 12, 3) := zo_154 (a := 0) (b := 12) (zby_w zwX9_goTeeth_2 27 rfl) (zby_w zwX9_goTeeth_2 28 rfl) (zby_w zwX9_goTeeth_2 29 rfl) (by decide)
theorem d_X9_goTeeth_94 : decode cX9_goTeeth 94 = .ok (.aload_n 0, 1) := zo_42 (zby_w zwX9_goTeeth_2 30 rfl)
theorem d_X9_goTeeth_95 : decode cX9_goTeeth 95 = .ok (.getfield 16, 3) := zo_180 (a := 0) (b := 16) (zby_w zwX9_goTeeth_2 31 rfl) (zby_w zwX9_goTeeth_2 32 rfl) (zby_w zwX9_goTeeth_2 33 rfl) (by decide)
theorem d_X9_goTeeth_98 : decode cX9_goTeeth 98 = .ok (.iload_n 1, 1) := zo_27 (zby_w zwX9_goTeeth_3 2 rfl)
theorem d_X9_goTeeth_99 : decode cX9_goTeeth 99 = .ok (.iaload, 1) := zo_46 (zby_w zwX9_goTeeth_3 3 rfl)
theorem d_X9_goTeeth_100 : decode cX9_goTeeth 100 = .ok (.goto 4, 3) := zo_167 (a := 0) (b := 4) (zby_w zwX9_goTeeth_3 4 rfl) (zby_w zwX9_goTeeth_3 5 rfl) (zby_w zwX9_goTeeth_3 6 rfl) (by decide)
theorem d_X9_goTeeth_103 : decode cX9_goTeeth 103 = .ok (.iconst 0, 1) := zo_3 (zby_w zwX9_goTeeth_3 7 rfl)
theorem d_X9_goTeeth_104 : decode cX9_goTeeth 104 = .ok (.iadd, 1) := zo_96 (zby_w zwX9_goTeeth_3 8 rfl)
theorem d_X9_goTeeth_105 : decode cX9_goTeeth 105 = .ok (.putfield 154, 3) := zo_181 (a := 0) (b := 154) (zby_w zwX9_goTeeth_3 9 rfl) (zby_w zwX9_goTeeth_3 10 rfl) (zby_w zwX9_goTeeth_3 11 rfl) (by decide)
theorem d_X9_goTeeth_108 : decode cX9_goTeeth 108 = .ok (.aload_n 0, 1) := zo_42 (zby_w zwX9_goTeeth_3 12 rfl)
theorem d_X9_goTeeth_109 : decode cX9_goTeeth 109 = .ok (.getfield 16, 3) := zo_180 (a := 0) (b := 16) (zby_w zwX9_goTeeth_3 13 rfl) (zby_w zwX9_goTeeth_3 14 rfl) (zby_w zwX9_goTeeth_3 15 rfl) (by decide)
theorem d_X9_goTeeth_112 : decode cX9_goTeeth 112 = .ok (.iload_n 1, 1) := zo_27 (zby_w zwX9_goTeeth_3 16 rfl)
theorem d_X9_goTeeth_113 : decode cX9_goTeeth 113 = .ok (.aload_n 0, 1) := zo_42 (zby_w zwX9_goTeeth_3 17 rfl)
theorem d_X9_goTeeth_114 : decode cX9_goTeeth 114 = .ok (.getfield 7, 3) := zo_180 (a := 0) (b := 7) (zby_w zwX9_goTeeth_3 18 rfl) (zby_w zwX9_goTeeth_3 19 rfl) (zby_w zwX9_goTeeth_3 20 rfl) (by decide)
theorem d_X9_goTeeth_117 : decode cX9_goTeeth 117 = .ok (.iload_n 1, 1) := zo_27 (zby_w zwX9_goTeeth_3 21 rfl)
theorem d_X9_goTeeth_118 : decode cX9_goTeeth 118 = .ok (.iaload, 1) := zo_46 (zby_w zwX9_goTeeth_3 22 rfl)
theorem d_X9_goTeeth_119 : decode cX9_goTeeth 119 = .ok (.ifCond .ne 7, 3) := zo_154 (a := 0) (b := 7) (zby_w zwX9_goTeeth_3 23 rfl) (zby_w zwX9_goTeeth_3 24 rfl) (zby_w zwX9_goTeeth_3 25 rfl) (by decide)
theorem d_X9_goTeeth_122 : decode cX9_goTeeth 122 = .ok (.iconst 0, 1) := zo_3 (zby_w zwX9_goTeeth_3 26 rfl)
theorem d_X9_goTeeth_123 : decode cX9_goTeeth 123 = .ok (.goto 9, 3) := zo_167 (a := 0) (b := 9) (zby_w zwX9_goTeeth_3 27 rfl) (zby_w zwX9_goTeeth_3 28 rfl) (zby_w zwX9_goTeeth_3 29 rfl) (by decide)
theorem d_X9_goTeeth_126 : decode cX9_goTeeth 126 = .ok (.aload_n 0, 1) := zo_42 (zby_w zwX9_goTeeth_3 30 rfl)
theorem d_X9_goTeeth_127 : decode cX9_goTeeth 127 = .ok (.getfield 16, 3) := zo_180 (a := 0) (b := 16) (zby_w zwX9_goTeeth_3 31 rfl) (zby_w zwX9_goTeeth_3 32 rfl) (zby_w zwX9_goTeeth_3 33 rfl) (by decide)
theorem d_X9_goTeeth_130 : decode cX9_goTeeth 130 = .ok (.iload_n 1, 1) := zo_27 (zby_w zwX9_goTeeth_4 2 rfl)
theorem d_X9_goTeeth_131 : decode cX9_goTeeth 131 = .ok (.iaload, 1) := zo_46 (zby_w zwX9_goTeeth_4 3 rfl)
theorem d_X9_goTeeth_132 : decode cX9_goTeeth 132 = .ok (.iastore, 1) := zo_79 (zby_w zwX9_goTeeth_4 4 rfl)
theorem d_X9_goTeeth_133 : decode cX9_goTeeth 133 = .ok (.return_, 1) := zo_177 (zby_w zwX9_goTeeth_4 5 rfl)
theorem d_X9_goWhirl_0 : decode cX9_goWhirl 0 = .ok (.aload_n 0, 1) := zo_42 (zby_w zwX9_goWhirl_0 0 rfl)
theorem d_X9_goWhirl_1 : decode cX9_goWhirl 1 = .ok (.ldc2_w 157, 3) := zo_20 (a := 0) (b := 157) (zby_w zwX9_goWhirl_0 1 rfl) (zby_w zwX9_goWhirl_0 2 rfl) (zby_w zwX9_goWhirl_0 3 rfl) (by decide)
theorem d_X9_goWhirl_4 : decode cX9_goWhirl 4 = .ok (.aload_n 0, 1) := zo_42 (zby_w zwX9_goWhirl_0 4 rfl)
theorem d_X9_goWhirl_5 : decode cX9_goWhirl 5 = .ok (.getfield 81, 3) := zo_180 (a := 0) (b := 81) (zby_w zwX9_goWhirl_0 5 rfl) (zby_w zwX9_goWhirl_0 6 rfl) (zby_w zwX9_goWhirl_0 7 rfl) (by decide)
theorem d_X9_goWhirl_8 : decode cX9_goWhirl 8 = .ok (.i2l, 1) := zo_133 (zby_w zwX9_goWhirl_0 8 rfl)
theorem d_X9_goWhirl_9 : decode cX9_goWhirl 9 = .ok (.lmul, 1) := zo_105 (zby_w zwX9_goWhirl_0 9 rfl)
theorem d_X9_goWhirl_10 : decode cX9_goWhirl 10 = .ok (.ldc2_w 159, 3) := zo_20 (a := 0) (b := 159) (zby_w zwX9_goWhirl_0 10 rfl) (zby_w zwX9_goWhirl_0 11 rfl) (zby_w zwX9_goWhirl_0 12 rfl) (by decide)
theorem d_X9_goWhirl_13 : decode cX9_goWhirl 13 = .ok (.ladd, 1) := zo_97 (zby_w zwX9_goWhirl_0 13 rfl)
theorem d_X9_goWhirl_14 : decode cX9_goWhirl 14 = .ok (.ldc2_w 161, 3) := zo_20 (a := 0) (b := 161) (zby_w zwX9_goWhirl_0 14 rfl) (zby_w zwX9_goWhirl_0 15 rfl) (zby_w zwX9_goWhirl_0 16 rfl) (by decide)
theorem d_X9_goWhirl_17 : decode cX9_goWhirl 17 = .ok (.lrem, 1) := zo_113 (zby_w zwX9_goWhirl_0 17 rfl)
theorem d_X9_goWhirl_18 : decode cX9_goWhirl 18 = .ok (.l2i, 1) := zo_136 (zby_w zwX9_goWhirl_0 18 rfl)
theorem d_X9_goWhirl_19 : decode cX9_goWhirl 19 = .ok (.putfield 81, 3) := zo_181 (a := 0) (b := 81) (zby_w zwX9_goWhirl_0 19 rfl) (zby_w zwX9_goWhirl_0 20 rfl) (zby_w zwX9_goWhirl_0 21 rfl) (by decide)
theorem d_X9_goWhirl_22 : decode cX9_goWhirl 22 = .ok (.aload_n 0, 1) := zo_42 (zby_w zwX9_goWhirl_0 22 rfl)
theorem d_X9_goWhirl_23 : decode cX9_goWhirl 23 = .ok (.getfield 81, 3) := zo_180 (a := 0) (b := 81) (zby_w zwX9_goWhirl_0 23 rfl) (zby_w zwX9_goWhirl_0 24 rfl) (zby_w zwX9_goWhirl_0 25 rfl) (by decide)
theorem d_X9_goWhirl_26 : decode cX9_goWhirl 26 = .ok (.bipush 10, 2) := zo_16 (a := 10) (zby_w zwX9_goWhirl_0 26 rfl) (zby_w zwX9_goWhirl_0 27 rfl) (by decide)
theorem d_X9_goWhirl_28 : decode cX9_goWhirl 28 = .ok (.irem, 1) := zo_112 (zby_w zwX9_goWhirl_0 28 rfl)
theorem d_X9_goWhirl_29 : decode cX9_goWhirl 29 = .ok (.aload_n 0, 1) := zo_42 (zby_w zwX9_goWhirl_0 29 rfl)
theorem d_X9_goWhirl_30 : decode cX9_goWhirl 30 = .ok (.iload_n 2, 1) := zo_28 (zby_w zwX9_goWhirl_0 30 rfl)
theorem d_X9_goWhirl_31 : decode cX9_goWhirl 31 = .ok (.invokevirtual 163, 3) := zo_182 (a := 0) (b := 163) (zby_w zwX9_goWhirl_0 31 rfl) (zby_w zwX9_goWhirl_0 32 rfl) (zby_w zwX9_goWhirl_0 33 rfl) (by decide)
theorem d_X9_goWhirl_34 : decode cX9_goWhirl 34 = .ok (.if_icmp .ge 7, 3) := zo_162 (a := 0) (b := 7) (zby_w zwX9_goWhirl_1 2 rfl) (zby_w zwX9_goWhirl_1 3 rfl) (zby_w zwX9_goWhirl_1 4 rfl) (by decide)
theorem d_X9_goWhirl_37 : decode cX9_goWhirl 37 = .ok (.iconst 1, 1) := zo_4 (zby_w zwX9_goWhirl_1 5 rfl)
theorem d_X9_goWhirl_38 : decode cX9_goWhirl 38 = .ok (.goto 4, 3) := zo_167 (a := 0) (b := 4) (zby_w zwX9_goWhirl_1 6 rfl) (zby_w zwX9_goWhirl_1 7 rfl) (zby_w zwX9_goWhirl_1 8 rfl) (by decide)
theorem d_X9_goWhirl_41 : decode cX9_goWhirl 41 = .ok (.iconst 0, 1) := zo_3 (zby_w zwX9_goWhirl_1 9 rfl)
theorem d_X9_goWhirl_42 : decode cX9_goWhirl 42 = .ok (.istore_n 3, 1) := zo_62 (zby_w zwX9_goWhirl_1 10 rfl)
theorem d_X9_goWhirl_43 : decode cX9_goWhirl 43 = .ok (.aload_n 0, 1) := zo_42 (zby_w zwX9_goWhirl_1 11 rfl)
theorem d_X9_goWhirl_44 : decode cX9_goWhirl 44 = .ok (.getfield 19, 3) := zo_180 (a := 0) (b := 19) (zby_w zwX9_goWhirl_1 12 rfl) (zby_w zwX9_goWhirl_1 13 rfl) (zby_w zwX9_goWhirl_1 14 rfl) (by decide)
theorem d_X9_goWhirl_47 : decode cX9_goWhirl 47 = .ok (.iload_n 1, 1) := zo_27 (zby_w zwX9_goWhirl_1 15 rfl)
theorem d_X9_goWhirl_48 : decode cX9_goWhirl 48 = .ok (.iload_n 3, 1) := zo_29 (zby_w zwX9_goWhirl_1 16 rfl)
theorem d_X9_goWhirl_49 : decode cX9_goWhirl 49 = .ok (.ifCond .eq 7, 3) := zo_153 (a := 0) (b := 7) (zby_w zwX9_goWhirl_1 17 rfl) (zby_w zwX9_goWhirl_1 18 rfl) (zby_w zwX9_goWhirl_1 19 rfl) (by decide)
theorem d_X9_goWhirl_52 : decode cX9_goWhirl 52 = .ok (.iconst 2, 1) := zo_5 (zby_w zwX9_goWhirl_1 20 rfl)
theorem d_X9_goWhirl_53 : decode cX9_goWhirl 53 = .ok (.goto 4, 3) := zo_167 (a := 0) (b := 4) (zby_w zwX9_goWhirl_1 21 rfl) (zby_w zwX9_goWhirl_1 22 rfl) (zby_w zwX9_goWhirl_1 23 rfl) (by decide)
theorem d_X9_goWhirl_56 : decode cX9_goWhirl 56 = .ok (.iconst 1, 1) := zo_4 (zby_w zwX9_goWhirl_1 24 rfl)
theorem d_X9_goWhirl_57 : decode cX9_goWhirl 57 = .ok (.iastore, 1) := zo_79 (zby_w zwX9_goWhirl_1 25 rfl)
theorem d_X9_goWhirl_58 : decode cX9_goWhirl 58 = .ok (.iload_n 3, 1) := zo_29 (zby_w zwX9_goWhirl_1 26 rfl)
theorem d_X9_goWhirl_59 : decode cX9_goWhirl 59 = .ok (.ifCond .eq 54, 3) := zo_153 (a := 0) (b := 54) (zby_w zwX9_goWhirl_1 27 rfl) (zby_w zwX9_goWhirl_1 28 rfl) (zby_w zwX9_goWhirl_1 29 rfl) (by decide)
theorem d_X9_goWhirl_62 : decode cX9_goWhirl 62 = .ok (.aload_n 0, 1) := zo_42 (zby_w zwX9_goWhirl_1 30 rfl)
theorem d_X9_goWhirl_63 : decode cX9_goWhirl 63 = .ok (.dup, 1) := zo_89 (zby_w zwX9_goWhirl_1 31 rfl)
theorem d_X9_goWhirl_64 : decode cX9_goWhirl 64 = .ok (.getfield 151, 3) := zo_180 (a := 0) (b := 151) (zby_w zwX9_goWhirl_2 0 rfl) (zby_w zwX9_goWhirl_2 1 rfl) (zby_w zwX9_goWhirl_2 2 rfl) (by decide)
theorem d_X9_goWhirl_67 : decode cX9_goWhirl 67 = .ok (.aload_n 0, 1) := zo_42 (zby_w zwX9_goWhirl_2 3 rfl)
theorem d_X9_goWhirl_68 : decode cX9_goWhirl 68 = .ok (.getfield 7, 3) := zo_180 (a := 0) (b := 7) (zby_w zwX9_goWhirl_2 4 rfl) (zby_w zwX9_goWhirl_2 5 rfl) (zby_w zwX9_goWhirl_2 6 rfl) (by decide)
theorem d_X9_goWhirl_71 : decode cX9_goWhirl 71 = .ok (.iload_n 1, 1) := zo_27 (zby_w zwX9_goWhirl_2 7 rfl)
theorem d_X9_goWhirl_72 : decode cX9_goWhirl 72 = .ok (.iaload, 1) := zo_46 (zby_w zwX9_goWhirl_2 8 rfl)
theorem d_X9_goWhirl_73 : decode cX9_goWhirl 73 = .ok (.iadd, 1) := zo_96 (zby_w zwX9_goWhirl_2 9 rfl)
theorem d_X9_goWhirl_74 : decode cX9_goWhirl 74 = .ok (.putfield 151, 3) := zo_181 (a := 0) (b := 151) (zby_w zwX9_goWhirl_2 10 rfl) (zby_w zwX9_goWhirl_2 11 rfl) (zby_w zwX9_goWhirl_2 12 rfl) (by decide)
theorem d_X9_goWhirl_77 : decode cX9_goWhirl 77 = .ok (.aload_n 0, 1) := zo_42 (zby_w zwX9_goWhirl_2 13 rfl)
theorem d_X9_goWhirl_78 : decode cX9_goWhirl 78 = .ok (.dup, 1) := zo_89 (zby_w zwX9_goWhirl_2 14 rfl)
theorem d_X9_goWhirl_79 : decode cX9_goWhirl 79 = .ok (.getfield 154, 3) := zo_180 (a := 0) (b := 154) (zby_w zwX9_goWhirl_2 15 rfl) (zby_w zwX9_goWhirl_2 16 rfl) (zby_w zwX9_goWhirl_2 17 rfl) (by decide)
theorem d_X9_goWhirl_82 : decode cX9_goWhirl 82 = .ok (.aload_n 0, 1) := zo_42 (zby_w zwX9_goWhirl_2 18 rfl)
theorem d_X9_goWhirl_83 : decode cX9_goWhirl 83 = .ok (.getfield 16, 3) := zo_180 (a := 0) (b := 16) (zby_w zwX9_goWhirl_2 19 rfl) (zby_w zwX9_goWhirl_2 20 rfl) (zby_w zwX9_goWhirl_2 21 rfl) (by decide)
theorem d_X9_goWhirl_86 : decode cX9_goWhirl 86 = .ok (.iload_n 1, 1) := zo_27 (zby_w zwX9_goWhirl_2 22 rfl)
theorem d_X9_goWhirl_87 : decode cX9_goWhirl 87 = .ok (.iaload, 1) := zo_46 (zby_w zwX9_goWhirl_2 23 rfl)
theorem d_X9_goWhirl_88 : decode cX9_goWhirl 88 = .ok (.iadd, 1) := zo_96 (zby_w zwX9_goWhirl_2 24 rfl)
theorem d_X9_goWhirl_89 : decode cX9_goWhirl 89 = .ok (.putfield 154, 3) := zo_181 (a := 0) (b := 154) (zby_w zwX9_goWhirl_2 25 rfl) (zby_w zwX9_goWhirl_2 26 rfl) (zby_w zwX9_goWhirl_2 27 rfl) (by decide)
theorem d_X9_goWhirl_92 : decode cX9_goWhirl 92 = .ok (.aload_n 0, 1) := zo_42 (zby_w zwX9_goWhirl_2 28 rfl)
theorem d_X9_goWhirl_93 : decode cX9_goWhirl 93 = .ok (.getfield 7, 3) := zo_180 (a := 0) (b := 7) (zby_w zwX9_goWhirl_2 29 rfl) (zby_w zwX9_goWhirl_2 30 rfl) (zby_w zwX9_goWhirl_2 31 rfl) (by decide)
theorem d_X9_goWhirl_96 : decode cX9_goWhirl 96 = .ok (.iload_n 1, 1) := zo_27 (zby_w zwX9_goWhirl_3 0 rfl)
theorem d_X9_goWhirl_97 : decode cX9_goWhirl 97 = .ok (.iconst 0, 1) := zo_3 (zby_w zwX9_goWhirl_3 1 rfl)
theorem d_X9_goWhirl_98 : decode cX9_goWhirl 98 = .ok (.iastore, 1) := zo_79 (zby_w zwX9_goWhirl_3 2 rfl)
theorem d_X9_goWhirl_99 : decode cX9_goWhirl 99 = .ok (.aload_n 0, 1) := zo_42 (zby_w zwX9_goWhirl_3 3 rfl)
theorem d_X9_goWhirl_100 : decode cX9_goWhirl 100 = .ok (.getfield 13, 3) := zo_180 (a := 0) (b := 13) (zby_w zwX9_goWhirl_3 4 rfl) (zby_w zwX9_goWhirl_3 5 rfl) (zby_w zwX9_goWhirl_3 6 rfl) (by decide)
theorem d_X9_goWhirl_103 : decode cX9_goWhirl 103 = .ok (.iload_n 1, 1) := zo_27 (zby_w zwX9_goWhirl_3 7 rfl)
theorem d_X9_goWhirl_104 : decode cX9_goWhirl 104 = .ok (.iconst 0, 1) := zo_3 (zby_w zwX9_goWhirl_3 8 rfl)
theorem d_X9_goWhirl_105 : decode cX9_goWhirl 105 = .ok (.iastore, 1) := zo_79 (zby_w zwX9_goWhirl_3 9 rfl)
theorem d_X9_goWhirl_106 : decode cX9_goWhirl 106 = .ok (.aload_n 0, 1) := zo_42 (zby_w zwX9_goWhirl_3 10 rfl)
theorem d_X9_goWhirl_107 : decode cX9_goWhirl 107 = .ok (.getfield 16, 3) := zo_180 (a := 0) (b := 16) (zby_w zwX9_goWhirl_3 11 rfl) (zby_w zwX9_goWhirl_3 12 rfl) (zby_w zwX9_goWhirl_3 13 rfl) (by decide)
theorem d_X9_goWhirl_110 : decode cX9_goWhirl 110 = .ok (.iload_n 1, 1) := zo_27 (zby_w zwX9_goWhirl_3 14 rfl)
theorem d_X9_goWhirl_111 : decode cX9_goWhirl 111 = .ok (.iconst 0, 1) := zo_3 (zby_w zwX9_goWhirl_3 15 rfl)
theorem d_X9_goWhirl_112 : decode cX9_goWhirl 112 = .ok (.iastore, 1) := zo_79 (zby_w zwX9_goWhirl_3 16 rfl)
theorem d_X9_goWhirl_113 : decode cX9_goWhirl 113 = .ok (.return_, 1) := zo_177 (zby_w zwX9_goWhirl_3 17 rfl)
theorem d_X9_got_0 : decode cX9_got 0 = .ok (.iconst 0, 1) := zo_3 (zby_w zwX9_got_0 0 rfl)
theorem d_X9_got_1 : decode cX9_got 1 = .ok (.istore_n 2, 1) := zo_61 (zby_w zwX9_got_0 1 rfl)
theorem d_X9_got_2 : decode cX9_got 2 = .ok (.iconst 0, 1) := zo_3 (zby_w zwX9_got_0 2 rfl)
theorem d_X9_got_3 : decode cX9_got 3 = .ok (.istore_n 3, 1) := zo_62 (zby_w zwX9_got_0 3 rfl)
theorem d_X9_got_4 : decode cX9_got 4 = .ok (.iload_n 3, 1) := zo_29 (zby_w zwX9_got_0 4 rfl)
theorem d_X9_got_5 : decode cX9_got 5 = .ok (.iconst 4, 1) := zo_7 (zby_w zwX9_got_0 5 rfl)
theorem d_X9_got_6 : decode cX9_got 6 = .ok (.if_icmp .ge 31, 3) := zo_162 (a := 0) (b := 31) (zby_w zwX9_got_0 6 rfl) (zby_w zwX9_got_0 7 rfl) (zby_w zwX9_got_0 8 rfl) (by decide)
theorem d_X9_got_9 : decode cX9_got 9 = .ok (.iload_n 2, 1) := zo_28 (zby_w zwX9_got_0 9 rfl)
theorem d_X9_got_10 : decode cX9_got 10 = .ok (.iload_n 1, 1) := zo_27 (zby_w zwX9_got_0 10 rfl)
theorem d_X9_got_11 : decode cX9_got 11 = .ok (.iload_n 3, 1) := zo_29 (zby_w zwX9_got_0 11 rfl)
theorem d_X9_got_12 : decode cX9_got 12 = .ok (.ishr, 1) := zo_122 (zby_w zwX9_got_0 12 rfl)
theorem d_X9_got_13 : decode cX9_got 13 = .ok (.iconst 1, 1) := zo_4 (zby_w zwX9_got_0 13 rfl)
theorem d_X9_got_14 : decode cX9_got 14 = .ok (.iand, 1) := zo_126 (zby_w zwX9_got_0 14 rfl)
theorem d_X9_got_15 : decode cX9_got 15 = .ok (.iconst 1, 1) := zo_4 (zby_w zwX9_got_0 15 rfl)
theorem d_X9_got_16 : decode cX9_got 16 = .ok (.if_icmp .ne 12, 3) := zo_160 (a := 0) (b := 12) (zby_w zwX9_got_0 16 rfl) (zby_w zwX9_got_0 17 rfl) (zby_w zwX9_got_0 18 rfl) (by decide)
theorem d_X9_got_19 : decode cX9_got 19 = .ok (.aload_n 0, 1) := zo_42 (zby_w zwX9_got_0 19 rfl)
theorem d_X9_got_20 : decode cX9_got 20 = .ok (.getfield 28, 3) := zo_180 (a := 0) (b := 28) (zby_w zwX9_got_0 20 rfl) (zby_w zwX9_got_0 21 rfl) (zby_w zwX9_got_0 22 rfl) (by decide)
theorem d_X9_got_23 : decode cX9_got 23 = .ok (.iload_n 3, 1) := zo_29 (zby_w zwX9_got_0 23 rfl)
theorem d_X9_got_24 : decode cX9_got 24 = .ok (.iaload, 1) := zo_46 (zby_w zwX9_got_0 24 rfl)
theorem d_X9_got_25 : decode cX9_got 25 = .ok (.goto 4, 3) := zo_167 (a := 0) (b := 4) (zby_w zwX9_got_0 25 rfl) (zby_w zwX9_got_0 26 rfl) (zby_w zwX9_got_0 27 rfl) (by decide)
theorem d_X9_got_28 : decode cX9_got 28 = .ok (.iconst 0, 1) := zo_3 (zby_w zwX9_got_0 28 rfl)
theorem d_X9_got_29 : decode cX9_got 29 = .ok (.iadd, 1) := zo_96 (zby_w zwX9_got_0 29 rfl)
theorem d_X9_got_30 : decode cX9_got 30 = .ok (.istore_n 2, 1) := zo_61 (zby_w zwX9_got_0 30 rfl)
theorem d_X9_got_31 : decode cX9_got 31 = .ok (.iinc 3 1, 3) := by decide +kernel
theorem d_X9_got_34 : decode cX9_got 34 = .ok (.goto (-30), 3) := zo_167 (a := 255) (b := 226) (zby_w zwX9_got_1 2 rfl) (zby_w zwX9_got_1 3 rfl) (zby_w zwX9_got_1 4 rfl) (by decide)
theorem d_X9_got_37 : decode cX9_got 37 = .ok (.iload_n 2, 1) := zo_28 (zby_w zwX9_got_1 5 rfl)
theorem d_X9_got_38 : decode cX9_got 38 = .ok (.ireturn, 1) := zo_172 (zby_w zwX9_got_1 6 rfl)
theorem d_X9_greatest_0 : decode cX9_greatest 0 = .ok (.iload_n 0, 1) := zo_26 (zby_w zwX9_greatest_0 0 rfl)
theorem d_X9_greatest_1 : decode cX9_greatest 1 = .ok (.ifCond .ne 8, 3) := zo_154 (a := 0) (b := 8) (zby_w zwX9_greatest_0 1 rfl) (zby_w zwX9_greatest_0 2 rfl) (zby_w zwX9_greatest_0 3 rfl) (by decide)
theorem d_X9_greatest_4 : decode cX9_greatest 4 = .ok (.bipush 9, 2) := zo_16 (a := 9) (zby_w zwX9_greatest_0 4 rfl) (zby_w zwX9_greatest_0 5 rfl) (by decide)
theorem d_X9_greatest_6 : decode cX9_greatest 6 = .ok (.goto 37, 3) := zo_167 (a := 0) (b := 37) (zby_w zwX9_greatest_0 6 rfl) (zby_w zwX9_greatest_0 7 rfl) (zby_w zwX9_greatest_0 8 rfl) (by decide)
theorem d_X9_greatest_9 : decode cX9_greatest 9 = .ok (.iload_n 0, 1) := zo_26 (zby_w zwX9_greatest_0 9 rfl)
theorem d_X9_greatest_10 : decode cX9_greatest 10 = .ok (.iconst 2, 1) := zo_5 (zby_w zwX9_greatest_0 10 rfl)
theorem d_X9_greatest_11 : decode cX9_greatest 11 = .ok (.if_icmp .ne 8, 3) := zo_160 (a := 0) (b := 8) (zby_w zwX9_greatest_0 11 rfl) (zby_w zwX9_greatest_0 12 rfl) (zby_w zwX9_greatest_0 13 rfl) (by decide)
theorem d_X9_greatest_14 : decode cX9_greatest 14 = .ok (.bipush 20, 2) := zo_16 (a := 20) (zby_w zwX9_greatest_0 14 rfl) (zby_w zwX9_greatest_0 15 rfl) (by decide)
theorem d_X9_greatest_16 : decode cX9_greatest 16 = .ok (.goto 27, 3) := zo_167 (a := 0) (b := 27) (zby_w zwX9_greatest_0 16 rfl) (zby_w zwX9_greatest_0 17 rfl) (zby_w zwX9_greatest_0 18 rfl) (by decide)
theorem d_X9_greatest_19 : decode cX9_greatest 19 = .ok (.iload_n 0, 1) := zo_26 (zby_w zwX9_greatest_0 19 rfl)
theorem d_X9_greatest_20 : decode cX9_greatest 20 = .ok (.iconst 3, 1) := zo_6 (zby_w zwX9_greatest_0 20 rfl)
theorem d_X9_greatest_21 : decode cX9_greatest 21 = .ok (.if_icmp .ne 8, 3) := zo_160 (a := 0) (b := 8) (zby_w zwX9_greatest_0 21 rfl) (zby_w zwX9_greatest_0 22 rfl) (zby_w zwX9_greatest_0 23 rfl) (by decide)
theorem d_X9_greatest_24 : decode cX9_greatest 24 = .ok (.bipush 60, 2) := zo_16 (a := 60) (zby_w zwX9_greatest_0 24 rfl) (zby_w zwX9_greatest_0 25 rfl) (by decide)
theorem d_X9_greatest_26 : decode cX9_greatest 26 = .ok (.goto 17, 3) := zo_167 (a := 0) (b := 17) (zby_w zwX9_greatest_0 26 rfl) (zby_w zwX9_greatest_0 27 rfl) (zby_w zwX9_greatest_0 28 rfl) (by decide)
theorem d_X9_greatest_29 : decode cX9_greatest 29 = .ok (.iload_n 0, 1) := zo_26 (zby_w zwX9_greatest_0 29 rfl)
theorem d_X9_greatest_30 : decode cX9_greatest 30 = .ok (.bipush 7, 2) := zo_16 (a := 7) (zby_w zwX9_greatest_0 30 rfl) (zby_w zwX9_greatest_0 31 rfl) (by decide)
theorem d_X9_greatest_32 : decode cX9_greatest 32 = .ok (.if_icmp .ne 9, 3) := zo_160 (a := 0) (b := 9) (zby_w zwX9_greatest_1 0 rfl) (zby_w zwX9_greatest_1 1 rfl) (zby_w zwX9_greatest_1 2 rfl) (by decide)
theorem d_X9_greatest_35 : decode cX9_greatest 35 = .ok (.sipush 9999, 3) := zo_17 (a := 39) (b := 15) (zby_w zwX9_greatest_1 3 rfl) (zby_w zwX9_greatest_1 4 rfl) (zby_w zwX9_greatest_1 5 rfl) (by decide)
theorem d_X9_greatest_38 : decode cX9_greatest 38 = .ok (.goto 5, 3) := zo_167 (a := 0) (b := 5) (zby_w zwX9_greatest_1 6 rfl) (zby_w zwX9_greatest_1 7 rfl) (zby_w zwX9_greatest_1 8 rfl) (by decide)
theorem d_X9_greatest_41 : decode cX9_greatest 41 = .ok (.bipush 99, 2) := zo_16 (a := 99) (zby_w zwX9_greatest_1 9 rfl) (zby_w zwX9_greatest_1 10 rfl) (by decide)
theorem d_X9_greatest_43 : decode cX9_greatest 43 = .ok (.ireturn, 1) := zo_172 (zby_w zwX9_greatest_1 11 rfl)
theorem d_X9_held_0 : decode cX9_held 0 = .ok (.aload_n 0, 1) := zo_42 (zby_w zwX9_held_0 0 rfl)
theorem d_X9_held_1 : decode cX9_held 1 = .ok (.iload_n 1, 1) := zo_27 (zby_w zwX9_held_0 1 rfl)
theorem d_X9_held_2 : decode cX9_held 2 = .ok (.invokevirtual 112, 3) := zo_182 (a := 0) (b := 112) (zby_w zwX9_held_0 2 rfl) (zby_w zwX9_held_0 3 rfl) (zby_w zwX9_held_0 4 rfl) (by decide)
theorem d_X9_held_5 : decode cX9_held 5 = .ok (.ifCond .ne 5, 3) := zo_154 (a := 0) (b := 5) (zby_w zwX9_held_0 5 rfl) (zby_w zwX9_held_0 6 rfl) (zby_w zwX9_held_0 7 rfl) (by decide)
theorem d_X9_held_8 : decode cX9_held 8 = .ok (.iconst (-1), 1) := zo_2 (zby_w zwX9_held_0 8 rfl)
theorem d_X9_held_9 : decode cX9_held 9 = .ok (.ireturn, 1) := zo_172 (zby_w zwX9_held_0 9 rfl)
theorem d_X9_held_10 : decode cX9_held 10 = .ok (.iload_n 2, 1) := zo_28 (zby_w zwX9_held_0 10 rfl)
theorem d_X9_held_11 : decode cX9_held 11 = .ok (.i2l, 1) := zo_133 (zby_w zwX9_held_0 11 rfl)
theorem d_X9_held_12 : decode cX9_held 12 = .ok (.lconst 0, 1) := zo_9 (zby_w zwX9_held_0 12 rfl)
theorem d_X9_held_13 : decode cX9_held 13 = .ok (.ldc2_w 228, 3) := zo_20 (a := 0) (b := 228) (zby_w zwX9_held_0 13 rfl) (zby_w zwX9_held_0 14 rfl) (zby_w zwX9_held_0 15 rfl) (by decide)
theorem d_X9_held_16 : decode cX9_held 16 = .ok (.invokestatic 89, 3) := zo_184 (a := 0) (b := 89) (zby_w zwX9_held_0 16 rfl) (zby_w zwX9_held_0 17 rfl) (zby_w zwX9_held_0 18 rfl) (by decide)
theorem d_X9_held_19 : decode cX9_held 19 = .ok (.ifCond .eq 15, 3) := zo_153 (a := 0) (b := 15) (zby_w zwX9_held_0 19 rfl) (zby_w zwX9_held_0 20 rfl) (zby_w zwX9_held_0 21 rfl) (by decide)
theorem d_X9_held_22 : decode cX9_held 22 = .ok (.iload_n 3, 1) := zo_29 (zby_w zwX9_held_0 22 rfl)
theorem d_X9_held_23 : decode cX9_held 23 = .ok (.i2l, 1) := zo_133 (zby_w zwX9_held_0 23 rfl)
theorem d_X9_held_24 : decode cX9_held 24 = .ok (.lconst 0, 1) := zo_9 (zby_w zwX9_held_0 24 rfl)
theorem d_X9_held_25 : decode cX9_held 25 = .ok (.ldc2_w 102, 3) := zo_20 (a := 0) (b := 102) (zby_w zwX9_held_0 25 rfl) (zby_w zwX9_held_0 26 rfl) (zby_w zwX9_held_0 27 rfl) (by decide)
theorem d_X9_held_28 : decode cX9_held 28 = .ok (.invokestatic 89, 3) := zo_184 (a := 0) (b := 89) (zby_w zwX9_held_0 28 rfl) (zby_w zwX9_held_0 29 rfl) (zby_w zwX9_held_0 30 rfl) (by decide)
theorem d_X9_held_31 : decode cX9_held 31 = .ok (.ifCond .ne 6, 3) := zo_154 (a := 0) (b := 6) (zby_w zwX9_held_0 31 rfl) (zby_w zwX9_held_0 32 rfl) (zby_w zwX9_held_0 33 rfl) (by decide)
theorem d_X9_held_34 : decode cX9_held 34 = .ok (.bipush (-2), 2) := zo_16 (a := 254) (zby_w zwX9_held_1 2 rfl) (zby_w zwX9_held_1 3 rfl) (by decide)
theorem d_X9_held_36 : decode cX9_held 36 = .ok (.ireturn, 1) := zo_172 (zby_w zwX9_held_1 4 rfl)
theorem d_X9_held_37 : decode cX9_held 37 = .ok (.iload_n 2, 1) := zo_28 (zby_w zwX9_held_1 5 rfl)
theorem d_X9_held_38 : decode cX9_held 38 = .ok (.istore 4, 2) := zo_54 (a := 4) (zby_w zwX9_held_1 6 rfl) (zby_w zwX9_held_1 7 rfl) (by decide)
theorem d_X9_held_40 : decode cX9_held 40 = .ok (.ldc 230, 2) := zo_18 (a := 230) (zby_w zwX9_held_1 8 rfl) (zby_w zwX9_held_1 9 rfl) (by decide)
theorem d_X9_held_42 : decode cX9_held 42 = .ok (.istore 5, 2) := zo_54 (a := 5) (zby_w zwX9_held_1 10 rfl) (zby_w zwX9_held_1 11 rfl) (by decide)
theorem d_X9_held_44 : decode cX9_held 44 = .ok (.iload_n 2, 1) := zo_28 (zby_w zwX9_held_1 12 rfl)
theorem d_X9_held_45 : decode cX9_held 45 = .ok (.istore 6, 2) := zo_54 (a := 6) (zby_w zwX9_held_1 13 rfl) (zby_w zwX9_held_1 14 rfl) (by decide)
theorem d_X9_held_47 : decode cX9_held 47 = .ok (.iload 6, 2) := zo_21 (a := 6) (zby_w zwX9_held_1 15 rfl) (zby_w zwX9_held_1 16 rfl) (by decide)
theorem d_X9_held_49 : decode cX9_held 49 = .ok (.iload_n 2, 1) := zo_28 (zby_w zwX9_held_1 17 rfl)
theorem d_X9_held_50 : decode cX9_held 50 = .ok (.bipush 24, 2) := zo_16 (a := 24) (zby_w zwX9_held_1 18 rfl) (zby_w zwX9_held_1 19 rfl) (by decide)
theorem d_X9_held_52 : decode cX9_held 52 = .ok (.iadd, 1) := zo_96 (zby_w zwX9_held_1 20 rfl)
theorem d_X9_held_53 : decode cX9_held 53 = .ok (.if_icmp .ge 70, 3) := zo_162 (a := 0) (b := 70) (zby_w zwX9_held_1 21 rfl) (zby_w zwX9_held_1 22 rfl) (zby_w zwX9_held_1 23 rfl) (by decide)
theorem d_X9_held_56 : decode cX9_held 56 = .ok (.aload_n 0, 1) := zo_42 (zby_w zwX9_held_1 24 rfl)
theorem d_X9_held_57 : decode cX9_held 57 = .ok (.iload_n 1, 1) := zo_27 (zby_w zwX9_held_1 25 rfl)
theorem d_X9_held_58 : decode cX9_held 58 = .ok (.aload_n 0, 1) := zo_42 (zby_w zwX9_held_1 26 rfl)
theorem d_X9_held_59 : decode cX9_held 59 = .ok (.iload_n 1, 1) := zo_27 (zby_w zwX9_held_1 27 rfl)
theorem d_X9_held_60 : decode cX9_held 60 = .ok (.iload 6, 2) := zo_21 (a := 6) (zby_w zwX9_held_1 28 rfl) (zby_w zwX9_held_1 29 rfl) (by decide)
theorem d_X9_held_62 : decode cX9_held 62 = .ok (.invokevirtual 225, 3) := zo_182 (a := 0) (b := 225) (zby_w zwX9_held_1 30 rfl) (zby_w zwX9_held_1 31 rfl) (zby_w zwX9_held_1 32 rfl) (by decide)
theorem d_X9_held_65 : decode cX9_held 65 = .ok (.iload 6, 2) := zo_21 (a := 6) (zby_w zwX9_held_2 1 rfl) (zby_w zwX9_held_2 2 rfl) (by decide)
theorem d_X9_held_67 : decode cX9_held 67 = .ok (.invokevirtual 212, 3) := zo_182 (a := 0) (b := 212) (zby_w zwX9_held_2 3 rfl) (zby_w zwX9_held_2 4 rfl) (zby_w zwX9_held_2 5 rfl) (by decide)
theorem d_X9_held_70 : decode cX9_held 70 = .ok (.bipush 10, 2) := zo_16 (a := 10) (zby_w zwX9_held_2 6 rfl) (zby_w zwX9_held_2 7 rfl) (by decide)
theorem d_X9_held_72 : decode cX9_held 72 = .ok (.aload_n 0, 1) := zo_42 (zby_w zwX9_held_2 8 rfl)
theorem d_X9_held_73 : decode cX9_held 73 = .ok (.getfield 75, 3) := zo_180 (a := 0) (b := 75) (zby_w zwX9_held_2 9 rfl) (zby_w zwX9_held_2 10 rfl) (zby_w zwX9_held_2 11 rfl) (by decide)
theorem d_X9_held_76 : decode cX9_held 76 = .ok (.imul, 1) := zo_104 (zby_w zwX9_held_2 12 rfl)
theorem d_X9_held_77 : decode cX9_held 77 = .ok (.iload 6, 2) := zo_21 (a := 6) (zby_w zwX9_held_2 13 rfl) (zby_w zwX9_held_2 14 rfl) (by decide)
theorem d_X9_held_79 : decode cX9_held 79 = .ok (.iload_n 2, 1) := zo_28 (zby_w zwX9_held_2 15 rfl)
theorem d_X9_held_80 : decode cX9_held 80 = .ok (.isub, 1) := zo_100 (zby_w zwX9_held_2 16 rfl)
theorem d_X9_held_81 : decode cX9_held 81 = .ok (.imul, 1) := zo_104 (zby_w zwX9_held_2 17 rfl)
theorem d_X9_held_82 : decode cX9_held 82 = .ok (.iadd, 1) := zo_96 (zby_w zwX9_held_2 18 rfl)
theorem d_X9_held_83 : decode cX9_held 83 = .ok (.istore 7, 2) := zo_54 (a := 7) (zby_w zwX9_held_2 19 rfl) (zby_w zwX9_held_2 20 rfl) (by decide)
theorem d_X9_held_85 : decode cX9_held 85 = .ok (.iload 7, 2) := zo_21 (a := 7) (zby_w zwX9_held_2 21 rfl) (zby_w zwX9_held_2 22 rfl) (by decide)
theorem d_X9_held_87 : decode cX9_held 87 = .ok (.iload 5, 2) := zo_21 (a := 5) (zby_w zwX9_held_2 23 rfl) (zby_w zwX9_held_2 24 rfl) (by decide)
theorem d_X9_held_89 : decode cX9_held 89 = .ok (.if_icmp .ge 8, 3) := zo_162 (a := 0) (b := 8) (zby_w zwX9_held_2 25 rfl) (zby_w zwX9_held_2 26 rfl) (zby_w zwX9_held_2 27 rfl) (by decide)
theorem d_X9_held_92 : decode cX9_held 92 = .ok (.iload 6, 2) := zo_21 (a := 6) (zby_w zwX9_held_2 28 rfl) (zby_w zwX9_held_2 29 rfl) (by decide)
theorem d_X9_held_94 : decode cX9_held 94 = .ok (.goto 5, 3) := zo_167 (a := 0) (b := 5) (zby_w zwX9_held_2 30 rfl) (zby_w zwX9_held_2 31 rfl) (zby_w zwX9_held_2 32 rfl) (by decide)
theorem d_X9_held_97 : decode cX9_held 97 = .ok (.iload 4, 2) := zo_21 (a := 4) (zby_w zwX9_held_3 1 rfl) (zby_w zwX9_held_3 2 rfl) (by decide)
theorem d_X9_held_99 : decode cX9_held 99 = .ok (.istore 4, 2) := zo_54 (a := 4) (zby_w zwX9_held_3 3 rfl) (zby_w zwX9_held_3 4 rfl) (by decide)
theorem d_X9_held_101 : decode cX9_held 101 = .ok (.iload 7, 2) := zo_21 (a := 7) (zby_w zwX9_held_3 5 rfl) (zby_w zwX9_held_3 6 rfl) (by decide)
theorem d_X9_held_103 : decode cX9_held 103 = .ok (.iload 5, 2) := zo_21 (a := 5) (zby_w zwX9_held_3 7 rfl) (zby_w zwX9_held_3 8 rfl) (by decide)
theorem d_X9_held_105 : decode cX9_held 105 = .ok (.if_icmp .ge 8, 3) := zo_162 (a := 0) (b := 8) (zby_w zwX9_held_3 9 rfl) (zby_w zwX9_held_3 10 rfl) (zby_w zwX9_held_3 11 rfl) (by decide)
theorem d_X9_held_108 : decode cX9_held 108 = .ok (.iload 7, 2) := zo_21 (a := 7) (zby_w zwX9_held_3 12 rfl) (zby_w zwX9_held_3 13 rfl) (by decide)
theorem d_X9_held_110 : decode cX9_held 110 = .ok (.goto 5, 3) := zo_167 (a := 0) (b := 5) (zby_w zwX9_held_3 14 rfl) (zby_w zwX9_held_3 15 rfl) (zby_w zwX9_held_3 16 rfl) (by decide)
theorem d_X9_held_113 : decode cX9_held 113 = .ok (.iload 5, 2) := zo_21 (a := 5) (zby_w zwX9_held_3 17 rfl) (zby_w zwX9_held_3 18 rfl) (by decide)
theorem d_X9_held_115 : decode cX9_held 115 = .ok (.istore 5, 2) := zo_54 (a := 5) (zby_w zwX9_held_3 19 rfl) (zby_w zwX9_held_3 20 rfl) (by decide)
theorem d_X9_held_117 : decode cX9_held 117 = .ok (.iinc 6 1, 3) := by decide +kernel
theorem d_X9_held_120 : decode cX9_held 120 = .ok (.goto (-73), 3) := zo_167 (a := 255) (b := 183) (zby_w zwX9_held_3 24 rfl) (zby_w zwX9_held_3 25 rfl) (zby_w zwX9_held_3 26 rfl) (by decide)
theorem d_X9_held_123 : decode cX9_held 123 = .ok (.iload_n 3, 1) := zo_29 (zby_w zwX9_held_3 27 rfl)
theorem d_X9_held_124 : decode cX9_held 124 = .ok (.ifCond .ne 8, 3) := zo_154 (a := 0) (b := 8) (zby_w zwX9_held_3 28 rfl) (zby_w zwX9_held_3 29 rfl) (zby_w zwX9_held_3 30 rfl) (by decide)
theorem d_X9_held_127 : decode cX9_held 127 = .ok (.iload 4, 2) := zo_21 (a := 4) (zby_w zwX9_held_3 31 rfl) (zby_w zwX9_held_3 32 rfl) (by decide)
theorem d_X9_held_129 : decode cX9_held 129 = .ok (.goto 20, 3) := zo_167 (a := 0) (b := 20) (zby_w zwX9_held_4 1 rfl) (zby_w zwX9_held_4 2 rfl) (zby_w zwX9_held_4 3 rfl) (by decide)
theorem d_X9_held_132 : decode cX9_held 132 = .ok (.iload_n 3, 1) := zo_29 (zby_w zwX9_held_4 4 rfl)
theorem d_X9_held_133 : decode cX9_held 133 = .ok (.iconst 1, 1) := zo_4 (zby_w zwX9_held_4 5 rfl)
theorem d_X9_held_134 : decode cX9_held 134 = .ok (.if_icmp .ne 8, 3) := zo_160 (a := 0) (b := 8) (zby_w zwX9_held_4 6 rfl) (zby_w zwX9_held_4 7 rfl) (zby_w zwX9_held_4 8 rfl) (by decide)
theorem d_X9_held_137 : decode cX9_held 137 = .ok (.iload 5, 2) := zo_21 (a := 5) (zby_w zwX9_held_4 9 rfl) (zby_w zwX9_held_4 10 rfl) (by decide)
theorem d_X9_held_139 : decode cX9_held 139 = .ok (.goto 10, 3) := zo_167 (a := 0) (b := 10) (zby_w zwX9_held_4 11 rfl) (zby_w zwX9_held_4 12 rfl) (zby_w zwX9_held_4 13 rfl) (by decide)
theorem d_X9_held_142 : decode cX9_held 142 = .ok (.aload_n 0, 1) := zo_42 (zby_w zwX9_held_4 14 rfl)
theorem d_X9_held_143 : decode cX9_held 143 = .ok (.iload_n 1, 1) := zo_27 (zby_w zwX9_held_4 15 rfl)
theorem d_X9_held_144 : decode cX9_held 144 = .ok (.iload 4, 2) := zo_21 (a := 4) (zby_w zwX9_held_4 16 rfl) (zby_w zwX9_held_4 17 rfl) (by decide)
theorem d_X9_held_146 : decode cX9_held 146 = .ok (.invokevirtual 225, 3) := zo_182 (a := 0) (b := 225) (zby_w zwX9_held_4 18 rfl) (zby_w zwX9_held_4 19 rfl) (zby_w zwX9_held_4 20 rfl) (by decide)
theorem d_X9_held_149 : decode cX9_held 149 = .ok (.ireturn, 1) := zo_172 (zby_w zwX9_held_4 21 rfl)
theorem d_X9_image_0 : decode cX9_image 0 = .ok (.iload_n 1, 1) := zo_27 (zby_w zwX9_image_0 0 rfl)
theorem d_X9_image_1 : decode cX9_image 1 = .ok (.i2l, 1) := zo_133 (zby_w zwX9_image_0 1 rfl)
theorem d_X9_image_2 : decode cX9_image 2 = .ok (.lconst 0, 1) := zo_9 (zby_w zwX9_image_0 2 rfl)
theorem d_X9_image_3 : decode cX9_image 3 = .ok (.lconst 1, 1) := zo_10 (zby_w zwX9_image_0 3 rfl)
theorem d_X9_image_4 : decode cX9_image 4 = .ok (.invokestatic 89, 3) := zo_184 (a := 0) (b := 89) (zby_w zwX9_image_0 4 rfl) (zby_w zwX9_image_0 5 rfl) (zby_w zwX9_image_0 6 rfl) (by decide)
theorem d_X9_image_7 : decode cX9_image 7 = .ok (.ifCond .ne 6, 3) := zo_154 (a := 0) (b := 6) (zby_w zwX9_image_0 7 rfl) (zby_w zwX9_image_0 8 rfl) (zby_w zwX9_image_0 9 rfl) (by decide)
theorem d_X9_image_10 : decode cX9_image 10 = .ok (.bipush (-2), 2) := zo_16 (a := 254) (zby_w zwX9_image_0 10 rfl) (zby_w zwX9_image_0 11 rfl) (by decide)
theorem d_X9_image_12 : decode cX9_image 12 = .ok (.ireturn, 1) := zo_172 (zby_w zwX9_image_0 12 rfl)
theorem d_X9_image_13 : decode cX9_image 13 = .ok (.aload_n 0, 1) := zo_42 (zby_w zwX9_image_0 13 rfl)
theorem d_X9_image_14 : decode cX9_image 14 = .ok (.bipush 120, 2) := zo_16 (a := 120) (zby_w zwX9_image_0 14 rfl) (zby_w zwX9_image_0 15 rfl) (by decide)
theorem d_X9_image_16 : decode cX9_image 16 = .ok (.iload_n 1, 1) := zo_27 (zby_w zwX9_image_0 16 rfl)
theorem d_X9_image_17 : decode cX9_image 17 = .ok (.imul, 1) := zo_104 (zby_w zwX9_image_0 17 rfl)
theorem d_X9_image_18 : decode cX9_image 18 = .ok (.putfield 306, 3) := zo_181 (a := 1) (b := 50) (zby_w zwX9_image_0 18 rfl) (zby_w zwX9_image_0 19 rfl) (zby_w zwX9_image_0 20 rfl) (by decide)
theorem d_X9_image_21 : decode cX9_image 21 = .ok (.aload_n 0, 1) := zo_42 (zby_w zwX9_image_0 21 rfl)
theorem d_X9_image_22 : decode cX9_image 22 = .ok (.iconst 1, 1) := zo_4 (zby_w zwX9_image_0 22 rfl)
theorem d_X9_image_23 : decode cX9_image 23 = .ok (.putfield 302, 3) := zo_181 (a := 1) (b := 46) (zby_w zwX9_image_0 23 rfl) (zby_w zwX9_image_0 24 rfl) (zby_w zwX9_image_0 25 rfl) (by decide)
theorem d_X9_image_26 : decode cX9_image 26 = .ok (.aload_n 0, 1) := zo_42 (zby_w zwX9_image_0 26 rfl)
theorem d_X9_image_27 : decode cX9_image 27 = .ok (.invokevirtual 315, 3) := zo_182 (a := 1) (b := 59) (zby_w zwX9_image_0 27 rfl) (zby_w zwX9_image_0 28 rfl) (zby_w zwX9_image_0 29 rfl) (by decide)
theorem d_X9_image_30 : decode cX9_image 30 = .ok (.aload_n 0, 1) := zo_42 (zby_w zwX9_image_0 30 rfl)
theorem d_X9_image_31 : decode cX9_image 31 = .ok (.getfield 58, 3) := zo_180 (a := 0) (b := 58) (zby_w zwX9_image_0 31 rfl) (zby_w zwX9_image_0 32 rfl) (zby_w zwX9_image_0 33 rfl) (by decide)
theorem d_X9_image_34 : decode cX9_image 34 = .ok (.iload_n 1, 1) := zo_27 (zby_w zwX9_image_1 2 rfl)
theorem d_X9_image_35 : decode cX9_image 35 = .ok (.iconst 1, 1) := zo_4 (zby_w zwX9_image_1 3 rfl)
theorem d_X9_image_36 : decode cX9_image 36 = .ok (.bastore, 1) := zo_84 (zby_w zwX9_image_1 4 rfl)
theorem d_X9_image_37 : decode cX9_image 37 = .ok (.iconst 1, 1) := zo_4 (zby_w zwX9_image_1 5 rfl)
theorem d_X9_image_38 : decode cX9_image 38 = .ok (.ireturn, 1) := zo_172 (zby_w zwX9_image_1 6 rfl)
theorem d_X9_in_0 : decode cX9_in 0 = .ok (.lload_n 0, 1) := zo_30 (zby_w zwX9_in_0 0 rfl)
theorem d_X9_in_1 : decode cX9_in 1 = .ok (.lload_n 2, 1) := zo_32 (zby_w zwX9_in_0 1 rfl)
theorem d_X9_in_2 : decode cX9_in 2 = .ok (.lcmp, 1) := zo_148 (zby_w zwX9_in_0 2 rfl)
theorem d_X9_in_3 : decode cX9_in 3 = .ok (.ifCond .lt 14, 3) := zo_155 (a := 0) (b := 14) (zby_w zwX9_in_0 3 rfl) (zby_w zwX9_in_0 4 rfl) (zby_w zwX9_in_0 5 rfl) (by decide)
theorem d_X9_in_6 : decode cX9_in 6 = .ok (.lload_n 0, 1) := zo_30 (zby_w zwX9_in_0 6 rfl)
theorem d_X9_in_7 : decode cX9_in 7 = .ok (.lload 4, 2) := zo_22 (a := 4) (zby_w zwX9_in_0 7 rfl) (zby_w zwX9_in_0 8 rfl) (by decide)
theorem d_X9_in_9 : decode cX9_in 9 = .ok (.lcmp, 1) := zo_148 (zby_w zwX9_in_0 9 rfl)
theorem d_X9_in_10 : decode cX9_in 10 = .ok (.ifCond .gt 7, 3) := zo_157 (a := 0) (b := 7) (zby_w zwX9_in_0 10 rfl) (zby_w zwX9_in_0 11 rfl) (zby_w zwX9_in_0 12 rfl) (by decide)
theorem d_X9_in_13 : decode cX9_in 13 = .ok (.iconst 1, 1) := zo_4 (zby_w zwX9_in_0 13 rfl)
theorem d_X9_in_14 : decode cX9_in 14 = .ok (.goto 4, 3) := zo_167 (a := 0) (b := 4) (zby_w zwX9_in_0 14 rfl) (zby_w zwX9_in_0 15 rfl) (zby_w zwX9_in_0 16 rfl) (by decide)
theorem d_X9_in_17 : decode cX9_in 17 = .ok (.iconst 0, 1) := zo_3 (zby_w zwX9_in_0 17 rfl)
theorem d_X9_in_18 : decode cX9_in 18 = .ok (.ireturn, 1) := zo_172 (zby_w zwX9_in_0 18 rfl)
theorem d_X9_insured_0 : decode cX9_insured 0 = .ok (.aload_n 0, 1) := zo_42 (zby_w zwX9_insured_0 0 rfl)
theorem d_X9_insured_1 : decode cX9_insured 1 = .ok (.iload_n 1, 1) := zo_27 (zby_w zwX9_insured_0 1 rfl)
theorem d_X9_insured_2 : decode cX9_insured 2 = .ok (.invokevirtual 112, 3) := zo_182 (a := 0) (b := 112) (zby_w zwX9_insured_0 2 rfl) (zby_w zwX9_insured_0 3 rfl) (zby_w zwX9_insured_0 4 rfl) (by decide)
theorem d_X9_insured_5 : decode cX9_insured 5 = .ok (.ifCond .ne 5, 3) := zo_154 (a := 0) (b := 5) (zby_w zwX9_insured_0 5 rfl) (zby_w zwX9_insured_0 6 rfl) (zby_w zwX9_insured_0 7 rfl) (by decide)
theorem d_X9_insured_8 : decode cX9_insured 8 = .ok (.iconst (-1), 1) := zo_2 (zby_w zwX9_insured_0 8 rfl)
theorem d_X9_insured_9 : decode cX9_insured 9 = .ok (.ireturn, 1) := zo_172 (zby_w zwX9_insured_0 9 rfl)
theorem d_X9_insured_10 : decode cX9_insured 10 = .ok (.iload_n 2, 1) := zo_28 (zby_w zwX9_insured_0 10 rfl)
theorem d_X9_insured_11 : decode cX9_insured 11 = .ok (.invokestatic 219, 3) := zo_184 (a := 0) (b := 219) (zby_w zwX9_insured_0 11 rfl) (zby_w zwX9_insured_0 12 rfl) (zby_w zwX9_insured_0 13 rfl) (by decide)
theorem d_X9_insured_14 : decode cX9_insured 14 = .ok (.ifCond .eq 15, 3) := zo_153 (a := 0) (b := 15) (zby_w zwX9_insured_0 14 rfl) (zby_w zwX9_insured_0 15 rfl) (zby_w zwX9_insured_0 16 rfl) (by decide)
theorem d_X9_insured_17 : decode cX9_insured 17 = .ok (.iload_n 3, 1) := zo_29 (zby_w zwX9_insured_0 17 rfl)
theorem d_X9_insured_18 : decode cX9_insured 18 = .ok (.i2l, 1) := zo_133 (zby_w zwX9_insured_0 18 rfl)
theorem d_X9_insured_19 : decode cX9_insured 19 = .ok (.lconst 0, 1) := zo_9 (zby_w zwX9_insured_0 19 rfl)
theorem d_X9_insured_20 : decode cX9_insured 20 = .ok (.ldc2_w 102, 3) := zo_20 (a := 0) (b := 102) (zby_w zwX9_insured_0 20 rfl) (zby_w zwX9_insured_0 21 rfl) (zby_w zwX9_insured_0 22 rfl) (by decide)
theorem d_X9_insured_23 : decode cX9_insured 23 = .ok (.invokestatic 89, 3) := zo_184 (a := 0) (b := 89) (zby_w zwX9_insured_0 23 rfl) (zby_w zwX9_insured_0 24 rfl) (zby_w zwX9_insured_0 25 rfl) (by decide)
theorem d_X9_insured_26 : decode cX9_insured 26 = .ok (.ifCond .ne 6, 3) := zo_154 (a := 0) (b := 6) (zby_w zwX9_insured_0 26 rfl) (zby_w zwX9_insured_0 27 rfl) (zby_w zwX9_insured_0 28 rfl) (by decide)
theorem d_X9_insured_29 : decode cX9_insured 29 = .ok (.bipush (-2), 2) := zo_16 (a := 254) (zby_w zwX9_insured_0 29 rfl) (zby_w zwX9_insured_0 30 rfl) (by decide)
theorem d_X9_insured_31 : decode cX9_insured 31 = .ok (.ireturn, 1) := zo_172 (zby_w zwX9_insured_0 31 rfl)
theorem d_X9_insured_32 : decode cX9_insured 32 = .ok (.aload_n 0, 1) := zo_42 (zby_w zwX9_insured_1 0 rfl)
theorem d_X9_insured_33 : decode cX9_insured 33 = .ok (.iload_n 2, 1) := zo_28 (zby_w zwX9_insured_1 1 rfl)
theorem d_X9_insured_34 : decode cX9_insured 34 = .ok (.invokevirtual 163, 3) := zo_182 (a := 0) (b := 163) (zby_w zwX9_insured_1 2 rfl) (zby_w zwX9_insured_1 3 rfl) (zby_w zwX9_insured_1 4 rfl) (by decide)
theorem d_X9_insured_37 : decode cX9_insured 37 = .ok (.istore 4, 2) := zo_54 (a := 4) (zby_w zwX9_insured_1 5 rfl) (zby_w zwX9_insured_1 6 rfl) (by decide)
theorem d_X9_insured_39 : decode cX9_insured 39 = .ok (.iconst 0, 1) := zo_3 (zby_w zwX9_insured_1 7 rfl)
theorem d_X9_insured_40 : decode cX9_insured 40 = .ok (.istore 5, 2) := zo_54 (a := 5) (zby_w zwX9_insured_1 8 rfl) (zby_w zwX9_insured_1 9 rfl) (by decide)
theorem d_X9_insured_42 : decode cX9_insured 42 = .ok (.ldc 230, 2) := zo_18 (a := 230) (zby_w zwX9_insured_1 10 rfl) (zby_w zwX9_insured_1 11 rfl) (by decide)
theorem d_X9_insured_44 : decode cX9_insured 44 = .ok (.istore 6, 2) := zo_54 (a := 6) (zby_w zwX9_insured_1 12 rfl) (zby_w zwX9_insured_1 13 rfl) (by decide)
theorem d_X9_insured_46 : decode cX9_insured 46 = .ok (.iconst 0, 1) := zo_3 (zby_w zwX9_insured_1 14 rfl)
theorem d_X9_insured_47 : decode cX9_insured 47 = .ok (.istore 7, 2) := zo_54 (a := 7) (zby_w zwX9_insured_1 15 rfl) (zby_w zwX9_insured_1 16 rfl) (by decide)
theorem d_X9_insured_49 : decode cX9_insured 49 = .ok (.iload 7, 2) := zo_21 (a := 7) (zby_w zwX9_insured_1 17 rfl) (zby_w zwX9_insured_1 18 rfl) (by decide)
theorem d_X9_insured_51 : decode cX9_insured 51 = .ok (.bipush 16, 2) := zo_16 (a := 16) (zby_w zwX9_insured_1 19 rfl) (zby_w zwX9_insured_1 20 rfl) (by decide)
theorem d_X9_insured_53 : decode cX9_insured 53 = .ok (.if_icmp .ge 90, 3) := zo_162 (a := 0) (b := 90) (zby_w zwX9_insured_1 21 rfl) (zby_w zwX9_insured_1 22 rfl) (zby_w zwX9_insured_1 23 rfl) (by decide)
theorem d_X9_insured_56 : decode cX9_insured 56 = .ok (.iload 4, 2) := zo_21 (a := 4) (zby_w zwX9_insured_1 24 rfl) (zby_w zwX9_insured_1 25 rfl) (by decide)
theorem d_X9_insured_58 : decode cX9_insured 58 = .ok (.aload_n 0, 1) := zo_42 (zby_w zwX9_insured_1 26 rfl)
theorem d_X9_insured_59 : decode cX9_insured 59 = .ok (.iload_n 1, 1) := zo_27 (zby_w zwX9_insured_1 27 rfl)
theorem d_X9_insured_60 : decode cX9_insured 60 = .ok (.invokevirtual 209, 3) := zo_182 (a := 0) (b := 209) (zby_w zwX9_insured_1 28 rfl) (zby_w zwX9_insured_1 29 rfl) (zby_w zwX9_insured_1 30 rfl) (by decide)
theorem d_X9_insured_63 : decode cX9_insured 63 = .ok (.aload_n 0, 1) := zo_42 (zby_w zwX9_insured_1 31 rfl)
theorem d_X9_insured_64 : decode cX9_insured 64 = .ok (.iload 7, 2) := zo_21 (a := 7) (zby_w zwX9_insured_2 0 rfl) (zby_w zwX9_insured_2 1 rfl) (by decide)
theorem d_X9_insured_66 : decode cX9_insured 66 = .ok (.invokevirtual 265, 3) := zo_182 (a := 1) (b := 9) (zby_w zwX9_insured_2 2 rfl) (zby_w zwX9_insured_2 3 rfl) (zby_w zwX9_insured_2 4 rfl) (by decide)
theorem d_X9_insured_69 : decode cX9_insured 69 = .ok (.isub, 1) := zo_100 (zby_w zwX9_insured_2 5 rfl)
theorem d_X9_insured_70 : decode cX9_insured 70 = .ok (.imul, 1) := zo_104 (zby_w zwX9_insured_2 6 rfl)
theorem d_X9_insured_71 : decode cX9_insured 71 = .ok (.bipush 10, 2) := zo_16 (a := 10) (zby_w zwX9_insured_2 7 rfl) (zby_w zwX9_insured_2 8 rfl) (by decide)
theorem d_X9_insured_73 : decode cX9_insured 73 = .ok (.aload_n 0, 1) := zo_42 (zby_w zwX9_insured_2 9 rfl)
theorem d_X9_insured_74 : decode cX9_insured 74 = .ok (.iload 7, 2) := zo_21 (a := 7) (zby_w zwX9_insured_2 10 rfl) (zby_w zwX9_insured_2 11 rfl) (by decide)
theorem d_X9_insured_76 : decode cX9_insured 76 = .ok (.invokevirtual 268, 3) := zo_182 (a := 1) (b := 12) (zby_w zwX9_insured_2 12 rfl) (zby_w zwX9_insured_2 13 rfl) (zby_w zwX9_insured_2 14 rfl) (by decide)
theorem d_X9_insured_79 : decode cX9_insured 79 = .ok (.imul, 1) := zo_104 (zby_w zwX9_insured_2 15 rfl)
theorem d_X9_insured_80 : decode cX9_insured 80 = .ok (.iadd, 1) := zo_96 (zby_w zwX9_insured_2 16 rfl)
theorem d_X9_insured_81 : decode cX9_insured 81 = .ok (.istore 8, 2) := zo_54 (a := 8) (zby_w zwX9_insured_2 17 rfl) (zby_w zwX9_insured_2 18 rfl) (by decide)
theorem d_X9_insured_83 : decode cX9_insured 83 = .ok (.iload 7, 2) := zo_21 (a := 7) (zby_w zwX9_insured_2 19 rfl) (zby_w zwX9_insured_2 20 rfl) (by decide)
theorem d_X9_insured_85 : decode cX9_insured 85 = .ok (.aload_n 0, 1) := zo_42 (zby_w zwX9_insured_2 21 rfl)
theorem d_X9_insured_86 : decode cX9_insured 86 = .ok (.getfield 262, 3) := zo_180 (a := 1) (b := 6) (zby_w zwX9_insured_2 22 rfl) (zby_w zwX9_insured_2 23 rfl) (zby_w zwX9_insured_2 24 rfl) (by decide)
theorem d_X9_insured_89 : decode cX9_insured 89 = .ok (.iconst (-1), 1) := zo_2 (zby_w zwX9_insured_2 25 rfl)
theorem d_X9_insured_90 : decode cX9_insured 90 = .ok (.ixor, 1) := zo_130 (zby_w zwX9_insured_2 26 rfl)
theorem d_X9_insured_91 : decode cX9_insured 91 = .ok (.iand, 1) := zo_126 (zby_w zwX9_insured_2 27 rfl)
theorem d_X9_insured_92 : decode cX9_insured 92 = .ok (.ifCond .ne 14, 3) := zo_154 (a := 0) (b := 14) (zby_w zwX9_insured_2 28 rfl) (zby_w zwX9_insured_2 29 rfl) (zby_w zwX9_insured_2 30 rfl) (by decide)
theorem d_X9_insured_95 : decode cX9_insured 95 = .ok (.iload 8, 2) := zo_21 (a := 8) (zby_w zwX9_insured_2 31 rfl) (zby_w zwX9_insured_2 32 rfl) (by decide)
theorem d_X9_insured_97 : decode cX9_insured 97 = .ok (.iload 6, 2) := zo_21 (a := 6) (zby_w zwX9_insured_3 1 rfl) (zby_w zwX9_insured_3 2 rfl) (by decide)
theorem d_X9_insured_99 : decode cX9_insured 99 = .ok (.if_icmp .ge 7, 3) := zo_162 (a := 0) (b := 7) (zby_w zwX9_insured_3 3 rfl) (zby_w zwX9_insured_3 4 rfl) (zby_w zwX9_insured_3 5 rfl) (by decide)
theorem d_X9_insured_102 : decode cX9_insured 102 = .ok (.iconst 1, 1) := zo_4 (zby_w zwX9_insured_3 6 rfl)
theorem d_X9_insured_103 : decode cX9_insured 103 = .ok (.goto 4, 3) := zo_167 (a := 0) (b := 4) (zby_w zwX9_insured_3 7 rfl) (zby_w zwX9_insured_3 8 rfl) (zby_w zwX9_insured_3 9 rfl) (by decide)
theorem d_X9_insured_106 : decode cX9_insured 106 = .ok (.iconst 0, 1) := zo_3 (zby_w zwX9_insured_3 10 rfl)
theorem d_X9_insured_107 : decode cX9_insured 107 = .ok (.istore 9, 2) := zo_54 (a := 9) (zby_w zwX9_insured_3 11 rfl) (zby_w zwX9_insured_3 12 rfl) (by decide)
theorem d_X9_insured_109 : decode cX9_insured 109 = .ok (.iload 9, 2) := zo_21 (a := 9) (zby_w zwX9_insured_3 13 rfl) (zby_w zwX9_insured_3 14 rfl) (by decide)
theorem d_X9_insured_111 : decode cX9_insured 111 = .ok (.ifCond .eq 8, 3) := zo_153 (a := 0) (b := 8) (zby_w zwX9_insured_3 15 rfl) (zby_w zwX9_insured_3 16 rfl) (zby_w zwX9_insured_3 17 rfl) (by decide)
theorem d_X9_insured_114 : decode cX9_insured 114 = .ok (.iload 7, 2) := zo_21 (a := 7) (zby_w zwX9_insured_3 18 rfl) (zby_w zwX9_insured_3 19 rfl) (by decide)
theorem d_X9_insured_116 : decode cX9_insured 116 = .ok (.goto 5, 3) := zo_167 (a := 0) (b := 5) (zby_w zwX9_insured_3 20 rfl) (zby_w zwX9_insured_3 21 rfl) (zby_w zwX9_insured_3 22 rfl) (by decide)
theorem d_X9_insured_119 : decode cX9_insured 119 = .ok (.iload 5, 2) := zo_21 (a := 5) (zby_w zwX9_insured_3 23 rfl) (zby_w zwX9_insured_3 24 rfl) (by decide)
theorem d_X9_insured_121 : decode cX9_insured 121 = .ok (.istore 5, 2) := zo_54 (a := 5) (zby_w zwX9_insured_3 25 rfl) (zby_w zwX9_insured_3 26 rfl) (by decide)
theorem d_X9_insured_123 : decode cX9_insured 123 = .ok (.iload 9, 2) := zo_21 (a := 9) (zby_w zwX9_insured_3 27 rfl) (zby_w zwX9_insured_3 28 rfl) (by decide)
theorem d_X9_insured_125 : decode cX9_insured 125 = .ok (.ifCond .eq 8, 3) := zo_153 (a := 0) (b := 8) (zby_w zwX9_insured_3 29 rfl) (zby_w zwX9_insured_3 30 rfl) (zby_w zwX9_insured_3 31 rfl) (by decide)
theorem d_X9_insured_128 : decode cX9_insured 128 = .ok (.iload 8, 2) := zo_21 (a := 8) (zby_w zwX9_insured_4 0 rfl) (zby_w zwX9_insured_4 1 rfl) (by decide)
theorem d_X9_insured_130 : decode cX9_insured 130 = .ok (.goto 5, 3) := zo_167 (a := 0) (b := 5) (zby_w zwX9_insured_4 2 rfl) (zby_w zwX9_insured_4 3 rfl) (zby_w zwX9_insured_4 4 rfl) (by decide)
theorem d_X9_insured_133 : decode cX9_insured 133 = .ok (.iload 6, 2) := zo_21 (a := 6) (zby_w zwX9_insured_4 5 rfl) (zby_w zwX9_insured_4 6 rfl) (by decide)
theorem d_X9_insured_135 : decode cX9_insured 135 = .ok (.istore 6, 2) := zo_54 (a := 6) (zby_w zwX9_insured_4 7 rfl) (zby_w zwX9_insured_4 8 rfl) (by decide)
theorem d_X9_insured_137 : decode cX9_insured 137 = .ok (.iinc 7 1, 3) := by decide +kernel
theorem d_X9_insured_140 : decode cX9_insured 140 = .ok (.goto (-91), 3) := zo_167 (a := 255) (b := 165) (zby_w zwX9_insured_4 12 rfl) (zby_w zwX9_insured_4 13 rfl) (zby_w zwX9_insured_4 14 rfl) (by decide)
theorem d_X9_insured_143 : decode cX9_insured 143 = .ok (.iload_n 3, 1) := zo_29 (zby_w zwX9_insured_4 15 rfl)
theorem d_X9_insured_144 : decode cX9_insured 144 = .ok (.iconst 2, 1) := zo_5 (zby_w zwX9_insured_4 16 rfl)
theorem d_X9_insured_145 : decode cX9_insured 145 = .ok (.if_icmp .ge 19, 3) := zo_162 (a := 0) (b := 19) (zby_w zwX9_insured_4 17 rfl) (zby_w zwX9_insured_4 18 rfl) (zby_w zwX9_insured_4 19 rfl) (by decide)
theorem d_X9_insured_148 : decode cX9_insured 148 = .ok (.iload_n 3, 1) := zo_29 (zby_w zwX9_insured_4 20 rfl)
theorem d_X9_insured_149 : decode cX9_insured 149 = .ok (.ifCond .ne 12, 3) := zo_154 (a := 0) (b := 12) (zby_w zwX9_insured_4 21 rfl) (zby_w zwX9_insured_4 22 rfl) (zby_w zwX9_insured_4 23 rfl) (by decide)
theorem d_X9_insured_152 : decode cX9_insured 152 = .ok (.iload 6, 2) := zo_21 (a := 6) (zby_w zwX9_insured_4 24 rfl) (zby_w zwX9_insured_4 25 rfl) (by decide)
theorem d_X9_insured_154 : decode cX9_insured 154 = .ok (.ldc_w 271, 3) := zo_19 (a := 1) (b := 15) (zby_w zwX9_insured_4 26 rfl) (zby_w zwX9_insured_4 27 rfl) (zby_w zwX9_insured_4 28 rfl) (by decide)
theorem d_X9_insured_157 : decode cX9_insured 157 = .ok (.iadd, 1) := zo_96 (zby_w zwX9_insured_4 29 rfl)
theorem d_X9_insured_158 : decode cX9_insured 158 = .ok (.goto 5, 3) := zo_167 (a := 0) (b := 5) (zby_w zwX9_insured_4 30 rfl) (zby_w zwX9_insured_4 31 rfl) (zby_w zwX9_insured_4 32 rfl) (by decide)
theorem d_X9_insured_161 : decode cX9_insured 161 = .ok (.iload 5, 2) := zo_21 (a := 5) (zby_w zwX9_insured_5 1 rfl) (zby_w zwX9_insured_5 2 rfl) (by decide)
theorem d_X9_insured_163 : decode cX9_insured 163 = .ok (.ireturn, 1) := zo_172 (zby_w zwX9_insured_5 3 rfl)
theorem d_X9_insured_164 : decode cX9_insured 164 = .ok (.iload 4, 2) := zo_21 (a := 4) (zby_w zwX9_insured_5 4 rfl) (zby_w zwX9_insured_5 5 rfl) (by decide)
theorem d_X9_insured_166 : decode cX9_insured 166 = .ok (.ifCond .le 25, 3) := zo_158 (a := 0) (b := 25) (zby_w zwX9_insured_5 6 rfl) (zby_w zwX9_insured_5 7 rfl) (zby_w zwX9_insured_5 8 rfl) (by decide)
theorem d_X9_insured_169 : decode cX9_insured 169 = .ok (.aload_n 0, 1) := zo_42 (zby_w zwX9_insured_5 9 rfl)
theorem d_X9_insured_170 : decode cX9_insured 170 = .ok (.iload_n 1, 1) := zo_27 (zby_w zwX9_insured_5 10 rfl)
theorem d_X9_insured_171 : decode cX9_insured 171 = .ok (.invokevirtual 209, 3) := zo_182 (a := 0) (b := 209) (zby_w zwX9_insured_5 11 rfl) (zby_w zwX9_insured_5 12 rfl) (zby_w zwX9_insured_5 13 rfl) (by decide)
theorem d_X9_insured_174 : decode cX9_insured 174 = .ok (.aload_n 0, 1) := zo_42 (zby_w zwX9_insured_5 14 rfl)
theorem d_X9_insured_175 : decode cX9_insured 175 = .ok (.iload 5, 2) := zo_21 (a := 5) (zby_w zwX9_insured_5 15 rfl) (zby_w zwX9_insured_5 16 rfl) (by decide)
theorem d_X9_insured_177 : decode cX9_insured 177 = .ok (.invokevirtual 265, 3) := zo_182 (a := 1) (b := 9) (zby_w zwX9_insured_5 17 rfl) (zby_w zwX9_insured_5 18 rfl) (zby_w zwX9_insured_5 19 rfl) (by decide)
theorem d_X9_insured_180 : decode cX9_insured 180 = .ok (.isub, 1) := zo_100 (zby_w zwX9_insured_5 20 rfl)
theorem d_X9_insured_181 : decode cX9_insured 181 = .ok (.aload_n 0, 1) := zo_42 (zby_w zwX9_insured_5 21 rfl)
theorem d_X9_insured_182 : decode cX9_insured 182 = .ok (.iload 5, 2) := zo_21 (a := 5) (zby_w zwX9_insured_5 22 rfl) (zby_w zwX9_insured_5 23 rfl) (by decide)
theorem d_X9_insured_184 : decode cX9_insured 184 = .ok (.invokevirtual 268, 3) := zo_182 (a := 1) (b := 12) (zby_w zwX9_insured_5 24 rfl) (zby_w zwX9_insured_5 25 rfl) (zby_w zwX9_insured_5 26 rfl) (by decide)
theorem d_X9_insured_187 : decode cX9_insured 187 = .ok (.iadd, 1) := zo_96 (zby_w zwX9_insured_5 27 rfl)
theorem d_X9_insured_188 : decode cX9_insured 188 = .ok (.goto 4, 3) := zo_167 (a := 0) (b := 4) (zby_w zwX9_insured_5 28 rfl) (zby_w zwX9_insured_5 29 rfl) (zby_w zwX9_insured_5 30 rfl) (by decide)
theorem d_X9_insured_191 : decode cX9_insured 191 = .ok (.iconst 0, 1) := zo_3 (zby_w zwX9_insured_5 31 rfl)
theorem d_X9_insured_192 : decode cX9_insured 192 = .ok (.istore 7, 2) := zo_54 (a := 7) (zby_w zwX9_insured_6 0 rfl) (zby_w zwX9_insured_6 1 rfl) (by decide)
theorem d_X9_insured_194 : decode cX9_insured 194 = .ok (.aload_n 0, 1) := zo_42 (zby_w zwX9_insured_6 2 rfl)
theorem d_X9_insured_195 : decode cX9_insured 195 = .ok (.iload 5, 2) := zo_21 (a := 5) (zby_w zwX9_insured_6 3 rfl) (zby_w zwX9_insured_6 4 rfl) (by decide)
theorem d_X9_insured_197 : decode cX9_insured 197 = .ok (.invokevirtual 268, 3) := zo_182 (a := 1) (b := 12) (zby_w zwX9_insured_6 5 rfl) (zby_w zwX9_insured_6 6 rfl) (zby_w zwX9_insured_6 7 rfl) (by decide)
theorem d_X9_insured_200 : decode cX9_insured 200 = .ok (.iload 7, 2) := zo_21 (a := 7) (zby_w zwX9_insured_6 8 rfl) (zby_w zwX9_insured_6 9 rfl) (by decide)
theorem d_X9_insured_202 : decode cX9_insured 202 = .ok (.if_icmp .le 12, 3) := zo_164 (a := 0) (b := 12) (zby_w zwX9_insured_6 10 rfl) (zby_w zwX9_insured_6 11 rfl) (zby_w zwX9_insured_6 12 rfl) (by decide)
theorem d_X9_insured_205 : decode cX9_insured 205 = .ok (.aload_n 0, 1) := zo_42 (zby_w zwX9_insured_6 13 rfl)
theorem d_X9_insured_206 : decode cX9_insured 206 = .ok (.iload 5, 2) := zo_21 (a := 5) (zby_w zwX9_insured_6 14 rfl) (zby_w zwX9_insured_6 15 rfl) (by decide)
theorem d_X9_insured_208 : decode cX9_insured 208 = .ok (.invokevirtual 268, 3) := zo_182 (a := 1) (b := 12) (zby_w zwX9_insured_6 16 rfl) (zby_w zwX9_insured_6 17 rfl) (zby_w zwX9_insured_6 18 rfl) (by decide)
theorem d_X9_insured_211 : decode cX9_insured 211 = .ok (.goto 5, 3) := zo_167 (a := 0) (b := 5) (zby_w zwX9_insured_6 19 rfl) (zby_w zwX9_insured_6 20 rfl) (zby_w zwX9_insured_6 21 rfl) (by decide)
theorem d_X9_insured_214 : decode cX9_insured 214 = .ok (.iload 7, 2) := zo_21 (a := 7) (zby_w zwX9_insured_6 22 rfl) (zby_w zwX9_insured_6 23 rfl) (by decide)
theorem d_X9_insured_216 : decode cX9_insured 216 = .ok (.istore 8, 2) := zo_54 (a := 8) (zby_w zwX9_insured_6 24 rfl) (zby_w zwX9_insured_6 25 rfl) (by decide)
theorem d_X9_insured_218 : decode cX9_insured 218 = .ok (.iload 8, 2) := zo_21 (a := 8) (zby_w zwX9_insured_6 26 rfl) (zby_w zwX9_insured_6 27 rfl) (by decide)
theorem d_X9_insured_220 : decode cX9_insured 220 = .ok (.ifCond .le 8, 3) := zo_158 (a := 0) (b := 8) (zby_w zwX9_insured_6 28 rfl) (zby_w zwX9_insured_6 29 rfl) (zby_w zwX9_insured_6 30 rfl) (by decide)
theorem d_X9_insured_223 : decode cX9_insured 223 = .ok (.iload 8, 2) := zo_21 (a := 8) (zby_w zwX9_insured_6 31 rfl) (zby_w zwX9_insured_6 32 rfl) (by decide)
theorem d_X9_insured_225 : decode cX9_insured 225 = .ok (.goto 4, 3) := zo_167 (a := 0) (b := 4) (zby_w zwX9_insured_7 1 rfl) (zby_w zwX9_insured_7 2 rfl) (zby_w zwX9_insured_7 3 rfl) (by decide)
theorem d_X9_insured_228 : decode cX9_insured 228 = .ok (.iconst 0, 1) := zo_3 (zby_w zwX9_insured_7 4 rfl)
theorem d_X9_insured_229 : decode cX9_insured 229 = .ok (.ireturn, 1) := zo_172 (zby_w zwX9_insured_7 5 rfl)
theorem d_X9_isAboard_0 : decode cX9_isAboard 0 = .ok (.iload_n 1, 1) := zo_27 (zby_w zwX9_isAboard_0 0 rfl)
theorem d_X9_isAboard_1 : decode cX9_isAboard 1 = .ok (.i2l, 1) := zo_133 (zby_w zwX9_isAboard_0 1 rfl)
theorem d_X9_isAboard_2 : decode cX9_isAboard 2 = .ok (.lconst 0, 1) := zo_9 (zby_w zwX9_isAboard_0 2 rfl)
theorem d_X9_isAboard_3 : decode cX9_isAboard 3 = .ok (.ldc2_w 118, 3) := zo_20 (a := 0) (b := 118) (zby_w zwX9_isAboard_0 3 rfl) (zby_w zwX9_isAboard_0 4 rfl) (zby_w zwX9_isAboard_0 5 rfl) (by decide)
theorem d_X9_isAboard_6 : decode cX9_isAboard 6 = .ok (.invokestatic 89, 3) := zo_184 (a := 0) (b := 89) (zby_w zwX9_isAboard_0 6 rfl) (zby_w zwX9_isAboard_0 7 rfl) (zby_w zwX9_isAboard_0 8 rfl) (by decide)
theorem d_X9_isAboard_9 : decode cX9_isAboard 9 = .ok (.ifCond .eq 19, 3) := zo_153 (a := 0) (b := 19) (zby_w zwX9_isAboard_0 9 rfl) (zby_w zwX9_isAboard_0 10 rfl) (zby_w zwX9_isAboard_0 11 rfl) (by decide)
theorem d_X9_isAboard_12 : decode cX9_isAboard 12 = .ok (.aload_n 0, 1) := zo_42 (zby_w zwX9_isAboard_0 12 rfl)
theorem d_X9_isAboard_13 : decode cX9_isAboard 13 = .ok (.getfield 272, 3) := zo_180 (a := 1) (b := 16) (zby_w zwX9_isAboard_0 13 rfl) (zby_w zwX9_isAboard_0 14 rfl) (zby_w zwX9_isAboard_0 15 rfl) (by decide)
theorem d_X9_isAboard_16 : decode cX9_isAboard 16 = .ok (.iload_n 1, 1) := zo_27 (zby_w zwX9_isAboard_0 16 rfl)
theorem d_X9_isAboard_17 : decode cX9_isAboard 17 = .ok (.ishr, 1) := zo_122 (zby_w zwX9_isAboard_0 17 rfl)
theorem d_X9_isAboard_18 : decode cX9_isAboard 18 = .ok (.iconst 1, 1) := zo_4 (zby_w zwX9_isAboard_0 18 rfl)
theorem d_X9_isAboard_19 : decode cX9_isAboard 19 = .ok (.iand, 1) := zo_126 (zby_w zwX9_isAboard_0 19 rfl)
theorem d_X9_isAboard_20 : decode cX9_isAboard 20 = .ok (.iconst 1, 1) := zo_4 (zby_w zwX9_isAboard_0 20 rfl)
theorem d_X9_isAboard_21 : decode cX9_isAboard 21 = .ok (.if_icmp .ne 7, 3) := zo_160 (a := 0) (b := 7) (zby_w zwX9_isAboard_0 21 rfl) (zby_w zwX9_isAboard_0 22 rfl) (zby_w zwX9_isAboard_0 23 rfl) (by decide)
theorem d_X9_isAboard_24 : decode cX9_isAboard 24 = .ok (.iconst 1, 1) := zo_4 (zby_w zwX9_isAboard_0 24 rfl)
theorem d_X9_isAboard_25 : decode cX9_isAboard 25 = .ok (.goto 4, 3) := zo_167 (a := 0) (b := 4) (zby_w zwX9_isAboard_0 25 rfl) (zby_w zwX9_isAboard_0 26 rfl) (zby_w zwX9_isAboard_0 27 rfl) (by decide)
theorem d_X9_isAboard_28 : decode cX9_isAboard 28 = .ok (.iconst 0, 1) := zo_3 (zby_w zwX9_isAboard_0 28 rfl)
theorem d_X9_isAboard_29 : decode cX9_isAboard 29 = .ok (.ireturn, 1) := zo_172 (zby_w zwX9_isAboard_0 29 rfl)
theorem d_X9_isHour_0 : decode cX9_isHour 0 = .ok (.iload_n 0, 1) := zo_26 (zby_w zwX9_isHour_0 0 rfl)
theorem d_X9_isHour_1 : decode cX9_isHour 1 = .ok (.i2l, 1) := zo_133 (zby_w zwX9_isHour_0 1 rfl)
theorem d_X9_isHour_2 : decode cX9_isHour 2 = .ok (.lconst 0, 1) := zo_9 (zby_w zwX9_isHour_0 2 rfl)
theorem d_X9_isHour_3 : decode cX9_isHour 3 = .ok (.ldc2_w 100, 3) := zo_20 (a := 0) (b := 100) (zby_w zwX9_isHour_0 3 rfl) (zby_w zwX9_isHour_0 4 rfl) (zby_w zwX9_isHour_0 5 rfl) (by decide)
theorem d_X9_isHour_6 : decode cX9_isHour 6 = .ok (.invokestatic 89, 3) := zo_184 (a := 0) (b := 89) (zby_w zwX9_isHour_0 6 rfl) (zby_w zwX9_isHour_0 7 rfl) (zby_w zwX9_isHour_0 8 rfl) (by decide)
theorem d_X9_isHour_9 : decode cX9_isHour 9 = .ok (.ireturn, 1) := zo_172 (zby_w zwX9_isHour_0 9 rfl)
theorem d_X9_isInHarbour_0 : decode cX9_isInHarbour 0 = .ok (.aload_n 0, 1) := zo_42 (zby_w zwX9_isInHarbour_0 0 rfl)
theorem d_X9_isInHarbour_1 : decode cX9_isInHarbour 1 = .ok (.iload_n 1, 1) := zo_27 (zby_w zwX9_isInHarbour_0 1 rfl)
theorem d_X9_isInHarbour_2 : decode cX9_isInHarbour 2 = .ok (.invokevirtual 112, 3) := zo_182 (a := 0) (b := 112) (zby_w zwX9_isInHarbour_0 2 rfl) (zby_w zwX9_isInHarbour_0 3 rfl) (zby_w zwX9_isInHarbour_0 4 rfl) (by decide)
theorem d_X9_isInHarbour_5 : decode cX9_isInHarbour 5 = .ok (.ifCond .eq 16, 3) := zo_153 (a := 0) (b := 16) (zby_w zwX9_isInHarbour_0 5 rfl) (zby_w zwX9_isInHarbour_0 6 rfl) (zby_w zwX9_isInHarbour_0 7 rfl) (by decide)
theorem d_X9_isInHarbour_8 : decode cX9_isInHarbour 8 = .ok (.aload_n 0, 1) := zo_42 (zby_w zwX9_isInHarbour_0 8 rfl)
theorem d_X9_isInHarbour_9 : decode cX9_isInHarbour 9 = .ok (.getfield 19, 3) := zo_180 (a := 0) (b := 19) (zby_w zwX9_isInHarbour_0 9 rfl) (zby_w zwX9_isInHarbour_0 10 rfl) (zby_w zwX9_isInHarbour_0 11 rfl) (by decide)
theorem d_X9_isInHarbour_12 : decode cX9_isInHarbour 12 = .ok (.iload_n 1, 1) := zo_27 (zby_w zwX9_isInHarbour_0 12 rfl)
theorem d_X9_isInHarbour_13 : decode cX9_isInHarbour 13 = .ok (.iaload, 1) := zo_46 (zby_w zwX9_isInHarbour_0 13 rfl)
theorem d_X9_isInHarbour_14 : decode cX9_isInHarbour 14 = .ok (.ifCond .ne 7, 3) := zo_154 (a := 0) (b := 7) (zby_w zwX9_isInHarbour_0 14 rfl) (zby_w zwX9_isInHarbour_0 15 rfl) (zby_w zwX9_isInHarbour_0 16 rfl) (by decide)
theorem d_X9_isInHarbour_17 : decode cX9_isInHarbour 17 = .ok (.iconst 1, 1) := zo_4 (zby_w zwX9_isInHarbour_0 17 rfl)
theorem d_X9_isInHarbour_18 : decode cX9_isInHarbour 18 = .ok (.goto 4, 3) := zo_167 (a := 0) (b := 4) (zby_w zwX9_isInHarbour_0 18 rfl) (zby_w zwX9_isInHarbour_0 19 rfl) (zby_w zwX9_isInHarbour_0 20 rfl) (by decide)
theorem d_X9_isInHarbour_21 : decode cX9_isInHarbour 21 = .ok (.iconst 0, 1) := zo_3 (zby_w zwX9_isInHarbour_0 21 rfl)
theorem d_X9_isInHarbour_22 : decode cX9_isInHarbour 22 = .ok (.ireturn, 1) := zo_172 (zby_w zwX9_isInHarbour_0 22 rfl)
theorem d_X9_isNumber_0 : decode cX9_isNumber 0 = .ok (.iload_n 0, 1) := zo_26 (zby_w zwX9_isNumber_0 0 rfl)
theorem d_X9_isNumber_1 : decode cX9_isNumber 1 = .ok (.i2l, 1) := zo_133 (zby_w zwX9_isNumber_0 1 rfl)
theorem d_X9_isNumber_2 : decode cX9_isNumber 2 = .ok (.lconst 0, 1) := zo_9 (zby_w zwX9_isNumber_0 2 rfl)
theorem d_X9_isNumber_3 : decode cX9_isNumber 3 = .ok (.ldc2_w 87, 3) := zo_20 (a := 0) (b := 87) (zby_w zwX9_isNumber_0 3 rfl) (zby_w zwX9_isNumber_0 4 rfl) (zby_w zwX9_isNumber_0 5 rfl) (by decide)
theorem d_X9_isNumber_6 : decode cX9_isNumber 6 = .ok (.invokestatic 89, 3) := zo_184 (a := 0) (b := 89) (zby_w zwX9_isNumber_0 6 rfl) (zby_w zwX9_isNumber_0 7 rfl) (zby_w zwX9_isNumber_0 8 rfl) (by decide)
theorem d_X9_isNumber_9 : decode cX9_isNumber 9 = .ok (.ireturn, 1) := zo_172 (zby_w zwX9_isNumber_0 9 rfl)
theorem d_X9_isOnLine_0 : decode cX9_isOnLine 0 = .ok (.iconst 1, 1) := zo_4 (zby_w zwX9_isOnLine_0 0 rfl)
theorem d_X9_isOnLine_1 : decode cX9_isOnLine 1 = .ok (.istore_n 2, 1) := zo_61 (zby_w zwX9_isOnLine_0 1 rfl)
theorem d_X9_isOnLine_2 : decode cX9_isOnLine 2 = .ok (.iconst 0, 1) := zo_3 (zby_w zwX9_isOnLine_0 2 rfl)
theorem d_X9_isOnLine_3 : decode cX9_isOnLine 3 = .ok (.istore_n 3, 1) := zo_62 (zby_w zwX9_isOnLine_0 3 rfl)
theorem d_X9_isOnLine_4 : decode cX9_isOnLine 4 = .ok (.iload_n 3, 1) := zo_29 (zby_w zwX9_isOnLine_0 4 rfl)
theorem d_X9_isOnLine_5 : decode cX9_isOnLine 5 = .ok (.aload_n 0, 1) := zo_42 (zby_w zwX9_isOnLine_0 5 rfl)
theorem d_X9_isOnLine_6 : decode cX9_isOnLine 6 = .ok (.getfield 231, 3) := zo_180 (a := 0) (b := 231) (zby_w zwX9_isOnLine_0 6 rfl) (zby_w zwX9_isOnLine_0 7 rfl) (zby_w zwX9_isOnLine_0 8 rfl) (by decide)
theorem d_X9_isOnLine_9 : decode cX9_isOnLine 9 = .ok (.if_icmp .ge 108, 3) := zo_162 (a := 0) (b := 108) (zby_w zwX9_isOnLine_0 9 rfl) (zby_w zwX9_isOnLine_0 10 rfl) (zby_w zwX9_isOnLine_0 11 rfl) (by decide)
theorem d_X9_isOnLine_12 : decode cX9_isOnLine 12 = .ok (.iload_n 2, 1) := zo_28 (zby_w zwX9_isOnLine_0 12 rfl)
theorem d_X9_isOnLine_13 : decode cX9_isOnLine 13 = .ok (.ifCond .eq 104, 3) := zo_153 (a := 0) (b := 104) (zby_w zwX9_isOnLine_0 13 rfl) (zby_w zwX9_isOnLine_0 14 rfl) (zby_w zwX9_isOnLine_0 15 rfl) (by decide)
theorem d_X9_isOnLine_16 : decode cX9_isOnLine 16 = .ok (.aload_n 0, 1) := zo_42 (zby_w zwX9_isOnLine_0 16 rfl)
theorem d_X9_isOnLine_17 : decode cX9_isOnLine 17 = .ok (.getfield 46, 3) := zo_180 (a := 0) (b := 46) (zby_w zwX9_isOnLine_0 17 rfl) (zby_w zwX9_isOnLine_0 18 rfl) (zby_w zwX9_isOnLine_0 19 rfl) (by decide)
theorem d_X9_isOnLine_20 : decode cX9_isOnLine 20 = .ok (.iload_n 3, 1) := zo_29 (zby_w zwX9_isOnLine_0 20 rfl)
theorem d_X9_isOnLine_21 : decode cX9_isOnLine 21 = .ok (.iaload, 1) := zo_46 (zby_w zwX9_isOnLine_0 21 rfl)
theorem d_X9_isOnLine_22 : decode cX9_isOnLine 22 = .ok (.aload_n 0, 1) := zo_42 (zby_w zwX9_isOnLine_0 22 rfl)
theorem d_X9_isOnLine_23 : decode cX9_isOnLine 23 = .ok (.getfield 46, 3) := zo_180 (a := 0) (b := 46) (zby_w zwX9_isOnLine_0 23 rfl) (zby_w zwX9_isOnLine_0 24 rfl) (zby_w zwX9_isOnLine_0 25 rfl) (by decide)
theorem d_X9_isOnLine_26 : decode cX9_isOnLine 26 = .ok (.iload_n 1, 1) := zo_27 (zby_w zwX9_isOnLine_0 26 rfl)
theorem d_X9_isOnLine_27 : decode cX9_isOnLine 27 = .ok (.iaload, 1) := zo_46 (zby_w zwX9_isOnLine_0 27 rfl)
theorem d_X9_isOnLine_28 : decode cX9_isOnLine 28 = .ok (.if_icmp .gt 22, 3) := zo_163 (a := 0) (b := 22) (zby_w zwX9_isOnLine_0 28 rfl) (zby_w zwX9_isOnLine_0 29 rfl) (zby_w zwX9_isOnLine_0 30 rfl) (by decide)
theorem d_X9_isOnLine_31 : decode cX9_isOnLine 31 = .ok (.aload_n 0, 1) := zo_42 (zby_w zwX9_isOnLine_0 31 rfl)
theorem d_X9_isOnLine_32 : decode cX9_isOnLine 32 = .ok (.getfield 49, 3) := zo_180 (a := 0) (b := 49) (zby_w zwX9_isOnLine_1 0 rfl) (zby_w zwX9_isOnLine_1 1 rfl) (zby_w zwX9_isOnLine_1 2 rfl) (by decide)
theorem d_X9_isOnLine_35 : decode cX9_isOnLine 35 = .ok (.iload_n 3, 1) := zo_29 (zby_w zwX9_isOnLine_1 3 rfl)
theorem d_X9_isOnLine_36 : decode cX9_isOnLine 36 = .ok (.iaload, 1) := zo_46 (zby_w zwX9_isOnLine_1 4 rfl)
theorem d_X9_isOnLine_37 : decode cX9_isOnLine 37 = .ok (.aload_n 0, 1) := zo_42 (zby_w zwX9_isOnLine_1 5 rfl)
theorem d_X9_isOnLine_38 : decode cX9_isOnLine 38 = .ok (.getfield 49, 3) := zo_180 (a := 0) (b := 49) (zby_w zwX9_isOnLine_1 6 rfl) (zby_w zwX9_isOnLine_1 7 rfl) (zby_w zwX9_isOnLine_1 8 rfl) (by decide)
theorem d_X9_isOnLine_41 : decode cX9_isOnLine 41 = .ok (.iload_n 1, 1) := zo_27 (zby_w zwX9_isOnLine_1 9 rfl)
theorem d_X9_isOnLine_42 : decode cX9_isOnLine 42 = .ok (.iaload, 1) := zo_46 (zby_w zwX9_isOnLine_1 10 rfl)
theorem d_X9_isOnLine_43 : decode cX9_isOnLine 43 = .ok (.if_icmp .gt 7, 3) := zo_163 (a := 0) (b := 7) (zby_w zwX9_isOnLine_1 11 rfl) (zby_w zwX9_isOnLine_1 12 rfl) (zby_w zwX9_isOnLine_1 13 rfl) (by decide)
theorem d_X9_isOnLine_46 : decode cX9_isOnLine 46 = .ok (.iconst 1, 1) := zo_4 (zby_w zwX9_isOnLine_1 14 rfl)
theorem d_X9_isOnLine_47 : decode cX9_isOnLine 47 = .ok (.goto 4, 3) := zo_167 (a := 0) (b := 4) (zby_w zwX9_isOnLine_1 15 rfl) (zby_w zwX9_isOnLine_1 16 rfl) (zby_w zwX9_isOnLine_1 17 rfl) (by decide)
theorem d_X9_isOnLine_50 : decode cX9_isOnLine 50 = .ok (.iconst 0, 1) := zo_3 (zby_w zwX9_isOnLine_1 18 rfl)
theorem d_X9_isOnLine_51 : decode cX9_isOnLine 51 = .ok (.istore 4, 2) := zo_54 (a := 4) (zby_w zwX9_isOnLine_1 19 rfl) (zby_w zwX9_isOnLine_1 20 rfl) (by decide)
theorem d_X9_isOnLine_53 : decode cX9_isOnLine 53 = .ok (.aload_n 0, 1) := zo_42 (zby_w zwX9_isOnLine_1 21 rfl)
theorem d_X9_isOnLine_54 : decode cX9_isOnLine 54 = .ok (.getfield 46, 3) := zo_180 (a := 0) (b := 46) (zby_w zwX9_isOnLine_1 22 rfl) (zby_w zwX9_isOnLine_1 23 rfl) (zby_w zwX9_isOnLine_1 24 rfl) (by decide)
theorem d_X9_isOnLine_57 : decode cX9_isOnLine 57 = .ok (.iload_n 3, 1) := zo_29 (zby_w zwX9_isOnLine_1 25 rfl)
theorem d_X9_isOnLine_58 : decode cX9_isOnLine 58 = .ok (.iaload, 1) := zo_46 (zby_w zwX9_isOnLine_1 26 rfl)
theorem d_X9_isOnLine_59 : decode cX9_isOnLine 59 = .ok (.aload_n 0, 1) := zo_42 (zby_w zwX9_isOnLine_1 27 rfl)
theorem d_X9_isOnLine_60 : decode cX9_isOnLine 60 = .ok (.getfield 46, 3) := zo_180 (a := 0) (b := 46) (zby_w zwX9_isOnLine_1 28 rfl) (zby_w zwX9_isOnLine_1 29 rfl) (zby_w zwX9_isOnLine_1 30 rfl) (by decide)
theorem d_X9_isOnLine_63 : decode cX9_isOnLine 63 = .ok (.iload_n 1, 1) := zo_27 (zby_w zwX9_isOnLine_1 31 rfl)
theorem d_X9_isOnLine_64 : decode cX9_isOnLine 64 = .ok (.iaload, 1) := zo_46 (zby_w zwX9_isOnLine_2 0 rfl)
theorem d_X9_isOnLine_65 : decode cX9_isOnLine 65 = .ok (.if_icmp .lt 18, 3) := zo_161 (a := 0) (b := 18) (zby_w zwX9_isOnLine_2 1 rfl) (zby_w zwX9_isOnLine_2 2 rfl) (zby_w zwX9_isOnLine_2 3 rfl) (by decide)
theorem d_X9_isOnLine_68 : decode cX9_isOnLine 68 = .ok (.aload_n 0, 1) := zo_42 (zby_w zwX9_isOnLine_2 4 rfl)
theorem d_X9_isOnLine_69 : decode cX9_isOnLine 69 = .ok (.getfield 49, 3) := zo_180 (a := 0) (b := 49) (zby_w zwX9_isOnLine_2 5 rfl) (zby_w zwX9_isOnLine_2 6 rfl) (zby_w zwX9_isOnLine_2 7 rfl) (by decide)
theorem d_X9_isOnLine_72 : decode cX9_isOnLine 72 = .ok (.iload_n 3, 1) := zo_29 (zby_w zwX9_isOnLine_2 8 rfl)
theorem d_X9_isOnLine_73 : decode cX9_isOnLine 73 = .ok (.iaload, 1) := zo_46 (zby_w zwX9_isOnLine_2 9 rfl)
theorem d_X9_isOnLine_74 : decode cX9_isOnLine 74 = .ok (.aload_n 0, 1) := zo_42 (zby_w zwX9_isOnLine_2 10 rfl)
theorem d_X9_isOnLine_75 : decode cX9_isOnLine 75 = .ok (.getfield 49, 3) := zo_180 (a := 0) (b := 49) (zby_w zwX9_isOnLine_2 11 rfl) (zby_w zwX9_isOnLine_2 12 rfl) (zby_w zwX9_isOnLine_2 13 rfl) (by decide)
theorem d_X9_isOnLine_78 : decode cX9_isOnLine 78 = .ok (.iload_n 1, 1) := zo_27 (zby_w zwX9_isOnLine_2 14 rfl)
theorem d_X9_isOnLine_79 : decode cX9_isOnLine 79 = .ok (.iaload, 1) := zo_46 (zby_w zwX9_isOnLine_2 15 rfl)
theorem d_X9_isOnLine_80 : decode cX9_isOnLine 80 = .ok (.if_icmp .ge 7, 3) := zo_162 (a := 0) (b := 7) (zby_w zwX9_isOnLine_2 16 rfl) (zby_w zwX9_isOnLine_2 17 rfl) (zby_w zwX9_isOnLine_2 18 rfl) (by decide)
theorem d_X9_isOnLine_83 : decode cX9_isOnLine 83 = .ok (.iconst 1, 1) := zo_4 (zby_w zwX9_isOnLine_2 19 rfl)
theorem d_X9_isOnLine_84 : decode cX9_isOnLine 84 = .ok (.goto 4, 3) := zo_167 (a := 0) (b := 4) (zby_w zwX9_isOnLine_2 20 rfl) (zby_w zwX9_isOnLine_2 21 rfl) (zby_w zwX9_isOnLine_2 22 rfl) (by decide)
theorem d_X9_isOnLine_87 : decode cX9_isOnLine 87 = .ok (.iconst 0, 1) := zo_3 (zby_w zwX9_isOnLine_2 23 rfl)
theorem d_X9_isOnLine_88 : decode cX9_isOnLine 88 = .ok (.istore 5, 2) := zo_54 (a := 5) (zby_w zwX9_isOnLine_2 24 rfl) (zby_w zwX9_isOnLine_2 25 rfl) (by decide)
theorem d_X9_isOnLine_90 : decode cX9_isOnLine 90 = .ok (.iload 4, 2) := zo_21 (a := 4) (zby_w zwX9_isOnLine_2 26 rfl) (zby_w zwX9_isOnLine_2 27 rfl) (by decide)
theorem d_X9_isOnLine_92 : decode cX9_isOnLine 92 = .ok (.ifCond .eq 13, 3) := zo_153 (a := 0) (b := 13) (zby_w zwX9_isOnLine_2 28 rfl) (zby_w zwX9_isOnLine_2 29 rfl) (zby_w zwX9_isOnLine_2 30 rfl) (by decide)
theorem d_X9_isOnLine_95 : decode cX9_isOnLine 95 = .ok (.iload 5, 2) := zo_21 (a := 5) (zby_w zwX9_isOnLine_2 31 rfl) (zby_w zwX9_isOnLine_2 32 rfl) (by decide)
theorem d_X9_isOnLine_97 : decode cX9_isOnLine 97 = .ok (.ifCond .ne 12, 3) := zo_154 (a := 0) (b := 12) (zby_w zwX9_isOnLine_3 1 rfl) (zby_w zwX9_isOnLine_3 2 rfl) (zby_w zwX9_isOnLine_3 3 rfl) (by decide)
theorem d_X9_isOnLine_100 : decode cX9_isOnLine 100 = .ok (.iload_n 3, 1) := zo_29 (zby_w zwX9_isOnLine_3 4 rfl)
theorem d_X9_isOnLine_101 : decode cX9_isOnLine 101 = .ok (.iload_n 1, 1) := zo_27 (zby_w zwX9_isOnLine_3 5 rfl)
theorem d_X9_isOnLine_102 : decode cX9_isOnLine 102 = .ok (.if_icmp .lt 7, 3) := zo_161 (a := 0) (b := 7) (zby_w zwX9_isOnLine_3 6 rfl) (zby_w zwX9_isOnLine_3 7 rfl) (zby_w zwX9_isOnLine_3 8 rfl) (by decide)
theorem d_X9_isOnLine_105 : decode cX9_isOnLine 105 = .ok (.iconst 1, 1) := zo_4 (zby_w zwX9_isOnLine_3 9 rfl)
theorem d_X9_isOnLine_106 : decode cX9_isOnLine 106 = .ok (.goto 4, 3) := zo_167 (a := 0) (b := 4) (zby_w zwX9_isOnLine_3 10 rfl) (zby_w zwX9_isOnLine_3 11 rfl) (zby_w zwX9_isOnLine_3 12 rfl) (by decide)
theorem d_X9_isOnLine_109 : decode cX9_isOnLine 109 = .ok (.iconst 0, 1) := zo_3 (zby_w zwX9_isOnLine_3 13 rfl)
theorem d_X9_isOnLine_110 : decode cX9_isOnLine 110 = .ok (.istore_n 2, 1) := zo_61 (zby_w zwX9_isOnLine_3 14 rfl)
theorem d_X9_isOnLine_111 : decode cX9_isOnLine 111 = .ok (.iinc 3 1, 3) := by decide +kernel
theorem d_X9_isOnLine_114 : decode cX9_isOnLine 114 = .ok (.goto (-110), 3) := zo_167 (a := 255) (b := 146) (zby_w zwX9_isOnLine_3 18 rfl) (zby_w zwX9_isOnLine_3 19 rfl) (zby_w zwX9_isOnLine_3 20 rfl) (by decide)
theorem d_X9_isOnLine_117 : decode cX9_isOnLine 117 = .ok (.iload_n 2, 1) := zo_28 (zby_w zwX9_isOnLine_3 21 rfl)
theorem d_X9_isOnLine_118 : decode cX9_isOnLine 118 = .ok (.ireturn, 1) := zo_172 (zby_w zwX9_isOnLine_3 22 rfl)
theorem d_X9_isShip_0 : decode cX9_isShip 0 = .ok (.iload_n 1, 1) := zo_27 (zby_w zwX9_isShip_0 0 rfl)
theorem d_X9_isShip_1 : decode cX9_isShip 1 = .ok (.invokestatic 93, 3) := zo_184 (a := 0) (b := 93) (zby_w zwX9_isShip_0 1 rfl) (zby_w zwX9_isShip_0 2 rfl) (zby_w zwX9_isShip_0 3 rfl) (by decide)
theorem d_X9_isShip_4 : decode cX9_isShip 4 = .ok (.ifCond .eq 19, 3) := zo_153 (a := 0) (b := 19) (zby_w zwX9_isShip_0 4 rfl) (zby_w zwX9_isShip_0 5 rfl) (zby_w zwX9_isShip_0 6 rfl) (by decide)
theorem d_X9_isShip_7 : decode cX9_isShip 7 = .ok (.aload_n 0, 1) := zo_42 (zby_w zwX9_isShip_0 7 rfl)
theorem d_X9_isShip_8 : decode cX9_isShip 8 = .ok (.getfield 97, 3) := zo_180 (a := 0) (b := 97) (zby_w zwX9_isShip_0 8 rfl) (zby_w zwX9_isShip_0 9 rfl) (zby_w zwX9_isShip_0 10 rfl) (by decide)
theorem d_X9_isShip_11 : decode cX9_isShip 11 = .ok (.iload_n 1, 1) := zo_27 (zby_w zwX9_isShip_0 11 rfl)
theorem d_X9_isShip_12 : decode cX9_isShip 12 = .ok (.ishr, 1) := zo_122 (zby_w zwX9_isShip_0 12 rfl)
theorem d_X9_isShip_13 : decode cX9_isShip 13 = .ok (.iconst 1, 1) := zo_4 (zby_w zwX9_isShip_0 13 rfl)
theorem d_X9_isShip_14 : decode cX9_isShip 14 = .ok (.iand, 1) := zo_126 (zby_w zwX9_isShip_0 14 rfl)
theorem d_X9_isShip_15 : decode cX9_isShip 15 = .ok (.iconst 1, 1) := zo_4 (zby_w zwX9_isShip_0 15 rfl)
theorem d_X9_isShip_16 : decode cX9_isShip 16 = .ok (.if_icmp .ne 7, 3) := zo_160 (a := 0) (b := 7) (zby_w zwX9_isShip_0 16 rfl) (zby_w zwX9_isShip_0 17 rfl) (zby_w zwX9_isShip_0 18 rfl) (by decide)
theorem d_X9_isShip_19 : decode cX9_isShip 19 = .ok (.iconst 1, 1) := zo_4 (zby_w zwX9_isShip_0 19 rfl)
theorem d_X9_isShip_20 : decode cX9_isShip 20 = .ok (.goto 4, 3) := zo_167 (a := 0) (b := 4) (zby_w zwX9_isShip_0 20 rfl) (zby_w zwX9_isShip_0 21 rfl) (zby_w zwX9_isShip_0 22 rfl) (by decide)
theorem d_X9_isShip_23 : decode cX9_isShip 23 = .ok (.iconst 0, 1) := zo_3 (zby_w zwX9_isShip_0 23 rfl)
theorem d_X9_isShip_24 : decode cX9_isShip 24 = .ok (.ireturn, 1) := zo_172 (zby_w zwX9_isShip_0 24 rfl)
theorem d_X9_isSide_0 : decode cX9_isSide 0 = .ok (.iload_n 0, 1) := zo_26 (zby_w zwX9_isSide_0 0 rfl)
theorem d_X9_isSide_1 : decode cX9_isSide 1 = .ok (.i2l, 1) := zo_133 (zby_w zwX9_isSide_0 1 rfl)
theorem d_X9_isSide_2 : decode cX9_isSide 2 = .ok (.lconst 0, 1) := zo_9 (zby_w zwX9_isSide_0 2 rfl)
theorem d_X9_isSide_3 : decode cX9_isSide 3 = .ok (.ldc2_w 102, 3) := zo_20 (a := 0) (b := 102) (zby_w zwX9_isSide_0 3 rfl) (zby_w zwX9_isSide_0 4 rfl) (zby_w zwX9_isSide_0 5 rfl) (by decide)
theorem d_X9_isSide_6 : decode cX9_isSide 6 = .ok (.invokestatic 89, 3) := zo_184 (a := 0) (b := 89) (zby_w zwX9_isSide_0 6 rfl) (zby_w zwX9_isSide_0 7 rfl) (zby_w zwX9_isSide_0 8 rfl) (by decide)
theorem d_X9_isSide_9 : decode cX9_isSide 9 = .ok (.ireturn, 1) := zo_172 (zby_w zwX9_isSide_0 9 rfl)
theorem d_X9_judge_0 : decode cX9_judge 0 = .ok (.iload_n 1, 1) := zo_27 (zby_w zwX9_judge_0 0 rfl)
theorem d_X9_judge_1 : decode cX9_judge 1 = .ok (.i2l, 1) := zo_133 (zby_w zwX9_judge_0 1 rfl)
theorem d_X9_judge_2 : decode cX9_judge 2 = .ok (.lconst 0, 1) := zo_9 (zby_w zwX9_judge_0 2 rfl)
theorem d_X9_judge_3 : decode cX9_judge 3 = .ok (.lconst 1, 1) := zo_10 (zby_w zwX9_judge_0 3 rfl)
theorem d_X9_judge_4 : decode cX9_judge 4 = .ok (.invokestatic 89, 3) := zo_184 (a := 0) (b := 89) (zby_w zwX9_judge_0 4 rfl) (zby_w zwX9_judge_0 5 rfl) (zby_w zwX9_judge_0 6 rfl) (by decide)
theorem d_X9_judge_7 : decode cX9_judge 7 = .ok (.ifCond .ne 6, 3) := zo_154 (a := 0) (b := 6) (zby_w zwX9_judge_0 7 rfl) (zby_w zwX9_judge_0 8 rfl) (zby_w zwX9_judge_0 9 rfl) (by decide)
theorem d_X9_judge_10 : decode cX9_judge 10 = .ok (.bipush (-2), 2) := zo_16 (a := 254) (zby_w zwX9_judge_0 10 rfl) (zby_w zwX9_judge_0 11 rfl) (by decide)
theorem d_X9_judge_12 : decode cX9_judge 12 = .ok (.ireturn, 1) := zo_172 (zby_w zwX9_judge_0 12 rfl)
theorem d_X9_judge_13 : decode cX9_judge 13 = .ok (.aload_n 0, 1) := zo_42 (zby_w zwX9_judge_0 13 rfl)
theorem d_X9_judge_14 : decode cX9_judge 14 = .ok (.invokevirtual 145, 3) := zo_182 (a := 0) (b := 145) (zby_w zwX9_judge_0 14 rfl) (zby_w zwX9_judge_0 15 rfl) (zby_w zwX9_judge_0 16 rfl) (by decide)
theorem d_X9_judge_17 : decode cX9_judge 17 = .ok (.ifCond .lt 6, 3) := zo_155 (a := 0) (b := 6) (zby_w zwX9_judge_0 17 rfl) (zby_w zwX9_judge_0 18 rfl) (zby_w zwX9_judge_0 19 rfl) (by decide)
theorem d_X9_judge_20 : decode cX9_judge 20 = .ok (.bipush (-5), 2) := zo_16 (a := 251) (zby_w zwX9_judge_0 20 rfl) (zby_w zwX9_judge_0 21 rfl) (by decide)
theorem d_X9_judge_22 : decode cX9_judge 22 = .ok (.ireturn, 1) := zo_172 (zby_w zwX9_judge_0 22 rfl)
theorem d_X9_judge_23 : decode cX9_judge 23 = .ok (.aload_n 0, 1) := zo_42 (zby_w zwX9_judge_0 23 rfl)
theorem d_X9_judge_24 : decode cX9_judge 24 = .ok (.invokevirtual 193, 3) := zo_182 (a := 0) (b := 193) (zby_w zwX9_judge_0 24 rfl) (zby_w zwX9_judge_0 25 rfl) (zby_w zwX9_judge_0 26 rfl) (by decide)
theorem d_X9_judge_27 : decode cX9_judge 27 = .ok (.aload_n 0, 1) := zo_42 (zby_w zwX9_judge_0 27 rfl)
theorem d_X9_judge_28 : decode cX9_judge 28 = .ok (.invokevirtual 196, 3) := zo_182 (a := 0) (b := 196) (zby_w zwX9_judge_0 28 rfl) (zby_w zwX9_judge_0 29 rfl) (zby_w zwX9_judge_0 30 rfl) (by decide)
theorem d_X9_judge_31 : decode cX9_judge 31 = .ok (.aload_n 0, 1) := zo_42 (zby_w zwX9_judge_0 31 rfl)
theorem d_X9_judge_32 : decode cX9_judge 32 = .ok (.invokevirtual 199, 3) := zo_182 (a := 0) (b := 199) (zby_w zwX9_judge_1 0 rfl) (zby_w zwX9_judge_1 1 rfl) (zby_w zwX9_judge_1 2 rfl) (by decide)
theorem d_X9_judge_35 : decode cX9_judge 35 = .ok (.iload_n 1, 1) := zo_27 (zby_w zwX9_judge_1 3 rfl)
theorem d_X9_judge_36 : decode cX9_judge 36 = .ok (.ifCond .ne 10, 3) := zo_154 (a := 0) (b := 10) (zby_w zwX9_judge_1 4 rfl) (zby_w zwX9_judge_1 5 rfl) (zby_w zwX9_judge_1 6 rfl) (by decide)
theorem d_X9_judge_39 : decode cX9_judge 39 = .ok (.aload_n 0, 1) := zo_42 (zby_w zwX9_judge_1 7 rfl)
theorem d_X9_judge_40 : decode cX9_judge 40 = .ok (.getfield 175, 3) := zo_180 (a := 0) (b := 175) (zby_w zwX9_judge_1 8 rfl) (zby_w zwX9_judge_1 9 rfl) (zby_w zwX9_judge_1 10 rfl) (by decide)
theorem d_X9_judge_43 : decode cX9_judge 43 = .ok (.goto 7, 3) := zo_167 (a := 0) (b := 7) (zby_w zwX9_judge_1 11 rfl) (zby_w zwX9_judge_1 12 rfl) (zby_w zwX9_judge_1 13 rfl) (by decide)
theorem d_X9_judge_46 : decode cX9_judge 46 = .ok (.aload_n 0, 1) := zo_42 (zby_w zwX9_judge_1 14 rfl)
theorem d_X9_judge_47 : decode cX9_judge 47 = .ok (.getfield 169, 3) := zo_180 (a := 0) (b := 169) (zby_w zwX9_judge_1 15 rfl) (zby_w zwX9_judge_1 16 rfl) (zby_w zwX9_judge_1 17 rfl) (by decide)
theorem d_X9_judge_50 : decode cX9_judge 50 = .ok (.ireturn, 1) := zo_172 (zby_w zwX9_judge_1 18 rfl)
theorem d_X9_keepNow_0 : decode cX9_keepNow 0 = .ok (.iconst 0, 1) := zo_3 (zby_w zwX9_keepNow_0 0 rfl)
theorem d_X9_keepNow_1 : decode cX9_keepNow 1 = .ok (.istore_n 1, 1) := zo_60 (zby_w zwX9_keepNow_0 1 rfl)
theorem d_X9_keepNow_2 : decode cX9_keepNow 2 = .ok (.iload_n 1, 1) := zo_27 (zby_w zwX9_keepNow_0 2 rfl)
theorem d_X9_keepNow_3 : decode cX9_keepNow 3 = .ok (.bipush 6, 2) := zo_16 (a := 6) (zby_w zwX9_keepNow_0 3 rfl) (zby_w zwX9_keepNow_0 4 rfl) (by decide)
theorem d_X9_keepNow_5 : decode cX9_keepNow 5 = .ok (.if_icmp .ge 66, 3) := zo_162 (a := 0) (b := 66) (zby_w zwX9_keepNow_0 5 rfl) (zby_w zwX9_keepNow_0 6 rfl) (zby_w zwX9_keepNow_0 7 rfl) (by decide)
theorem d_X9_keepNow_8 : decode cX9_keepNow 8 = .ok (.aload_n 0, 1) := zo_42 (zby_w zwX9_keepNow_0 8 rfl)
theorem d_X9_keepNow_9 : decode cX9_keepNow 9 = .ok (.getfield 43, 3) := zo_180 (a := 0) (b := 43) (zby_w zwX9_keepNow_0 9 rfl) (zby_w zwX9_keepNow_0 10 rfl) (zby_w zwX9_keepNow_0 11 rfl) (by decide)
theorem d_X9_keepNow_12 : decode cX9_keepNow 12 = .ok (.iload_n 1, 1) := zo_27 (zby_w zwX9_keepNow_0 12 rfl)
theorem d_X9_keepNow_13 : decode cX9_keepNow 13 = .ok (.aload_n 0, 1) := zo_42 (zby_w zwX9_keepNow_0 13 rfl)
theorem d_X9_keepNow_14 : decode cX9_keepNow 14 = .ok (.getfield 7, 3) := zo_180 (a := 0) (b := 7) (zby_w zwX9_keepNow_0 14 rfl) (zby_w zwX9_keepNow_0 15 rfl) (zby_w zwX9_keepNow_0 16 rfl) (by decide)
theorem d_X9_keepNow_17 : decode cX9_keepNow 17 = .ok (.iload_n 1, 1) := zo_27 (zby_w zwX9_keepNow_0 17 rfl)
theorem d_X9_keepNow_18 : decode cX9_keepNow 18 = .ok (.iaload, 1) := zo_46 (zby_w zwX9_keepNow_0 18 rfl)
theorem d_X9_keepNow_19 : decode cX9_keepNow 19 = .ok (.iastore, 1) := zo_79 (zby_w zwX9_keepNow_0 19 rfl)
theorem d_X9_keepNow_20 : decode cX9_keepNow 20 = .ok (.aload_n 0, 1) := zo_42 (zby_w zwX9_keepNow_0 20 rfl)
theorem d_X9_keepNow_21 : decode cX9_keepNow 21 = .ok (.getfield 43, 3) := zo_180 (a := 0) (b := 43) (zby_w zwX9_keepNow_0 21 rfl) (zby_w zwX9_keepNow_0 22 rfl) (zby_w zwX9_keepNow_0 23 rfl) (by decide)
theorem d_X9_keepNow_24 : decode cX9_keepNow 24 = .ok (.bipush 6, 2) := zo_16 (a := 6) (zby_w zwX9_keepNow_0 24 rfl) (zby_w zwX9_keepNow_0 25 rfl) (by decide)
theorem d_X9_keepNow_26 : decode cX9_keepNow 26 = .ok (.iload_n 1, 1) := zo_27 (zby_w zwX9_keepNow_0 26 rfl)
theorem d_X9_keepNow_27 : decode cX9_keepNow 27 = .ok (.iadd, 1) := zo_96 (zby_w zwX9_keepNow_0 27 rfl)
theorem d_X9_keepNow_28 : decode cX9_keepNow 28 = .ok (.aload_n 0, 1) := zo_42 (zby_w zwX9_keepNow_0 28 rfl)
theorem d_X9_keepNow_29 : decode cX9_keepNow 29 = .ok (.getfield 13, 3) := zo_180 (a := 0) (b := 13) (zby_w zwX9_keepNow_0 29 rfl) (zby_w zwX9_keepNow_0 30 rfl) (zby_w zwX9_keepNow_0 31 rfl) (by decide)
theorem d_X9_keepNow_32 : decode cX9_keepNow 32 = .ok (.iload_n 1, 1) := zo_27 (zby_w zwX9_keepNow_1 0 rfl)
theorem d_X9_keepNow_33 : decode cX9_keepNow 33 = .ok (.iaload, 1) := zo_46 (zby_w zwX9_keepNow_1 1 rfl)
theorem d_X9_keepNow_34 : decode cX9_keepNow 34 = .ok (.iastore, 1) := zo_79 (zby_w zwX9_keepNow_1 2 rfl)
theorem d_X9_keepNow_35 : decode cX9_keepNow 35 = .ok (.aload_n 0, 1) := zo_42 (zby_w zwX9_keepNow_1 3 rfl)
theorem d_X9_keepNow_36 : decode cX9_keepNow 36 = .ok (.getfield 43, 3) := zo_180 (a := 0) (b := 43) (zby_w zwX9_keepNow_1 4 rfl) (zby_w zwX9_keepNow_1 5 rfl) (zby_w zwX9_keepNow_1 6 rfl) (by decide)
theorem d_X9_keepNow_39 : decode cX9_keepNow 39 = .ok (.bipush 12, 2) := zo_16 (a := 12) (zby_w zwX9_keepNow_1 7 rfl) (zby_w zwX9_keepNow_1 8 rfl) (by decide)
theorem d_X9_keepNow_41 : decode cX9_keepNow 41 = .ok (.iload_n 1, 1) := zo_27 (zby_w zwX9_keepNow_1 9 rfl)
theorem d_X9_keepNow_42 : decode cX9_keepNow 42 = .ok (.iadd, 1) := zo_96 (zby_w zwX9_keepNow_1 10 rfl)
theorem d_X9_keepNow_43 : decode cX9_keepNow 43 = .ok (.aload_n 0, 1) := zo_42 (zby_w zwX9_keepNow_1 11 rfl)
theorem d_X9_keepNow_44 : decode cX9_keepNow 44 = .ok (.getfield 16, 3) := zo_180 (a := 0) (b := 16) (zby_w zwX9_keepNow_1 12 rfl) (zby_w zwX9_keepNow_1 13 rfl) (zby_w zwX9_keepNow_1 14 rfl) (by decide)
theorem d_X9_keepNow_47 : decode cX9_keepNow 47 = .ok (.iload_n 1, 1) := zo_27 (zby_w zwX9_keepNow_1 15 rfl)
theorem d_X9_keepNow_48 : decode cX9_keepNow 48 = .ok (.iaload, 1) := zo_46 (zby_w zwX9_keepNow_1 16 rfl)
theorem d_X9_keepNow_49 : decode cX9_keepNow 49 = .ok (.iastore, 1) := zo_79 (zby_w zwX9_keepNow_1 17 rfl)
theorem d_X9_keepNow_50 : decode cX9_keepNow 50 = .ok (.aload_n 0, 1) := zo_42 (zby_w zwX9_keepNow_1 18 rfl)
theorem d_X9_keepNow_51 : decode cX9_keepNow 51 = .ok (.getfield 43, 3) := zo_180 (a := 0) (b := 43) (zby_w zwX9_keepNow_1 19 rfl) (zby_w zwX9_keepNow_1 20 rfl) (zby_w zwX9_keepNow_1 21 rfl) (by decide)
theorem d_X9_keepNow_54 : decode cX9_keepNow 54 = .ok (.bipush 18, 2) := zo_16 (a := 18) (zby_w zwX9_keepNow_1 22 rfl) (zby_w zwX9_keepNow_1 23 rfl) (by decide)
theorem d_X9_keepNow_56 : decode cX9_keepNow 56 = .ok (.iload_n 1, 1) := zo_27 (zby_w zwX9_keepNow_1 24 rfl)
theorem d_X9_keepNow_57 : decode cX9_keepNow 57 = .ok (.iadd, 1) := zo_96 (zby_w zwX9_keepNow_1 25 rfl)
theorem d_X9_keepNow_58 : decode cX9_keepNow 58 = .ok (.aload_n 0, 1) := zo_42 (zby_w zwX9_keepNow_1 26 rfl)
theorem d_X9_keepNow_59 : decode cX9_keepNow 59 = .ok (.getfield 19, 3) := zo_180 (a := 0) (b := 19) (zby_w zwX9_keepNow_1 27 rfl) (zby_w zwX9_keepNow_1 28 rfl) (zby_w zwX9_keepNow_1 29 rfl) (by decide)
theorem d_X9_keepNow_62 : decode cX9_keepNow 62 = .ok (.iload_n 1, 1) := zo_27 (zby_w zwX9_keepNow_1 30 rfl)
theorem d_X9_keepNow_63 : decode cX9_keepNow 63 = .ok (.iaload, 1) := zo_46 (zby_w zwX9_keepNow_1 31 rfl)
theorem d_X9_keepNow_64 : decode cX9_keepNow 64 = .ok (.iastore, 1) := zo_79 (zby_w zwX9_keepNow_2 0 rfl)
theorem d_X9_keepNow_65 : decode cX9_keepNow 65 = .ok (.iinc 1 1, 3) := by decide +kernel
theorem d_X9_keepNow_68 : decode cX9_keepNow 68 = .ok (.goto (-66), 3) := zo_167 (a := 255) (b := 190) (zby_w zwX9_keepNow_2 4 rfl) (zby_w zwX9_keepNow_2 5 rfl) (zby_w zwX9_keepNow_2 6 rfl) (by decide)
theorem d_X9_keepNow_71 : decode cX9_keepNow 71 = .ok (.aload_n 0, 1) := zo_42 (zby_w zwX9_keepNow_2 7 rfl)
theorem d_X9_keepNow_72 : decode cX9_keepNow 72 = .ok (.getfield 43, 3) := zo_180 (a := 0) (b := 43) (zby_w zwX9_keepNow_2 8 rfl) (zby_w zwX9_keepNow_2 9 rfl) (zby_w zwX9_keepNow_2 10 rfl) (by decide)
theorem d_X9_keepNow_75 : decode cX9_keepNow 75 = .ok (.bipush 24, 2) := zo_16 (a := 24) (zby_w zwX9_keepNow_2 11 rfl) (zby_w zwX9_keepNow_2 12 rfl) (by decide)
theorem d_X9_keepNow_77 : decode cX9_keepNow 77 = .ok (.aload_n 0, 1) := zo_42 (zby_w zwX9_keepNow_2 13 rfl)
theorem d_X9_keepNow_78 : decode cX9_keepNow 78 = .ok (.getfield 81, 3) := zo_180 (a := 0) (b := 81) (zby_w zwX9_keepNow_2 14 rfl) (zby_w zwX9_keepNow_2 15 rfl) (zby_w zwX9_keepNow_2 16 rfl) (by decide)
theorem d_X9_keepNow_81 : decode cX9_keepNow 81 = .ok (.iastore, 1) := zo_79 (zby_w zwX9_keepNow_2 17 rfl)
theorem d_X9_keepNow_82 : decode cX9_keepNow 82 = .ok (.aload_n 0, 1) := zo_42 (zby_w zwX9_keepNow_2 18 rfl)
theorem d_X9_keepNow_83 : decode cX9_keepNow 83 = .ok (.getfield 43, 3) := zo_180 (a := 0) (b := 43) (zby_w zwX9_keepNow_2 19 rfl) (zby_w zwX9_keepNow_2 20 rfl) (zby_w zwX9_keepNow_2 21 rfl) (by decide)
theorem d_X9_keepNow_86 : decode cX9_keepNow 86 = .ok (.bipush 25, 2) := zo_16 (a := 25) (zby_w zwX9_keepNow_2 22 rfl) (zby_w zwX9_keepNow_2 23 rfl) (by decide)
theorem d_X9_keepNow_88 : decode cX9_keepNow 88 = .ok (.aload_n 0, 1) := zo_42 (zby_w zwX9_keepNow_2 24 rfl)
theorem d_X9_keepNow_89 : decode cX9_keepNow 89 = .ok (.getfield 151, 3) := zo_180 (a := 0) (b := 151) (zby_w zwX9_keepNow_2 25 rfl) (zby_w zwX9_keepNow_2 26 rfl) (zby_w zwX9_keepNow_2 27 rfl) (by decide)
theorem d_X9_keepNow_92 : decode cX9_keepNow 92 = .ok (.iastore, 1) := zo_79 (zby_w zwX9_keepNow_2 28 rfl)
theorem d_X9_keepNow_93 : decode cX9_keepNow 93 = .ok (.aload_n 0, 1) := zo_42 (zby_w zwX9_keepNow_2 29 rfl)
theorem d_X9_keepNow_94 : decode cX9_keepNow 94 = .ok (.getfield 43, 3) := zo_180 (a := 0) (b := 43) (zby_w zwX9_keepNow_2 30 rfl) (zby_w zwX9_keepNow_2 31 rfl) (zby_w zwX9_keepNow_2 32 rfl) (by decide)
theorem d_X9_keepNow_97 : decode cX9_keepNow 97 = .ok (.bipush 26, 2) := zo_16 (a := 26) (zby_w zwX9_keepNow_3 1 rfl) (zby_w zwX9_keepNow_3 2 rfl) (by decide)
theorem d_X9_keepNow_99 : decode cX9_keepNow 99 = .ok (.aload_n 0, 1) := zo_42 (zby_w zwX9_keepNow_3 3 rfl)
theorem d_X9_keepNow_100 : decode cX9_keepNow 100 = .ok (.getfield 154, 3) := zo_180 (a := 0) (b := 154) (zby_w zwX9_keepNow_3 4 rfl) (zby_w zwX9_keepNow_3 5 rfl) (zby_w zwX9_keepNow_3 6 rfl) (by decide)
theorem d_X9_keepNow_103 : decode cX9_keepNow 103 = .ok (.iastore, 1) := zo_79 (zby_w zwX9_keepNow_3 7 rfl)
theorem d_X9_keepNow_104 : decode cX9_keepNow 104 = .ok (.aload_n 0, 1) := zo_42 (zby_w zwX9_keepNow_3 8 rfl)
theorem d_X9_keepNow_105 : decode cX9_keepNow 105 = .ok (.getfield 43, 3) := zo_180 (a := 0) (b := 43) (zby_w zwX9_keepNow_3 9 rfl) (zby_w zwX9_keepNow_3 10 rfl) (zby_w zwX9_keepNow_3 11 rfl) (by decide)
theorem d_X9_keepNow_108 : decode cX9_keepNow 108 = .ok (.bipush 27, 2) := zo_16 (a := 27) (zby_w zwX9_keepNow_3 12 rfl) (zby_w zwX9_keepNow_3 13 rfl) (by decide)
theorem d_X9_keepNow_110 : decode cX9_keepNow 110 = .ok (.aload_n 0, 1) := zo_42 (zby_w zwX9_keepNow_3 14 rfl)
theorem d_X9_keepNow_111 : decode cX9_keepNow 111 = .ok (.getfield 166, 3) := zo_180 (a := 0) (b := 166) (zby_w zwX9_keepNow_3 15 rfl) (zby_w zwX9_keepNow_3 16 rfl) (zby_w zwX9_keepNow_3 17 rfl) (by decide)
theorem d_X9_keepNow_114 : decode cX9_keepNow 114 = .ok (.iastore, 1) := zo_79 (zby_w zwX9_keepNow_3 18 rfl)
theorem d_X9_keepNow_115 : decode cX9_keepNow 115 = .ok (.return_, 1) := zo_177 (zby_w zwX9_keepNow_3 19 rfl)
theorem d_X9_layFleet_0 : decode cX9_layFleet 0 = .ok (.aload_n 0, 1) := zo_42 (zby_w zwX9_layFleet_0 0 rfl)
theorem d_X9_layFleet_1 : decode cX9_layFleet 1 = .ok (.iconst 1, 1) := zo_4 (zby_w zwX9_layFleet_0 1 rfl)
theorem d_X9_layFleet_2 : decode cX9_layFleet 2 = .ok (.putfield 231, 3) := zo_181 (a := 0) (b := 231) (zby_w zwX9_layFleet_0 2 rfl) (zby_w zwX9_layFleet_0 3 rfl) (zby_w zwX9_layFleet_0 4 rfl) (by decide)
theorem d_X9_layFleet_5 : decode cX9_layFleet 5 = .ok (.aload_n 0, 1) := zo_42 (zby_w zwX9_layFleet_0 5 rfl)
theorem d_X9_layFleet_6 : decode cX9_layFleet 6 = .ok (.getfield 46, 3) := zo_180 (a := 0) (b := 46) (zby_w zwX9_layFleet_0 6 rfl) (zby_w zwX9_layFleet_0 7 rfl) (zby_w zwX9_layFleet_0 8 rfl) (by decide)
theorem d_X9_layFleet_9 : decode cX9_layFleet 9 = .ok (.iconst 0, 1) := zo_3 (zby_w zwX9_layFleet_0 9 rfl)
theorem d_X9_layFleet_10 : decode cX9_layFleet 10 = .ok (.iconst 0, 1) := zo_3 (zby_w zwX9_layFleet_0 10 rfl)
theorem d_X9_layFleet_11 : decode cX9_layFleet 11 = .ok (.iastore, 1) := zo_79 (zby_w zwX9_layFleet_0 11 rfl)
theorem d_X9_layFleet_12 : decode cX9_layFleet 12 = .ok (.aload_n 0, 1) := zo_42 (zby_w zwX9_layFleet_0 12 rfl)
theorem d_X9_layFleet_13 : decode cX9_layFleet 13 = .ok (.getfield 49, 3) := zo_180 (a := 0) (b := 49) (zby_w zwX9_layFleet_0 13 rfl) (zby_w zwX9_layFleet_0 14 rfl) (zby_w zwX9_layFleet_0 15 rfl) (by decide)
theorem d_X9_layFleet_16 : decode cX9_layFleet 16 = .ok (.iconst 0, 1) := zo_3 (zby_w zwX9_layFleet_0 16 rfl)
theorem d_X9_layFleet_17 : decode cX9_layFleet 17 = .ok (.iconst 0, 1) := zo_3 (zby_w zwX9_layFleet_0 17 rfl)
theorem d_X9_layFleet_18 : decode cX9_layFleet 18 = .ok (.iastore, 1) := zo_79 (zby_w zwX9_layFleet_0 18 rfl)
theorem d_X9_layFleet_19 : decode cX9_layFleet 19 = .ok (.iconst 5, 1) := zo_8 (zby_w zwX9_layFleet_0 19 rfl)
theorem d_X9_layFleet_20 : decode cX9_layFleet 20 = .ok (.istore_n 2, 1) := zo_61 (zby_w zwX9_layFleet_0 20 rfl)
theorem d_X9_layFleet_21 : decode cX9_layFleet 21 = .ok (.iload_n 2, 1) := zo_28 (zby_w zwX9_layFleet_0 21 rfl)
theorem d_X9_layFleet_22 : decode cX9_layFleet 22 = .ok (.ifCond .lt 115, 3) := zo_155 (a := 0) (b := 115) (zby_w zwX9_layFleet_0 22 rfl) (zby_w zwX9_layFleet_0 23 rfl) (zby_w zwX9_layFleet_0 24 rfl) (by decide)
theorem d_X9_layFleet_25 : decode cX9_layFleet 25 = .ok (.aload_n 0, 1) := zo_42 (zby_w zwX9_layFleet_0 25 rfl)
theorem d_X9_layFleet_26 : decode cX9_layFleet 26 = .ok (.iload_n 2, 1) := zo_28 (zby_w zwX9_layFleet_0 26 rfl)
theorem d_X9_layFleet_27 : decode cX9_layFleet 27 = .ok (.invokevirtual 234, 3) := zo_182 (a := 0) (b := 234) (zby_w zwX9_layFleet_0 27 rfl) (zby_w zwX9_layFleet_0 28 rfl) (zby_w zwX9_layFleet_0 29 rfl) (by decide)
theorem d_X9_layFleet_30 : decode cX9_layFleet 30 = .ok (.ifCond .eq 101, 3) := zo_153 (a := 0) (b := 101) (zby_w zwX9_layFleet_0 30 rfl) (zby_w zwX9_layFleet_0 31 rfl) (zby_w zwX9_layFleet_0 32 rfl) (by decide)
theorem d_X9_layFleet_33 : decode cX9_layFleet 33 = .ok (.iconst 2, 1) := zo_5 (zby_w zwX9_layFleet_1 1 rfl)
theorem d_X9_layFleet_34 : decode cX9_layFleet 34 = .ok (.istore_n 3, 1) := zo_62 (zby_w zwX9_layFleet_1 2 rfl)
theorem d_X9_layFleet_35 : decode cX9_layFleet 35 = .ok (.iload_n 3, 1) := zo_29 (zby_w zwX9_layFleet_1 3 rfl)
theorem d_X9_layFleet_36 : decode cX9_layFleet 36 = .ok (.ifCond .lt 85, 3) := zo_155 (a := 0) (b := 85) (zby_w zwX9_layFleet_1 4 rfl) (zby_w zwX9_layFleet_1 5 rfl) (zby_w zwX9_layFleet_1 6 rfl) (by decide)
theorem d_X9_layFleet_39 : decode cX9_layFleet 39 = .ok (.iconst 0, 1) := zo_3 (zby_w zwX9_layFleet_1 7 rfl)
theorem d_X9_layFleet_40 : decode cX9_layFleet 40 = .ok (.istore 4, 2) := zo_54 (a := 4) (zby_w zwX9_layFleet_1 8 rfl) (zby_w zwX9_layFleet_1 9 rfl) (by decide)
theorem d_X9_layFleet_42 : decode cX9_layFleet 42 = .ok (.iload 4, 2) := zo_21 (a := 4) (zby_w zwX9_layFleet_1 10 rfl) (zby_w zwX9_layFleet_1 11 rfl) (by decide)
theorem d_X9_layFleet_44 : decode cX9_layFleet 44 = .ok (.aload_n 0, 1) := zo_42 (zby_w zwX9_layFleet_1 12 rfl)
theorem d_X9_layFleet_45 : decode cX9_layFleet 45 = .ok (.getfield 231, 3) := zo_180 (a := 0) (b := 231) (zby_w zwX9_layFleet_1 13 rfl) (zby_w zwX9_layFleet_1 14 rfl) (zby_w zwX9_layFleet_1 15 rfl) (by decide)
theorem d_X9_layFleet_48 : decode cX9_layFleet 48 = .ok (.if_icmp .ge 67, 3) := zo_162 (a := 0) (b := 67) (zby_w zwX9_layFleet_1 16 rfl) (zby_w zwX9_layFleet_1 17 rfl) (zby_w zwX9_layFleet_1 18 rfl) (by decide)
theorem d_X9_layFleet_51 : decode cX9_layFleet 51 = .ok (.aload_n 0, 1) := zo_42 (zby_w zwX9_layFleet_1 19 rfl)
theorem d_X9_layFleet_52 : decode cX9_layFleet 52 = .ok (.getfield 46, 3) := zo_180 (a := 0) (b := 46) (zby_w zwX9_layFleet_1 20 rfl) (zby_w zwX9_layFleet_1 21 rfl) (zby_w zwX9_layFleet_1 22 rfl) (by decide)
theorem d_X9_layFleet_55 : decode cX9_layFleet 55 = .ok (.iload_n 3, 1) := zo_29 (zby_w zwX9_layFleet_1 23 rfl)
theorem d_X9_layFleet_56 : decode cX9_layFleet 56 = .ok (.aload_n 0, 1) := zo_42 (zby_w zwX9_layFleet_1 24 rfl)
theorem d_X9_layFleet_57 : decode cX9_layFleet 57 = .ok (.getfield 231, 3) := zo_180 (a := 0) (b := 231) (zby_w zwX9_layFleet_1 25 rfl) (zby_w zwX9_layFleet_1 26 rfl) (zby_w zwX9_layFleet_1 27 rfl) (by decide)
theorem d_X9_layFleet_60 : decode cX9_layFleet 60 = .ok (.imul, 1) := zo_104 (zby_w zwX9_layFleet_1 28 rfl)
theorem d_X9_layFleet_61 : decode cX9_layFleet 61 = .ok (.iload 4, 2) := zo_21 (a := 4) (zby_w zwX9_layFleet_1 29 rfl) (zby_w zwX9_layFleet_1 30 rfl) (by decide)
theorem d_X9_layFleet_63 : decode cX9_layFleet 63 = .ok (.iadd, 1) := zo_96 (zby_w zwX9_layFleet_1 31 rfl)
theorem d_X9_layFleet_64 : decode cX9_layFleet 64 = .ok (.aload_n 0, 1) := zo_42 (zby_w zwX9_layFleet_2 0 rfl)
theorem d_X9_layFleet_65 : decode cX9_layFleet 65 = .ok (.getfield 46, 3) := zo_180 (a := 0) (b := 46) (zby_w zwX9_layFleet_2 1 rfl) (zby_w zwX9_layFleet_2 2 rfl) (zby_w zwX9_layFleet_2 3 rfl) (by decide)
theorem d_X9_layFleet_68 : decode cX9_layFleet 68 = .ok (.iload 4, 2) := zo_21 (a := 4) (zby_w zwX9_layFleet_2 4 rfl) (zby_w zwX9_layFleet_2 5 rfl) (by decide)
theorem d_X9_layFleet_70 : decode cX9_layFleet 70 = .ok (.iaload, 1) := zo_46 (zby_w zwX9_layFleet_2 6 rfl)
theorem d_X9_layFleet_71 : decode cX9_layFleet 71 = .ok (.aload_n 0, 1) := zo_42 (zby_w zwX9_layFleet_2 7 rfl)
theorem d_X9_layFleet_72 : decode cX9_layFleet 72 = .ok (.iload_n 2, 1) := zo_28 (zby_w zwX9_layFleet_2 8 rfl)
theorem d_X9_layFleet_73 : decode cX9_layFleet 73 = .ok (.iload_n 3, 1) := zo_29 (zby_w zwX9_layFleet_2 9 rfl)
theorem d_X9_layFleet_74 : decode cX9_layFleet 74 = .ok (.iload_n 1, 1) := zo_27 (zby_w zwX9_layFleet_2 10 rfl)
theorem d_X9_layFleet_75 : decode cX9_layFleet 75 = .ok (.invokevirtual 212, 3) := zo_182 (a := 0) (b := 212) (zby_w zwX9_layFleet_2 11 rfl) (zby_w zwX9_layFleet_2 12 rfl) (zby_w zwX9_layFleet_2 13 rfl) (by decide)
theorem d_X9_layFleet_78 : decode cX9_layFleet 78 = .ok (.iadd, 1) := zo_96 (zby_w zwX9_layFleet_2 14 rfl)
theorem d_X9_layFleet_79 : decode cX9_layFleet 79 = .ok (.iastore, 1) := zo_79 (zby_w zwX9_layFleet_2 15 rfl)
theorem d_X9_layFleet_80 : decode cX9_layFleet 80 = .ok (.aload_n 0, 1) := zo_42 (zby_w zwX9_layFleet_2 16 rfl)
theorem d_X9_layFleet_81 : decode cX9_layFleet 81 = .ok (.getfield 49, 3) := zo_180 (a := 0) (b := 49) (zby_w zwX9_layFleet_2 17 rfl) (zby_w zwX9_layFleet_2 18 rfl) (zby_w zwX9_layFleet_2 19 rfl) (by decide)
theorem d_X9_layFleet_84 : decode cX9_layFleet 84 = .ok (.iload_n 3, 1) := zo_29 (zby_w zwX9_layFleet_2 20 rfl)
theorem d_X9_layFleet_85 : decode cX9_layFleet 85 = .ok (.aload_n 0, 1) := zo_42 (zby_w zwX9_layFleet_2 21 rfl)
theorem d_X9_layFleet_86 : decode cX9_layFleet 86 = .ok (.getfield 231, 3) := zo_180 (a := 0) (b := 231) (zby_w zwX9_layFleet_2 22 rfl) (zby_w zwX9_layFleet_2 23 rfl) (zby_w zwX9_layFleet_2 24 rfl) (by decide)
theorem d_X9_layFleet_89 : decode cX9_layFleet 89 = .ok (.imul, 1) := zo_104 (zby_w zwX9_layFleet_2 25 rfl)
theorem d_X9_layFleet_90 : decode cX9_layFleet 90 = .ok (.iload 4, 2) := zo_21 (a := 4) (zby_w zwX9_layFleet_2 26 rfl) (zby_w zwX9_layFleet_2 27 rfl) (by decide)
theorem d_X9_layFleet_92 : decode cX9_layFleet 92 = .ok (.iadd, 1) := zo_96 (zby_w zwX9_layFleet_2 28 rfl)
theorem d_X9_layFleet_93 : decode cX9_layFleet 93 = .ok (.aload_n 0, 1) := zo_42 (zby_w zwX9_layFleet_2 29 rfl)
theorem d_X9_layFleet_94 : decode cX9_layFleet 94 = .ok (.getfield 49, 3) := zo_180 (a := 0) (b := 49) (zby_w zwX9_layFleet_2 30 rfl) (zby_w zwX9_layFleet_2 31 rfl) (zby_w zwX9_layFleet_2 32 rfl) (by decide)
theorem d_X9_layFleet_97 : decode cX9_layFleet 97 = .ok (.iload 4, 2) := zo_21 (a := 4) (zby_w zwX9_layFleet_3 1 rfl) (zby_w zwX9_layFleet_3 2 rfl) (by decide)
theorem d_X9_layFleet_99 : decode cX9_layFleet 99 = .ok (.iaload, 1) := zo_46 (zby_w zwX9_layFleet_3 3 rfl)
theorem d_X9_layFleet_100 : decode cX9_layFleet 100 = .ok (.aload_n 0, 1) := zo_42 (zby_w zwX9_layFleet_3 4 rfl)
theorem d_X9_layFleet_101 : decode cX9_layFleet 101 = .ok (.iload_n 2, 1) := zo_28 (zby_w zwX9_layFleet_3 5 rfl)
theorem d_X9_layFleet_102 : decode cX9_layFleet 102 = .ok (.iload_n 3, 1) := zo_29 (zby_w zwX9_layFleet_3 6 rfl)
theorem d_X9_layFleet_103 : decode cX9_layFleet 103 = .ok (.iload_n 1, 1) := zo_27 (zby_w zwX9_layFleet_3 7 rfl)
theorem d_X9_layFleet_104 : decode cX9_layFleet 104 = .ok (.invokevirtual 222, 3) := zo_182 (a := 0) (b := 222) (zby_w zwX9_layFleet_3 8 rfl) (zby_w zwX9_layFleet_3 9 rfl) (zby_w zwX9_layFleet_3 10 rfl) (by decide)
theorem d_X9_layFleet_107 : decode cX9_layFleet 107 = .ok (.iadd, 1) := zo_96 (zby_w zwX9_layFleet_3 11 rfl)
theorem d_X9_layFleet_108 : decode cX9_layFleet 108 = .ok (.iastore, 1) := zo_79 (zby_w zwX9_layFleet_3 12 rfl)
theorem d_X9_layFleet_109 : decode cX9_layFleet 109 = .ok (.iinc 4 1, 3) := by decide +kernel
theorem d_X9_layFleet_112 : decode cX9_layFleet 112 = .ok (.goto (-70), 3) := zo_167 (a := 255) (b := 186) (zby_w zwX9_layFleet_3 16 rfl) (zby_w zwX9_layFleet_3 17 rfl) (zby_w zwX9_layFleet_3 18 rfl) (by decide)
theorem d_X9_layFleet_115 : decode cX9_layFleet 115 = .ok (.iinc 3 (-1), 3) := by decide +kernel
theorem d_X9_layFleet_118 : decode cX9_layFleet 118 = .ok (.goto (-83), 3) := zo_167 (a := 255) (b := 173) (zby_w zwX9_layFleet_3 22 rfl) (zby_w zwX9_layFleet_3 23 rfl) (zby_w zwX9_layFleet_3 24 rfl) (by decide)
theorem d_X9_layFleet_121 : decode cX9_layFleet 121 = .ok (.aload_n 0, 1) := zo_42 (zby_w zwX9_layFleet_3 25 rfl)
theorem d_X9_layFleet_122 : decode cX9_layFleet 122 = .ok (.dup, 1) := zo_89 (zby_w zwX9_layFleet_3 26 rfl)
theorem d_X9_layFleet_123 : decode cX9_layFleet 123 = .ok (.getfield 231, 3) := zo_180 (a := 0) (b := 231) (zby_w zwX9_layFleet_3 27 rfl) (zby_w zwX9_layFleet_3 28 rfl) (zby_w zwX9_layFleet_3 29 rfl) (by decide)
theorem d_X9_layFleet_126 : decode cX9_layFleet 126 = .ok (.iconst 3, 1) := zo_6 (zby_w zwX9_layFleet_3 30 rfl)
theorem d_X9_layFleet_127 : decode cX9_layFleet 127 = .ok (.imul, 1) := zo_104 (zby_w zwX9_layFleet_3 31 rfl)
theorem d_X9_layFleet_128 : decode cX9_layFleet 128 = .ok (.putfield 231, 3) := zo_181 (a := 0) (b := 231) (zby_w zwX9_layFleet_4 0 rfl) (zby_w zwX9_layFleet_4 1 rfl) (zby_w zwX9_layFleet_4 2 rfl) (by decide)
theorem d_X9_layFleet_131 : decode cX9_layFleet 131 = .ok (.iinc 2 (-1), 3) := by decide +kernel
theorem d_X9_layFleet_134 : decode cX9_layFleet 134 = .ok (.goto (-113), 3) := zo_167 (a := 255) (b := 143) (zby_w zwX9_layFleet_4 6 rfl) (zby_w zwX9_layFleet_4 7 rfl) (zby_w zwX9_layFleet_4 8 rfl) (by decide)
theorem d_X9_layFleet_137 : decode cX9_layFleet 137 = .ok (.return_, 1) := zo_177 (zby_w zwX9_layFleet_4 9 rfl)
theorem d_X9_lessThan_0 : decode cX9_lessThan 0 = .ok (.iconst 0, 1) := zo_3 (zby_w zwX9_lessThan_0 0 rfl)
theorem d_X9_lessThan_1 : decode cX9_lessThan 1 = .ok (.istore_n 2, 1) := zo_61 (zby_w zwX9_lessThan_0 1 rfl)
theorem d_X9_lessThan_2 : decode cX9_lessThan 2 = .ok (.iconst 0, 1) := zo_3 (zby_w zwX9_lessThan_0 2 rfl)
theorem d_X9_lessThan_3 : decode cX9_lessThan 3 = .ok (.istore_n 3, 1) := zo_62 (zby_w zwX9_lessThan_0 3 rfl)
theorem d_X9_lessThan_4 : decode cX9_lessThan 4 = .ok (.iload_n 3, 1) := zo_29 (zby_w zwX9_lessThan_0 4 rfl)
theorem d_X9_lessThan_5 : decode cX9_lessThan 5 = .ok (.aload_n 0, 1) := zo_42 (zby_w zwX9_lessThan_0 5 rfl)
theorem d_X9_lessThan_6 : decode cX9_lessThan 6 = .ok (.getfield 231, 3) := zo_180 (a := 0) (b := 231) (zby_w zwX9_lessThan_0 6 rfl) (zby_w zwX9_lessThan_0 7 rfl) (zby_w zwX9_lessThan_0 8 rfl) (by decide)
theorem d_X9_lessThan_9 : decode cX9_lessThan 9 = .ok (.if_icmp .ge 42, 3) := zo_162 (a := 0) (b := 42) (zby_w zwX9_lessThan_0 9 rfl) (zby_w zwX9_lessThan_0 10 rfl) (zby_w zwX9_lessThan_0 11 rfl) (by decide)
theorem d_X9_lessThan_12 : decode cX9_lessThan 12 = .ok (.iload_n 2, 1) := zo_28 (zby_w zwX9_lessThan_0 12 rfl)
theorem d_X9_lessThan_13 : decode cX9_lessThan 13 = .ok (.aload_n 0, 1) := zo_42 (zby_w zwX9_lessThan_0 13 rfl)
theorem d_X9_lessThan_14 : decode cX9_lessThan 14 = .ok (.getfield 52, 3) := zo_180 (a := 0) (b := 52) (zby_w zwX9_lessThan_0 14 rfl) (zby_w zwX9_lessThan_0 15 rfl) (zby_w zwX9_lessThan_0 16 rfl) (by decide)
theorem d_X9_lessThan_17 : decode cX9_lessThan 17 = .ok (.iload_n 3, 1) := zo_29 (zby_w zwX9_lessThan_0 17 rfl)
theorem d_X9_lessThan_18 : decode cX9_lessThan 18 = .ok (.iaload, 1) := zo_46 (zby_w zwX9_lessThan_0 18 rfl)
theorem d_X9_lessThan_19 : decode cX9_lessThan 19 = .ok (.iconst 1, 1) := zo_4 (zby_w zwX9_lessThan_0 19 rfl)
theorem d_X9_lessThan_20 : decode cX9_lessThan 20 = .ok (.if_icmp .ne 22, 3) := zo_160 (a := 0) (b := 22) (zby_w zwX9_lessThan_0 20 rfl) (zby_w zwX9_lessThan_0 21 rfl) (zby_w zwX9_lessThan_0 22 rfl) (by decide)
theorem d_X9_lessThan_23 : decode cX9_lessThan 23 = .ok (.aload_n 0, 1) := zo_42 (zby_w zwX9_lessThan_0 23 rfl)
theorem d_X9_lessThan_24 : decode cX9_lessThan 24 = .ok (.getfield 46, 3) := zo_180 (a := 0) (b := 46) (zby_w zwX9_lessThan_0 24 rfl) (zby_w zwX9_lessThan_0 25 rfl) (zby_w zwX9_lessThan_0 26 rfl) (by decide)
theorem d_X9_lessThan_27 : decode cX9_lessThan 27 = .ok (.iload_n 3, 1) := zo_29 (zby_w zwX9_lessThan_0 27 rfl)
theorem d_X9_lessThan_28 : decode cX9_lessThan 28 = .ok (.iaload, 1) := zo_46 (zby_w zwX9_lessThan_0 28 rfl)
theorem d_X9_lessThan_29 : decode cX9_lessThan 29 = .ok (.aload_n 0, 1) := zo_42 (zby_w zwX9_lessThan_0 29 rfl)
theorem d_X9_lessThan_30 : decode cX9_lessThan 30 = .ok (.getfield 46, 3) := zo_180 (a := 0) (b := 46) (zby_w zwX9_lessThan_0 30 rfl) (zby_w zwX9_lessThan_0 31 rfl) (zby_w zwX9_lessThan_0 32 rfl) (by decide)
theorem d_X9_lessThan_33 : decode cX9_lessThan 33 = .ok (.iload_n 1, 1) := zo_27 (zby_w zwX9_lessThan_1 1 rfl)
theorem d_X9_lessThan_34 : decode cX9_lessThan 34 = .ok (.iaload, 1) := zo_46 (zby_w zwX9_lessThan_1 2 rfl)
theorem d_X9_lessThan_35 : decode cX9_lessThan 35 = .ok (.if_icmp .ge 7, 3) := zo_162 (a := 0) (b := 7) (zby_w zwX9_lessThan_1 3 rfl) (zby_w zwX9_lessThan_1 4 rfl) (zby_w zwX9_lessThan_1 5 rfl) (by decide)
theorem d_X9_lessThan_38 : decode cX9_lessThan 38 = .ok (.iconst 1, 1) := zo_4 (zby_w zwX9_lessThan_1 6 rfl)
theorem d_X9_lessThan_39 : decode cX9_lessThan 39 = .ok (.goto 4, 3) := zo_167 (a := 0) (b := 4) (zby_w zwX9_lessThan_1 7 rfl) (zby_w zwX9_lessThan_1 8 rfl) (zby_w zwX9_lessThan_1 9 rfl) (by decide)
theorem d_X9_lessThan_42 : decode cX9_lessThan 42 = .ok (.iconst 0, 1) := zo_3 (zby_w zwX9_lessThan_1 10 rfl)
theorem d_X9_lessThan_43 : decode cX9_lessThan 43 = .ok (.iadd, 1) := zo_96 (zby_w zwX9_lessThan_1 11 rfl)
theorem d_X9_lessThan_44 : decode cX9_lessThan 44 = .ok (.istore_n 2, 1) := zo_61 (zby_w zwX9_lessThan_1 12 rfl)
theorem d_X9_lessThan_45 : decode cX9_lessThan 45 = .ok (.iinc 3 1, 3) := by decide +kernel
theorem d_X9_lessThan_48 : decode cX9_lessThan 48 = .ok (.goto (-44), 3) := zo_167 (a := 255) (b := 212) (zby_w zwX9_lessThan_1 16 rfl) (zby_w zwX9_lessThan_1 17 rfl) (zby_w zwX9_lessThan_1 18 rfl) (by decide)
theorem d_X9_lessThan_51 : decode cX9_lessThan 51 = .ok (.iload_n 2, 1) := zo_28 (zby_w zwX9_lessThan_1 19 rfl)
theorem d_X9_lessThan_52 : decode cX9_lessThan 52 = .ok (.ireturn, 1) := zo_172 (zby_w zwX9_lessThan_1 20 rfl)
theorem d_X9_line_0 : decode cX9_line 0 = .ok (.iload_n 1, 1) := zo_27 (zby_w zwX9_line_0 0 rfl)
theorem d_X9_line_1 : decode cX9_line 1 = .ok (.invokestatic 219, 3) := zo_184 (a := 0) (b := 219) (zby_w zwX9_line_0 1 rfl) (zby_w zwX9_line_0 2 rfl) (zby_w zwX9_line_0 3 rfl) (by decide)
theorem d_X9_line_4 : decode cX9_line 4 = .ok (.ifCond .eq 13, 3) := zo_153 (a := 0) (b := 13) (zby_w zwX9_line_0 4 rfl) (zby_w zwX9_line_0 5 rfl) (zby_w zwX9_line_0 6 rfl) (by decide)
theorem d_X9_line_7 : decode cX9_line 7 = .ok (.iload_n 3, 1) := zo_29 (zby_w zwX9_line_0 7 rfl)
theorem d_X9_line_8 : decode cX9_line 8 = .ok (.i2l, 1) := zo_133 (zby_w zwX9_line_0 8 rfl)
theorem d_X9_line_9 : decode cX9_line 9 = .ok (.lconst 0, 1) := zo_9 (zby_w zwX9_line_0 9 rfl)
theorem d_X9_line_10 : decode cX9_line 10 = .ok (.lconst 1, 1) := zo_10 (zby_w zwX9_line_0 10 rfl)
theorem d_X9_line_11 : decode cX9_line 11 = .ok (.invokestatic 89, 3) := zo_184 (a := 0) (b := 89) (zby_w zwX9_line_0 11 rfl) (zby_w zwX9_line_0 12 rfl) (zby_w zwX9_line_0 13 rfl) (by decide)
theorem d_X9_line_14 : decode cX9_line 14 = .ok (.ifCond .ne 6, 3) := zo_154 (a := 0) (b := 6) (zby_w zwX9_line_0 14 rfl) (zby_w zwX9_line_0 15 rfl) (zby_w zwX9_line_0 16 rfl) (by decide)
theorem d_X9_line_17 : decode cX9_line 17 = .ok (.bipush (-2), 2) := zo_16 (a := 254) (zby_w zwX9_line_0 17 rfl) (zby_w zwX9_line_0 18 rfl) (by decide)
theorem d_X9_line_19 : decode cX9_line 19 = .ok (.ireturn, 1) := zo_172 (zby_w zwX9_line_0 19 rfl)
theorem d_X9_line_20 : decode cX9_line 20 = .ok (.aload_n 0, 1) := zo_42 (zby_w zwX9_line_0 20 rfl)
theorem d_X9_line_21 : decode cX9_line 21 = .ok (.iload_n 1, 1) := zo_27 (zby_w zwX9_line_0 21 rfl)
theorem d_X9_line_22 : decode cX9_line 22 = .ok (.invokevirtual 239, 3) := zo_182 (a := 0) (b := 239) (zby_w zwX9_line_0 22 rfl) (zby_w zwX9_line_0 23 rfl) (zby_w zwX9_line_0 24 rfl) (by decide)
theorem d_X9_line_25 : decode cX9_line 25 = .ok (.iconst 0, 1) := zo_3 (zby_w zwX9_line_0 25 rfl)
theorem d_X9_line_26 : decode cX9_line 26 = .ok (.istore 4, 2) := zo_54 (a := 4) (zby_w zwX9_line_0 26 rfl) (zby_w zwX9_line_0 27 rfl) (by decide)
theorem d_X9_line_28 : decode cX9_line 28 = .ok (.iconst 0, 1) := zo_3 (zby_w zwX9_line_0 28 rfl)
theorem d_X9_line_29 : decode cX9_line 29 = .ok (.istore 5, 2) := zo_54 (a := 5) (zby_w zwX9_line_0 29 rfl) (zby_w zwX9_line_0 30 rfl) (by decide)
theorem d_X9_line_31 : decode cX9_line 31 = .ok (.iload 5, 2) := zo_21 (a := 5) (zby_w zwX9_line_0 31 rfl) (zby_w zwX9_line_0 32 rfl) (by decide)
theorem d_X9_line_33 : decode cX9_line 33 = .ok (.aload_n 0, 1) := zo_42 (zby_w zwX9_line_1 1 rfl)
theorem d_X9_line_34 : decode cX9_line 34 = .ok (.getfield 231, 3) := zo_180 (a := 0) (b := 231) (zby_w zwX9_line_1 2 rfl) (zby_w zwX9_line_1 3 rfl) (zby_w zwX9_line_1 4 rfl) (by decide)
theorem d_X9_line_37 : decode cX9_line 37 = .ok (.if_icmp .ge 41, 3) := zo_162 (a := 0) (b := 41) (zby_w zwX9_line_1 5 rfl) (zby_w zwX9_line_1 6 rfl) (zby_w zwX9_line_1 7 rfl) (by decide)
theorem d_X9_line_40 : decode cX9_line 40 = .ok (.aload_n 0, 1) := zo_42 (zby_w zwX9_line_1 8 rfl)
theorem d_X9_line_41 : decode cX9_line 41 = .ok (.iload 5, 2) := zo_21 (a := 5) (zby_w zwX9_line_1 9 rfl) (zby_w zwX9_line_1 10 rfl) (by decide)
theorem d_X9_line_43 : decode cX9_line 43 = .ok (.invokevirtual 245, 3) := zo_182 (a := 0) (b := 245) (zby_w zwX9_line_1 11 rfl) (zby_w zwX9_line_1 12 rfl) (zby_w zwX9_line_1 13 rfl) (by decide)
theorem d_X9_line_46 : decode cX9_line 46 = .ok (.ifCond .eq 7, 3) := zo_153 (a := 0) (b := 7) (zby_w zwX9_line_1 14 rfl) (zby_w zwX9_line_1 15 rfl) (zby_w zwX9_line_1 16 rfl) (by decide)
theorem d_X9_line_49 : decode cX9_line 49 = .ok (.iconst 1, 1) := zo_4 (zby_w zwX9_line_1 17 rfl)
theorem d_X9_line_50 : decode cX9_line 50 = .ok (.goto 4, 3) := zo_167 (a := 0) (b := 4) (zby_w zwX9_line_1 18 rfl) (zby_w zwX9_line_1 19 rfl) (zby_w zwX9_line_1 20 rfl) (by decide)
theorem d_X9_line_53 : decode cX9_line 53 = .ok (.iconst 0, 1) := zo_3 (zby_w zwX9_line_1 21 rfl)
theorem d_X9_line_54 : decode cX9_line 54 = .ok (.istore 6, 2) := zo_54 (a := 6) (zby_w zwX9_line_1 22 rfl) (zby_w zwX9_line_1 23 rfl) (by decide)
theorem d_X9_line_56 : decode cX9_line 56 = .ok (.aload_n 0, 1) := zo_42 (zby_w zwX9_line_1 24 rfl)
theorem d_X9_line_57 : decode cX9_line 57 = .ok (.getfield 52, 3) := zo_180 (a := 0) (b := 52) (zby_w zwX9_line_1 25 rfl) (zby_w zwX9_line_1 26 rfl) (zby_w zwX9_line_1 27 rfl) (by decide)
theorem d_X9_line_60 : decode cX9_line 60 = .ok (.iload 5, 2) := zo_21 (a := 5) (zby_w zwX9_line_1 28 rfl) (zby_w zwX9_line_1 29 rfl) (by decide)
theorem d_X9_line_62 : decode cX9_line 62 = .ok (.iload 6, 2) := zo_21 (a := 6) (zby_w zwX9_line_1 30 rfl) (zby_w zwX9_line_1 31 rfl) (by decide)
theorem d_X9_line_64 : decode cX9_line 64 = .ok (.iastore, 1) := zo_79 (zby_w zwX9_line_2 0 rfl)
theorem d_X9_line_65 : decode cX9_line 65 = .ok (.iload 4, 2) := zo_21 (a := 4) (zby_w zwX9_line_2 1 rfl) (zby_w zwX9_line_2 2 rfl) (by decide)
theorem d_X9_line_67 : decode cX9_line 67 = .ok (.iload 6, 2) := zo_21 (a := 6) (zby_w zwX9_line_2 3 rfl) (zby_w zwX9_line_2 4 rfl) (by decide)
theorem d_X9_line_69 : decode cX9_line 69 = .ok (.iadd, 1) := zo_96 (zby_w zwX9_line_2 5 rfl)
theorem d_X9_line_70 : decode cX9_line 70 = .ok (.istore 4, 2) := zo_54 (a := 4) (zby_w zwX9_line_2 6 rfl) (zby_w zwX9_line_2 7 rfl) (by decide)
theorem d_X9_line_72 : decode cX9_line 72 = .ok (.iinc 5 1, 3) := by decide +kernel
theorem d_X9_line_75 : decode cX9_line 75 = .ok (.goto (-44), 3) := zo_167 (a := 255) (b := 212) (zby_w zwX9_line_2 11 rfl) (zby_w zwX9_line_2 12 rfl) (zby_w zwX9_line_2 13 rfl) (by decide)
theorem d_X9_line_78 : decode cX9_line 78 = .ok (.iload_n 2, 1) := zo_28 (zby_w zwX9_line_2 14 rfl)
theorem d_X9_line_79 : decode cX9_line 79 = .ok (.iconst (-1), 1) := zo_2 (zby_w zwX9_line_2 15 rfl)
theorem d_X9_line_80 : decode cX9_line 80 = .ok (.if_icmp .eq 17, 3) := zo_159 (a := 0) (b := 17) (zby_w zwX9_line_2 16 rfl) (zby_w zwX9_line_2 17 rfl) (zby_w zwX9_line_2 18 rfl) (by decide)
theorem d_X9_line_83 : decode cX9_line 83 = .ok (.iload_n 2, 1) := zo_28 (zby_w zwX9_line_2 19 rfl)
theorem d_X9_line_84 : decode cX9_line 84 = .ok (.i2l, 1) := zo_133 (zby_w zwX9_line_2 20 rfl)
theorem d_X9_line_85 : decode cX9_line 85 = .ok (.lconst 0, 1) := zo_9 (zby_w zwX9_line_2 21 rfl)
theorem d_X9_line_86 : decode cX9_line 86 = .ok (.iload 4, 2) := zo_21 (a := 4) (zby_w zwX9_line_2 22 rfl) (zby_w zwX9_line_2 23 rfl) (by decide)
theorem d_X9_line_88 : decode cX9_line 88 = .ok (.iconst 1, 1) := zo_4 (zby_w zwX9_line_2 24 rfl)
theorem d_X9_line_89 : decode cX9_line 89 = .ok (.isub, 1) := zo_100 (zby_w zwX9_line_2 25 rfl)
theorem d_X9_line_90 : decode cX9_line 90 = .ok (.i2l, 1) := zo_133 (zby_w zwX9_line_2 26 rfl)
theorem d_X9_line_91 : decode cX9_line 91 = .ok (.invokestatic 89, 3) := zo_184 (a := 0) (b := 89) (zby_w zwX9_line_2 27 rfl) (zby_w zwX9_line_2 28 rfl) (zby_w zwX9_line_2 29 rfl) (by decide)
theorem d_X9_line_94 : decode cX9_line 94 = .ok (.ifCond .ne 16, 3) := zo_154 (a := 0) (b := 16) (zby_w zwX9_line_2 30 rfl) (zby_w zwX9_line_2 31 rfl) (zby_w zwX9_line_2 32 rfl) (by decide)
theorem d_X9_line_97 : decode cX9_line 97 = .ok (.iload_n 2, 1) := zo_28 (zby_w zwX9_line_3 1 rfl)
theorem d_X9_line_98 : decode cX9_line 98 = .ok (.iconst (-1), 1) := zo_2 (zby_w zwX9_line_3 2 rfl)
theorem d_X9_line_99 : decode cX9_line 99 = .ok (.if_icmp .ne 8, 3) := zo_160 (a := 0) (b := 8) (zby_w zwX9_line_3 3 rfl) (zby_w zwX9_line_3 4 rfl) (zby_w zwX9_line_3 5 rfl) (by decide)
theorem d_X9_line_102 : decode cX9_line 102 = .ok (.iload 4, 2) := zo_21 (a := 4) (zby_w zwX9_line_3 6 rfl) (zby_w zwX9_line_3 7 rfl) (by decide)
theorem d_X9_line_104 : decode cX9_line 104 = .ok (.goto 5, 3) := zo_167 (a := 0) (b := 5) (zby_w zwX9_line_3 8 rfl) (zby_w zwX9_line_3 9 rfl) (zby_w zwX9_line_3 10 rfl) (by decide)
theorem d_X9_line_107 : decode cX9_line 107 = .ok (.bipush (-6), 2) := zo_16 (a := 250) (zby_w zwX9_line_3 11 rfl) (zby_w zwX9_line_3 12 rfl) (by decide)
theorem d_X9_line_109 : decode cX9_line 109 = .ok (.ireturn, 1) := zo_172 (zby_w zwX9_line_3 13 rfl)
theorem d_X9_line_110 : decode cX9_line 110 = .ok (.iconst 0, 1) := zo_3 (zby_w zwX9_line_3 14 rfl)
theorem d_X9_line_111 : decode cX9_line 111 = .ok (.istore 5, 2) := zo_54 (a := 5) (zby_w zwX9_line_3 15 rfl) (zby_w zwX9_line_3 16 rfl) (by decide)
theorem d_X9_line_113 : decode cX9_line 113 = .ok (.iload 5, 2) := zo_21 (a := 5) (zby_w zwX9_line_3 17 rfl) (zby_w zwX9_line_3 18 rfl) (by decide)
theorem d_X9_line_115 : decode cX9_line 115 = .ok (.aload_n 0, 1) := zo_42 (zby_w zwX9_line_3 19 rfl)
theorem d_X9_line_116 : decode cX9_line 116 = .ok (.getfield 231, 3) := zo_180 (a := 0) (b := 231) (zby_w zwX9_line_3 20 rfl) (zby_w zwX9_line_3 21 rfl) (zby_w zwX9_line_3 22 rfl) (by decide)
theorem d_X9_line_119 : decode cX9_line 119 = .ok (.if_icmp .ge 52, 3) := zo_162 (a := 0) (b := 52) (zby_w zwX9_line_3 23 rfl) (zby_w zwX9_line_3 24 rfl) (zby_w zwX9_line_3 25 rfl) (by decide)
theorem d_X9_line_122 : decode cX9_line 122 = .ok (.aload_n 0, 1) := zo_42 (zby_w zwX9_line_3 26 rfl)
theorem d_X9_line_123 : decode cX9_line 123 = .ok (.getfield 52, 3) := zo_180 (a := 0) (b := 52) (zby_w zwX9_line_3 27 rfl) (zby_w zwX9_line_3 28 rfl) (zby_w zwX9_line_3 29 rfl) (by decide)
theorem d_X9_line_126 : decode cX9_line 126 = .ok (.iload 5, 2) := zo_21 (a := 5) (zby_w zwX9_line_3 30 rfl) (zby_w zwX9_line_3 31 rfl) (by decide)
theorem d_X9_line_128 : decode cX9_line 128 = .ok (.iaload, 1) := zo_46 (zby_w zwX9_line_4 0 rfl)
theorem d_X9_line_129 : decode cX9_line 129 = .ok (.iconst 1, 1) := zo_4 (zby_w zwX9_line_4 1 rfl)
theorem d_X9_line_130 : decode cX9_line 130 = .ok (.if_icmp .ne 35, 3) := zo_160 (a := 0) (b := 35) (zby_w zwX9_line_4 2 rfl) (zby_w zwX9_line_4 3 rfl) (zby_w zwX9_line_4 4 rfl) (by decide)
theorem d_X9_line_133 : decode cX9_line 133 = .ok (.aload_n 0, 1) := zo_42 (zby_w zwX9_line_4 5 rfl)
theorem d_X9_line_134 : decode cX9_line 134 = .ok (.iload 5, 2) := zo_21 (a := 5) (zby_w zwX9_line_4 6 rfl) (zby_w zwX9_line_4 7 rfl) (by decide)
theorem d_X9_line_136 : decode cX9_line 136 = .ok (.invokevirtual 248, 3) := zo_182 (a := 0) (b := 248) (zby_w zwX9_line_4 8 rfl) (zby_w zwX9_line_4 9 rfl) (zby_w zwX9_line_4 10 rfl) (by decide)
theorem d_X9_line_139 : decode cX9_line 139 = .ok (.iload_n 2, 1) := zo_28 (zby_w zwX9_line_4 11 rfl)
theorem d_X9_line_140 : decode cX9_line 140 = .ok (.if_icmp .ne 25, 3) := zo_160 (a := 0) (b := 25) (zby_w zwX9_line_4 12 rfl) (zby_w zwX9_line_4 13 rfl) (zby_w zwX9_line_4 14 rfl) (by decide)
theorem d_X9_line_143 : decode cX9_line 143 = .ok (.iload_n 3, 1) := zo_29 (zby_w zwX9_line_4 15 rfl)
theorem d_X9_line_144 : decode cX9_line 144 = .ok (.ifCond .ne 13, 3) := zo_154 (a := 0) (b := 13) (zby_w zwX9_line_4 16 rfl) (zby_w zwX9_line_4 17 rfl) (zby_w zwX9_line_4 18 rfl) (by decide)
theorem d_X9_line_147 : decode cX9_line 147 = .ok (.aload_n 0, 1) := zo_42 (zby_w zwX9_line_4 19 rfl)
theorem d_X9_line_148 : decode cX9_line 148 = .ok (.getfield 46, 3) := zo_180 (a := 0) (b := 46) (zby_w zwX9_line_4 20 rfl) (zby_w zwX9_line_4 21 rfl) (zby_w zwX9_line_4 22 rfl) (by decide)
theorem d_X9_line_151 : decode cX9_line 151 = .ok (.iload 5, 2) := zo_21 (a := 5) (zby_w zwX9_line_4 23 rfl) (zby_w zwX9_line_4 24 rfl) (by decide)
theorem d_X9_line_153 : decode cX9_line 153 = .ok (.iaload, 1) := zo_46 (zby_w zwX9_line_4 25 rfl)
theorem d_X9_line_154 : decode cX9_line 154 = .ok (.goto 10, 3) := zo_167 (a := 0) (b := 10) (zby_w zwX9_line_4 26 rfl) (zby_w zwX9_line_4 27 rfl) (zby_w zwX9_line_4 28 rfl) (by decide)
theorem d_X9_line_157 : decode cX9_line 157 = .ok (.aload_n 0, 1) := zo_42 (zby_w zwX9_line_4 29 rfl)
theorem d_X9_line_158 : decode cX9_line 158 = .ok (.getfield 49, 3) := zo_180 (a := 0) (b := 49) (zby_w zwX9_line_4 30 rfl) (zby_w zwX9_line_4 31 rfl) (zby_w zwX9_line_4 32 rfl) (by decide)
theorem d_X9_line_161 : decode cX9_line 161 = .ok (.iload 5, 2) := zo_21 (a := 5) (zby_w zwX9_line_5 1 rfl) (zby_w zwX9_line_5 2 rfl) (by decide)
theorem d_X9_line_163 : decode cX9_line 163 = .ok (.iaload, 1) := zo_46 (zby_w zwX9_line_5 3 rfl)
theorem d_X9_line_164 : decode cX9_line 164 = .ok (.ireturn, 1) := zo_172 (zby_w zwX9_line_5 4 rfl)
theorem d_X9_line_165 : decode cX9_line 165 = .ok (.iinc 5 1, 3) := by decide +kernel
theorem d_X9_line_168 : decode cX9_line 168 = .ok (.goto (-55), 3) := zo_167 (a := 255) (b := 201) (zby_w zwX9_line_5 8 rfl) (zby_w zwX9_line_5 9 rfl) (zby_w zwX9_line_5 10 rfl) (by decide)
theorem d_X9_line_171 : decode cX9_line 171 = .ok (.bipush (-6), 2) := zo_16 (a := 250) (zby_w zwX9_line_5 11 rfl) (zby_w zwX9_line_5 12 rfl) (by decide)
theorem d_X9_line_173 : decode cX9_line 173 = .ok (.ireturn, 1) := zo_172 (zby_w zwX9_line_5 13 rfl)
theorem d_X9_lostByTeeth_0 : decode cX9_lostByTeeth 0 = .ok (.aload_n 0, 1) := zo_42 (zby_w zwX9_lostByTeeth_0 0 rfl)
theorem d_X9_lostByTeeth_1 : decode cX9_lostByTeeth 1 = .ok (.getfield 62, 3) := zo_180 (a := 0) (b := 62) (zby_w zwX9_lostByTeeth_0 1 rfl) (zby_w zwX9_lostByTeeth_0 2 rfl) (zby_w zwX9_lostByTeeth_0 3 rfl) (by decide)
theorem d_X9_lostByTeeth_4 : decode cX9_lostByTeeth 4 = .ok (.aload_n 0, 1) := zo_42 (zby_w zwX9_lostByTeeth_0 4 rfl)
theorem d_X9_lostByTeeth_5 : decode cX9_lostByTeeth 5 = .ok (.getfield 13, 3) := zo_180 (a := 0) (b := 13) (zby_w zwX9_lostByTeeth_0 5 rfl) (zby_w zwX9_lostByTeeth_0 6 rfl) (zby_w zwX9_lostByTeeth_0 7 rfl) (by decide)
theorem d_X9_lostByTeeth_8 : decode cX9_lostByTeeth 8 = .ok (.iload_n 1, 1) := zo_27 (zby_w zwX9_lostByTeeth_0 8 rfl)
theorem d_X9_lostByTeeth_9 : decode cX9_lostByTeeth 9 = .ok (.iaload, 1) := zo_46 (zby_w zwX9_lostByTeeth_0 9 rfl)
theorem d_X9_lostByTeeth_10 : decode cX9_lostByTeeth 10 = .ok (.if_icmp .le 17, 3) := zo_164 (a := 0) (b := 17) (zby_w zwX9_lostByTeeth_0 10 rfl) (zby_w zwX9_lostByTeeth_0 11 rfl) (zby_w zwX9_lostByTeeth_0 12 rfl) (by decide)
theorem d_X9_lostByTeeth_13 : decode cX9_lostByTeeth 13 = .ok (.aload_n 0, 1) := zo_42 (zby_w zwX9_lostByTeeth_0 13 rfl)
theorem d_X9_lostByTeeth_14 : decode cX9_lostByTeeth 14 = .ok (.getfield 62, 3) := zo_180 (a := 0) (b := 62) (zby_w zwX9_lostByTeeth_0 14 rfl) (zby_w zwX9_lostByTeeth_0 15 rfl) (zby_w zwX9_lostByTeeth_0 16 rfl) (by decide)
theorem d_X9_lostByTeeth_17 : decode cX9_lostByTeeth 17 = .ok (.aload_n 0, 1) := zo_42 (zby_w zwX9_lostByTeeth_0 17 rfl)
theorem d_X9_lostByTeeth_18 : decode cX9_lostByTeeth 18 = .ok (.getfield 13, 3) := zo_180 (a := 0) (b := 13) (zby_w zwX9_lostByTeeth_0 18 rfl) (zby_w zwX9_lostByTeeth_0 19 rfl) (zby_w zwX9_lostByTeeth_0 20 rfl) (by decide)
theorem d_X9_lostByTeeth_21 : decode cX9_lostByTeeth 21 = .ok (.iload_n 1, 1) := zo_27 (zby_w zwX9_lostByTeeth_0 21 rfl)
theorem d_X9_lostByTeeth_22 : decode cX9_lostByTeeth 22 = .ok (.iaload, 1) := zo_46 (zby_w zwX9_lostByTeeth_0 22 rfl)
theorem d_X9_lostByTeeth_23 : decode cX9_lostByTeeth 23 = .ok (.isub, 1) := zo_100 (zby_w zwX9_lostByTeeth_0 23 rfl)
theorem d_X9_lostByTeeth_24 : decode cX9_lostByTeeth 24 = .ok (.goto 4, 3) := zo_167 (a := 0) (b := 4) (zby_w zwX9_lostByTeeth_0 24 rfl) (zby_w zwX9_lostByTeeth_0 25 rfl) (zby_w zwX9_lostByTeeth_0 26 rfl) (by decide)
theorem d_X9_lostByTeeth_27 : decode cX9_lostByTeeth 27 = .ok (.iconst 0, 1) := zo_3 (zby_w zwX9_lostByTeeth_0 27 rfl)
theorem d_X9_lostByTeeth_28 : decode cX9_lostByTeeth 28 = .ok (.istore_n 2, 1) := zo_61 (zby_w zwX9_lostByTeeth_0 28 rfl)
theorem d_X9_lostByTeeth_29 : decode cX9_lostByTeeth 29 = .ok (.iload_n 2, 1) := zo_28 (zby_w zwX9_lostByTeeth_0 29 rfl)
theorem d_X9_lostByTeeth_30 : decode cX9_lostByTeeth 30 = .ok (.aload_n 0, 1) := zo_42 (zby_w zwX9_lostByTeeth_0 30 rfl)
theorem d_X9_lostByTeeth_31 : decode cX9_lostByTeeth 31 = .ok (.getfield 7, 3) := zo_180 (a := 0) (b := 7) (zby_w zwX9_lostByTeeth_0 31 rfl) (zby_w zwX9_lostByTeeth_0 32 rfl) (zby_w zwX9_lostByTeeth_0 33 rfl) (by decide)
theorem d_X9_lostByTeeth_34 : decode cX9_lostByTeeth 34 = .ok (.iload_n 1, 1) := zo_27 (zby_w zwX9_lostByTeeth_1 2 rfl)
theorem d_X9_lostByTeeth_35 : decode cX9_lostByTeeth 35 = .ok (.iaload, 1) := zo_46 (zby_w zwX9_lostByTeeth_1 3 rfl)
theorem d_X9_lostByTeeth_36 : decode cX9_lostByTeeth 36 = .ok (.if_icmp .ge 7, 3) := zo_162 (a := 0) (b := 7) (zby_w zwX9_lostByTeeth_1 4 rfl) (zby_w zwX9_lostByTeeth_1 5 rfl) (zby_w zwX9_lostByTeeth_1 6 rfl) (by decide)
theorem d_X9_lostByTeeth_39 : decode cX9_lostByTeeth 39 = .ok (.iload_n 2, 1) := zo_28 (zby_w zwX9_lostByTeeth_1 7 rfl)
theorem d_X9_lostByTeeth_40 : decode cX9_lostByTeeth 40 = .ok (.goto 9, 3) := zo_167 (a := 0) (b := 9) (zby_w zwX9_lostByTeeth_1 8 rfl) (zby_w zwX9_lostByTeeth_1 9 rfl) (zby_w zwX9_lostByTeeth_1 10 rfl) (by decide)
theorem d_X9_lostByTeeth_43 : decode cX9_lostByTeeth 43 = .ok (.aload_n 0, 1) := zo_42 (zby_w zwX9_lostByTeeth_1 11 rfl)
theorem d_X9_lostByTeeth_44 : decode cX9_lostByTeeth 44 = .ok (.getfield 7, 3) := zo_180 (a := 0) (b := 7) (zby_w zwX9_lostByTeeth_1 12 rfl) (zby_w zwX9_lostByTeeth_1 13 rfl) (zby_w zwX9_lostByTeeth_1 14 rfl) (by decide)
theorem d_X9_lostByTeeth_47 : decode cX9_lostByTeeth 47 = .ok (.iload_n 1, 1) := zo_27 (zby_w zwX9_lostByTeeth_1 15 rfl)
theorem d_X9_lostByTeeth_48 : decode cX9_lostByTeeth 48 = .ok (.iaload, 1) := zo_46 (zby_w zwX9_lostByTeeth_1 16 rfl)
theorem d_X9_lostByTeeth_49 : decode cX9_lostByTeeth 49 = .ok (.ireturn, 1) := zo_172 (zby_w zwX9_lostByTeeth_1 17 rfl)
theorem d_X9_lot_0 : decode cX9_lot 0 = .ok (.aload_n 0, 1) := zo_42 (zby_w zwX9_lot_0 0 rfl)
theorem d_X9_lot_1 : decode cX9_lot 1 = .ok (.iload_n 2, 1) := zo_28 (zby_w zwX9_lot_0 1 rfl)
theorem d_X9_lot_2 : decode cX9_lot 2 = .ok (.invokevirtual 275, 3) := zo_182 (a := 1) (b := 19) (zby_w zwX9_lot_0 2 rfl) (zby_w zwX9_lot_0 3 rfl) (zby_w zwX9_lot_0 4 rfl) (by decide)
theorem d_X9_lot_5 : decode cX9_lot 5 = .ok (.ifCond .ne 7, 3) := zo_154 (a := 0) (b := 7) (zby_w zwX9_lot_0 5 rfl) (zby_w zwX9_lot_0 6 rfl) (zby_w zwX9_lot_0 7 rfl) (by decide)
theorem d_X9_lot_8 : decode cX9_lot 8 = .ok (.ldc2_w 278, 3) := zo_20 (a := 1) (b := 22) (zby_w zwX9_lot_0 8 rfl) (zby_w zwX9_lot_0 9 rfl) (zby_w zwX9_lot_0 10 rfl) (by decide)
theorem d_X9_lot_11 : decode cX9_lot 11 = .ok (.lreturn, 1) := zo_173 (zby_w zwX9_lot_0 11 rfl)
theorem d_X9_lot_12 : decode cX9_lot 12 = .ok (.iload_n 1, 1) := zo_27 (zby_w zwX9_lot_0 12 rfl)
theorem d_X9_lot_13 : decode cX9_lot 13 = .ok (.i2l, 1) := zo_133 (zby_w zwX9_lot_0 13 rfl)
theorem d_X9_lot_14 : decode cX9_lot 14 = .ok (.lconst 1, 1) := zo_10 (zby_w zwX9_lot_0 14 rfl)
theorem d_X9_lot_15 : decode cX9_lot 15 = .ok (.aload_n 0, 1) := zo_42 (zby_w zwX9_lot_0 15 rfl)
theorem d_X9_lot_16 : decode cX9_lot 16 = .ok (.getfield 272, 3) := zo_180 (a := 1) (b := 16) (zby_w zwX9_lot_0 16 rfl) (zby_w zwX9_lot_0 17 rfl) (zby_w zwX9_lot_0 18 rfl) (by decide)
theorem d_X9_lot_19 : decode cX9_lot 19 = .ok (.invokestatic 108, 3) := zo_184 (a := 0) (b := 108) (zby_w zwX9_lot_0 19 rfl) (zby_w zwX9_lot_0 20 rfl) (zby_w zwX9_lot_0 21 rfl) (by decide)
theorem d_X9_lot_22 : decode cX9_lot 22 = .ok (.i2l, 1) := zo_133 (zby_w zwX9_lot_0 22 rfl)
theorem d_X9_lot_23 : decode cX9_lot 23 = .ok (.invokestatic 89, 3) := zo_184 (a := 0) (b := 89) (zby_w zwX9_lot_0 23 rfl) (zby_w zwX9_lot_0 24 rfl) (zby_w zwX9_lot_0 25 rfl) (by decide)
theorem d_X9_lot_26 : decode cX9_lot 26 = .ok (.ifCond .eq 13, 3) := zo_153 (a := 0) (b := 13) (zby_w zwX9_lot_0 26 rfl) (zby_w zwX9_lot_0 27 rfl) (zby_w zwX9_lot_0 28 rfl) (by decide)
theorem d_X9_lot_29 : decode cX9_lot 29 = .ok (.iload_n 3, 1) := zo_29 (zby_w zwX9_lot_0 29 rfl)
theorem d_X9_lot_30 : decode cX9_lot 30 = .ok (.i2l, 1) := zo_133 (zby_w zwX9_lot_0 30 rfl)
theorem d_X9_lot_31 : decode cX9_lot 31 = .ok (.lconst 0, 1) := zo_9 (zby_w zwX9_lot_0 31 rfl)
theorem d_X9_lot_32 : decode cX9_lot 32 = .ok (.lconst 1, 1) := zo_10 (zby_w zwX9_lot_1 0 rfl)
theorem d_X9_lot_33 : decode cX9_lot 33 = .ok (.invokestatic 89, 3) := zo_184 (a := 0) (b := 89) (zby_w zwX9_lot_1 1 rfl) (zby_w zwX9_lot_1 2 rfl) (zby_w zwX9_lot_1 3 rfl) (by decide)
theorem d_X9_lot_36 : decode cX9_lot 36 = .ok (.ifCond .ne 7, 3) := zo_154 (a := 0) (b := 7) (zby_w zwX9_lot_1 4 rfl) (zby_w zwX9_lot_1 5 rfl) (zby_w zwX9_lot_1 6 rfl) (by decide)
theorem d_X9_lot_39 : decode cX9_lot 39 = .ok (.ldc2_w 280, 3) := zo_20 (a := 1) (b := 24) (zby_w zwX9_lot_1 7 rfl) (zby_w zwX9_lot_1 8 rfl) (zby_w zwX9_lot_1 9 rfl) (by decide)
theorem d_X9_lot_42 : decode cX9_lot 42 = .ok (.lreturn, 1) := zo_173 (zby_w zwX9_lot_1 10 rfl)
theorem d_X9_lot_43 : decode cX9_lot 43 = .ok (.iconst 0, 1) := zo_3 (zby_w zwX9_lot_1 11 rfl)
theorem d_X9_lot_44 : decode cX9_lot 44 = .ok (.istore 4, 2) := zo_54 (a := 4) (zby_w zwX9_lot_1 12 rfl) (zby_w zwX9_lot_1 13 rfl) (by decide)
theorem d_X9_lot_46 : decode cX9_lot 46 = .ok (.iconst 0, 1) := zo_3 (zby_w zwX9_lot_1 14 rfl)
theorem d_X9_lot_47 : decode cX9_lot 47 = .ok (.istore 5, 2) := zo_54 (a := 5) (zby_w zwX9_lot_1 15 rfl) (zby_w zwX9_lot_1 16 rfl) (by decide)
theorem d_X9_lot_49 : decode cX9_lot 49 = .ok (.iconst 0, 1) := zo_3 (zby_w zwX9_lot_1 17 rfl)
theorem d_X9_lot_50 : decode cX9_lot 50 = .ok (.istore 6, 2) := zo_54 (a := 6) (zby_w zwX9_lot_1 18 rfl) (zby_w zwX9_lot_1 19 rfl) (by decide)
theorem d_X9_lot_52 : decode cX9_lot 52 = .ok (.iload 6, 2) := zo_21 (a := 6) (zby_w zwX9_lot_1 20 rfl) (zby_w zwX9_lot_1 21 rfl) (by decide)
theorem d_X9_lot_54 : decode cX9_lot 54 = .ok (.bipush 8, 2) := zo_16 (a := 8) (zby_w zwX9_lot_1 22 rfl) (zby_w zwX9_lot_1 23 rfl) (by decide)
theorem d_X9_lot_56 : decode cX9_lot 56 = .ok (.if_icmp .ge 79, 3) := zo_162 (a := 0) (b := 79) (zby_w zwX9_lot_1 24 rfl) (zby_w zwX9_lot_1 25 rfl) (zby_w zwX9_lot_1 26 rfl) (by decide)
theorem d_X9_lot_59 : decode cX9_lot 59 = .ok (.iload 4, 2) := zo_21 (a := 4) (zby_w zwX9_lot_1 27 rfl) (zby_w zwX9_lot_1 28 rfl) (by decide)
theorem d_X9_lot_61 : decode cX9_lot 61 = .ok (.aload_n 0, 1) := zo_42 (zby_w zwX9_lot_1 29 rfl)
theorem d_X9_lot_62 : decode cX9_lot 62 = .ok (.iload 6, 2) := zo_21 (a := 6) (zby_w zwX9_lot_1 30 rfl) (zby_w zwX9_lot_1 31 rfl) (by decide)
theorem d_X9_lot_64 : decode cX9_lot 64 = .ok (.invokevirtual 275, 3) := zo_182 (a := 1) (b := 19) (zby_w zwX9_lot_2 0 rfl) (zby_w zwX9_lot_2 1 rfl) (zby_w zwX9_lot_2 2 rfl) (by decide)
theorem d_X9_lot_67 : decode cX9_lot 67 = .ok (.ifCond .eq 23, 3) := zo_153 (a := 0) (b := 23) (zby_w zwX9_lot_2 3 rfl) (zby_w zwX9_lot_2 4 rfl) (zby_w zwX9_lot_2 5 rfl) (by decide)
theorem d_X9_lot_70 : decode cX9_lot 70 = .ok (.aload_n 0, 1) := zo_42 (zby_w zwX9_lot_2 6 rfl)
theorem d_X9_lot_71 : decode cX9_lot 71 = .ok (.getfield 31, 3) := zo_180 (a := 0) (b := 31) (zby_w zwX9_lot_2 7 rfl) (zby_w zwX9_lot_2 8 rfl) (zby_w zwX9_lot_2 9 rfl) (by decide)
theorem d_X9_lot_74 : decode cX9_lot 74 = .ok (.iload 6, 2) := zo_21 (a := 6) (zby_w zwX9_lot_2 10 rfl) (zby_w zwX9_lot_2 11 rfl) (by decide)
theorem d_X9_lot_76 : decode cX9_lot 76 = .ok (.iaload, 1) := zo_46 (zby_w zwX9_lot_2 12 rfl)
theorem d_X9_lot_77 : decode cX9_lot 77 = .ok (.aload_n 0, 1) := zo_42 (zby_w zwX9_lot_2 13 rfl)
theorem d_X9_lot_78 : decode cX9_lot 78 = .ok (.getfield 31, 3) := zo_180 (a := 0) (b := 31) (zby_w zwX9_lot_2 14 rfl) (zby_w zwX9_lot_2 15 rfl) (zby_w zwX9_lot_2 16 rfl) (by decide)
theorem d_X9_lot_81 : decode cX9_lot 81 = .ok (.iload_n 2, 1) := zo_28 (zby_w zwX9_lot_2 17 rfl)
theorem d_X9_lot_82 : decode cX9_lot 82 = .ok (.iaload, 1) := zo_46 (zby_w zwX9_lot_2 18 rfl)
theorem d_X9_lot_83 : decode cX9_lot 83 = .ok (.if_icmp .ge 7, 3) := zo_162 (a := 0) (b := 7) (zby_w zwX9_lot_2 19 rfl) (zby_w zwX9_lot_2 20 rfl) (zby_w zwX9_lot_2 21 rfl) (by decide)
theorem d_X9_lot_86 : decode cX9_lot 86 = .ok (.iconst 1, 1) := zo_4 (zby_w zwX9_lot_2 22 rfl)
theorem d_X9_lot_87 : decode cX9_lot 87 = .ok (.goto 4, 3) := zo_167 (a := 0) (b := 4) (zby_w zwX9_lot_2 23 rfl) (zby_w zwX9_lot_2 24 rfl) (zby_w zwX9_lot_2 25 rfl) (by decide)
theorem d_X9_lot_90 : decode cX9_lot 90 = .ok (.iconst 0, 1) := zo_3 (zby_w zwX9_lot_2 26 rfl)
theorem d_X9_lot_91 : decode cX9_lot 91 = .ok (.iadd, 1) := zo_96 (zby_w zwX9_lot_2 27 rfl)
theorem d_X9_lot_92 : decode cX9_lot 92 = .ok (.istore 4, 2) := zo_54 (a := 4) (zby_w zwX9_lot_2 28 rfl) (zby_w zwX9_lot_2 29 rfl) (by decide)
theorem d_X9_lot_94 : decode cX9_lot 94 = .ok (.iload 5, 2) := zo_21 (a := 5) (zby_w zwX9_lot_2 30 rfl) (zby_w zwX9_lot_2 31 rfl) (by decide)
theorem d_X9_lot_96 : decode cX9_lot 96 = .ok (.aload_n 0, 1) := zo_42 (zby_w zwX9_lot_3 0 rfl)
theorem d_X9_lot_97 : decode cX9_lot 97 = .ok (.iload 6, 2) := zo_21 (a := 6) (zby_w zwX9_lot_3 1 rfl) (zby_w zwX9_lot_3 2 rfl) (by decide)
theorem d_X9_lot_99 : decode cX9_lot 99 = .ok (.invokevirtual 275, 3) := zo_182 (a := 1) (b := 19) (zby_w zwX9_lot_3 3 rfl) (zby_w zwX9_lot_3 4 rfl) (zby_w zwX9_lot_3 5 rfl) (by decide)
theorem d_X9_lot_102 : decode cX9_lot 102 = .ok (.ifCond .eq 23, 3) := zo_153 (a := 0) (b := 23) (zby_w zwX9_lot_3 6 rfl) (zby_w zwX9_lot_3 7 rfl) (zby_w zwX9_lot_3 8 rfl) (by decide)
theorem d_X9_lot_105 : decode cX9_lot 105 = .ok (.aload_n 0, 1) := zo_42 (zby_w zwX9_lot_3 9 rfl)
theorem d_X9_lot_106 : decode cX9_lot 106 = .ok (.getfield 31, 3) := zo_180 (a := 0) (b := 31) (zby_w zwX9_lot_3 10 rfl) (zby_w zwX9_lot_3 11 rfl) (zby_w zwX9_lot_3 12 rfl) (by decide)
theorem d_X9_lot_109 : decode cX9_lot 109 = .ok (.iload 6, 2) := zo_21 (a := 6) (zby_w zwX9_lot_3 13 rfl) (zby_w zwX9_lot_3 14 rfl) (by decide)
theorem d_X9_lot_111 : decode cX9_lot 111 = .ok (.iaload, 1) := zo_46 (zby_w zwX9_lot_3 15 rfl)
theorem d_X9_lot_112 : decode cX9_lot 112 = .ok (.aload_n 0, 1) := zo_42 (zby_w zwX9_lot_3 16 rfl)
theorem d_X9_lot_113 : decode cX9_lot 113 = .ok (.getfield 31, 3) := zo_180 (a := 0) (b := 31) (zby_w zwX9_lot_3 17 rfl) (zby_w zwX9_lot_3 18 rfl) (zby_w zwX9_lot_3 19 rfl) (by decide)
theorem d_X9_lot_116 : decode cX9_lot 116 = .ok (.iload_n 2, 1) := zo_28 (zby_w zwX9_lot_3 20 rfl)
theorem d_X9_lot_117 : decode cX9_lot 117 = .ok (.iaload, 1) := zo_46 (zby_w zwX9_lot_3 21 rfl)
theorem d_X9_lot_118 : decode cX9_lot 118 = .ok (.if_icmp .ne 7, 3) := zo_160 (a := 0) (b := 7) (zby_w zwX9_lot_3 22 rfl) (zby_w zwX9_lot_3 23 rfl) (zby_w zwX9_lot_3 24 rfl) (by decide)
theorem d_X9_lot_121 : decode cX9_lot 121 = .ok (.iconst 1, 1) := zo_4 (zby_w zwX9_lot_3 25 rfl)
theorem d_X9_lot_122 : decode cX9_lot 122 = .ok (.goto 4, 3) := zo_167 (a := 0) (b := 4) (zby_w zwX9_lot_3 26 rfl) (zby_w zwX9_lot_3 27 rfl) (zby_w zwX9_lot_3 28 rfl) (by decide)
theorem d_X9_lot_125 : decode cX9_lot 125 = .ok (.iconst 0, 1) := zo_3 (zby_w zwX9_lot_3 29 rfl)
theorem d_X9_lot_126 : decode cX9_lot 126 = .ok (.iadd, 1) := zo_96 (zby_w zwX9_lot_3 30 rfl)
theorem d_X9_lot_127 : decode cX9_lot 127 = .ok (.istore 5, 2) := zo_54 (a := 5) (zby_w zwX9_lot_3 31 rfl) (zby_w zwX9_lot_3 32 rfl) (by decide)
theorem d_X9_lot_129 : decode cX9_lot 129 = .ok (.iinc 6 1, 3) := by decide +kernel
theorem d_X9_lot_132 : decode cX9_lot 132 = .ok (.goto (-80), 3) := zo_167 (a := 255) (b := 176) (zby_w zwX9_lot_4 4 rfl) (zby_w zwX9_lot_4 5 rfl) (zby_w zwX9_lot_4 6 rfl) (by decide)
theorem d_X9_lot_135 : decode cX9_lot 135 = .ok (.iload_n 1, 1) := zo_27 (zby_w zwX9_lot_4 7 rfl)
theorem d_X9_lot_136 : decode cX9_lot 136 = .ok (.iload 4, 2) := zo_21 (a := 4) (zby_w zwX9_lot_4 8 rfl) (zby_w zwX9_lot_4 9 rfl) (by decide)
theorem d_X9_lot_138 : decode cX9_lot 138 = .ok (.isub, 1) := zo_100 (zby_w zwX9_lot_4 10 rfl)
theorem d_X9_lot_139 : decode cX9_lot 139 = .ok (.istore 6, 2) := zo_54 (a := 6) (zby_w zwX9_lot_4 11 rfl) (zby_w zwX9_lot_4 12 rfl) (by decide)
theorem d_X9_lot_141 : decode cX9_lot 141 = .ok (.iload 6, 2) := zo_21 (a := 6) (zby_w zwX9_lot_4 13 rfl) (zby_w zwX9_lot_4 14 rfl) (by decide)
theorem d_X9_lot_143 : decode cX9_lot 143 = .ok (.ifCond .ge 7, 3) := zo_156 (a := 0) (b := 7) (zby_w zwX9_lot_4 15 rfl) (zby_w zwX9_lot_4 16 rfl) (zby_w zwX9_lot_4 17 rfl) (by decide)
theorem d_X9_lot_146 : decode cX9_lot 146 = .ok (.lconst 0, 1) := zo_9 (zby_w zwX9_lot_4 18 rfl)
theorem d_X9_lot_147 : decode cX9_lot 147 = .ok (.goto 19, 3) := zo_167 (a := 0) (b := 19) (zby_w zwX9_lot_4 19 rfl) (zby_w zwX9_lot_4 20 rfl) (zby_w zwX9_lot_4 21 rfl) (by decide)
theorem d_X9_lot_150 : decode cX9_lot 150 = .ok (.iload 6, 2) := zo_21 (a := 6) (zby_w zwX9_lot_4 22 rfl) (zby_w zwX9_lot_4 23 rfl) (by decide)
theorem d_X9_lot_152 : decode cX9_lot 152 = .ok (.iload 5, 2) := zo_21 (a := 5) (zby_w zwX9_lot_4 24 rfl) (zby_w zwX9_lot_4 25 rfl) (by decide)
theorem d_X9_lot_154 : decode cX9_lot 154 = .ok (.if_icmp .le 9, 3) := zo_164 (a := 0) (b := 9) (zby_w zwX9_lot_4 26 rfl) (zby_w zwX9_lot_4 27 rfl) (zby_w zwX9_lot_4 28 rfl) (by decide)
theorem d_X9_lot_157 : decode cX9_lot 157 = .ok (.iload 5, 2) := zo_21 (a := 5) (zby_w zwX9_lot_4 29 rfl) (zby_w zwX9_lot_4 30 rfl) (by decide)
theorem d_X9_lot_159 : decode cX9_lot 159 = .ok (.i2l, 1) := zo_133 (zby_w zwX9_lot_4 31 rfl)
theorem d_X9_lot_160 : decode cX9_lot 160 = .ok (.goto 6, 3) := zo_167 (a := 0) (b := 6) (zby_w zwX9_lot_5 0 rfl) (zby_w zwX9_lot_5 1 rfl) (zby_w zwX9_lot_5 2 rfl) (by decide)
theorem d_X9_lot_163 : decode cX9_lot 163 = .ok (.iload 6, 2) := zo_21 (a := 6) (zby_w zwX9_lot_5 3 rfl) (zby_w zwX9_lot_5 4 rfl) (by decide)
theorem d_X9_lot_165 : decode cX9_lot 165 = .ok (.i2l, 1) := zo_133 (zby_w zwX9_lot_5 5 rfl)
theorem d_X9_lot_166 : decode cX9_lot 166 = .ok (.iload 5, 2) := zo_21 (a := 5) (zby_w zwX9_lot_5 6 rfl) (zby_w zwX9_lot_5 7 rfl) (by decide)
theorem d_X9_lot_168 : decode cX9_lot 168 = .ok (.i2l, 1) := zo_133 (zby_w zwX9_lot_5 8 rfl)
theorem d_X9_lot_169 : decode cX9_lot 169 = .ok (.iload_n 3, 1) := zo_29 (zby_w zwX9_lot_5 9 rfl)
theorem d_X9_lot_170 : decode cX9_lot 170 = .ok (.invokestatic 282, 3) := zo_184 (a := 1) (b := 26) (zby_w zwX9_lot_5 10 rfl) (zby_w zwX9_lot_5 11 rfl) (zby_w zwX9_lot_5 12 rfl) (by decide)
theorem d_X9_lot_173 : decode cX9_lot 173 = .ok (.lreturn, 1) := zo_173 (zby_w zwX9_lot_5 13 rfl)
theorem d_X9_lowest_0 : decode cX9_lowest 0 = .ok (.lload_n 2, 1) := zo_32 (zby_w zwX9_lowest_0 0 rfl)
theorem d_X9_lowest_1 : decode cX9_lowest 1 = .ok (.lstore 5, 2) := zo_55 (a := 5) (zby_w zwX9_lowest_0 1 rfl) (zby_w zwX9_lowest_0 2 rfl) (by decide)
theorem d_X9_lowest_3 : decode cX9_lowest 3 = .ok (.lload_n 0, 1) := zo_30 (zby_w zwX9_lowest_0 3 rfl)
theorem d_X9_lowest_4 : decode cX9_lowest 4 = .ok (.lstore 7, 2) := zo_55 (a := 7) (zby_w zwX9_lowest_0 4 rfl) (zby_w zwX9_lowest_0 5 rfl) (by decide)
theorem d_X9_lowest_6 : decode cX9_lowest 6 = .ok (.lload 7, 2) := zo_22 (a := 7) (zby_w zwX9_lowest_0 6 rfl) (zby_w zwX9_lowest_0 7 rfl) (by decide)
theorem d_X9_lowest_8 : decode cX9_lowest 8 = .ok (.lconst 0, 1) := zo_9 (zby_w zwX9_lowest_0 8 rfl)
theorem d_X9_lowest_9 : decode cX9_lowest 9 = .ok (.lcmp, 1) := zo_148 (zby_w zwX9_lowest_0 9 rfl)
theorem d_X9_lowest_10 : decode cX9_lowest 10 = .ok (.ifCond .eq 21, 3) := zo_153 (a := 0) (b := 21) (zby_w zwX9_lowest_0 10 rfl) (zby_w zwX9_lowest_0 11 rfl) (zby_w zwX9_lowest_0 12 rfl) (by decide)
theorem d_X9_lowest_13 : decode cX9_lowest 13 = .ok (.lload 5, 2) := zo_22 (a := 5) (zby_w zwX9_lowest_0 13 rfl) (zby_w zwX9_lowest_0 14 rfl) (by decide)
theorem d_X9_lowest_15 : decode cX9_lowest 15 = .ok (.lload 7, 2) := zo_22 (a := 7) (zby_w zwX9_lowest_0 15 rfl) (zby_w zwX9_lowest_0 16 rfl) (by decide)
theorem d_X9_lowest_17 : decode cX9_lowest 17 = .ok (.lrem, 1) := zo_113 (zby_w zwX9_lowest_0 17 rfl)
theorem d_X9_lowest_18 : decode cX9_lowest 18 = .ok (.lstore 9, 2) := zo_55 (a := 9) (zby_w zwX9_lowest_0 18 rfl) (zby_w zwX9_lowest_0 19 rfl) (by decide)
theorem d_X9_lowest_20 : decode cX9_lowest 20 = .ok (.lload 7, 2) := zo_22 (a := 7) (zby_w zwX9_lowest_0 20 rfl) (zby_w zwX9_lowest_0 21 rfl) (by decide)
theorem d_X9_lowest_22 : decode cX9_lowest 22 = .ok (.lstore 5, 2) := zo_55 (a := 5) (zby_w zwX9_lowest_0 22 rfl) (zby_w zwX9_lowest_0 23 rfl) (by decide)
theorem d_X9_lowest_24 : decode cX9_lowest 24 = .ok (.lload 9, 2) := zo_22 (a := 9) (zby_w zwX9_lowest_0 24 rfl) (zby_w zwX9_lowest_0 25 rfl) (by decide)
theorem d_X9_lowest_26 : decode cX9_lowest 26 = .ok (.lstore 7, 2) := zo_55 (a := 7) (zby_w zwX9_lowest_0 26 rfl) (zby_w zwX9_lowest_0 27 rfl) (by decide)
theorem d_X9_lowest_28 : decode cX9_lowest 28 = .ok (.goto (-22), 3) := zo_167 (a := 255) (b := 234) (zby_w zwX9_lowest_0 28 rfl) (zby_w zwX9_lowest_0 29 rfl) (zby_w zwX9_lowest_0 30 rfl) (by decide)
theorem d_X9_lowest_31 : decode cX9_lowest 31 = .ok (.iload 4, 2) := zo_21 (a := 4) (zby_w zwX9_lowest_0 31 rfl) (zby_w zwX9_lowest_0 32 rfl) (by decide)
theorem d_X9_lowest_33 : decode cX9_lowest 33 = .ok (.ifCond .ne 10, 3) := zo_154 (a := 0) (b := 10) (zby_w zwX9_lowest_1 1 rfl) (zby_w zwX9_lowest_1 2 rfl) (zby_w zwX9_lowest_1 3 rfl) (by decide)
theorem d_X9_lowest_36 : decode cX9_lowest 36 = .ok (.lload_n 0, 1) := zo_30 (zby_w zwX9_lowest_1 4 rfl)
theorem d_X9_lowest_37 : decode cX9_lowest 37 = .ok (.lload 5, 2) := zo_22 (a := 5) (zby_w zwX9_lowest_1 5 rfl) (zby_w zwX9_lowest_1 6 rfl) (by decide)
theorem d_X9_lowest_39 : decode cX9_lowest 39 = .ok (.ldiv, 1) := zo_109 (zby_w zwX9_lowest_1 7 rfl)
theorem d_X9_lowest_40 : decode cX9_lowest 40 = .ok (.goto 7, 3) := zo_167 (a := 0) (b := 7) (zby_w zwX9_lowest_1 8 rfl) (zby_w zwX9_lowest_1 9 rfl) (zby_w zwX9_lowest_1 10 rfl) (by decide)
theorem d_X9_lowest_43 : decode cX9_lowest 43 = .ok (.lload_n 2, 1) := zo_32 (zby_w zwX9_lowest_1 11 rfl)
theorem d_X9_lowest_44 : decode cX9_lowest 44 = .ok (.lload 5, 2) := zo_22 (a := 5) (zby_w zwX9_lowest_1 12 rfl) (zby_w zwX9_lowest_1 13 rfl) (by decide)
theorem d_X9_lowest_46 : decode cX9_lowest 46 = .ok (.ldiv, 1) := zo_109 (zby_w zwX9_lowest_1 14 rfl)
theorem d_X9_lowest_47 : decode cX9_lowest 47 = .ok (.lreturn, 1) := zo_173 (zby_w zwX9_lowest_1 15 rfl)
theorem d_X9_mean_0 : decode cX9_mean 0 = .ok (.aload_n 0, 1) := zo_42 (zby_w zwX9_mean_0 0 rfl)
theorem d_X9_mean_1 : decode cX9_mean 1 = .ok (.iload_n 1, 1) := zo_27 (zby_w zwX9_mean_0 1 rfl)
theorem d_X9_mean_2 : decode cX9_mean 2 = .ok (.invokevirtual 112, 3) := zo_182 (a := 0) (b := 112) (zby_w zwX9_mean_0 2 rfl) (zby_w zwX9_mean_0 3 rfl) (zby_w zwX9_mean_0 4 rfl) (by decide)
theorem d_X9_mean_5 : decode cX9_mean 5 = .ok (.ifCond .ne 5, 3) := zo_154 (a := 0) (b := 5) (zby_w zwX9_mean_0 5 rfl) (zby_w zwX9_mean_0 6 rfl) (zby_w zwX9_mean_0 7 rfl) (by decide)
theorem d_X9_mean_8 : decode cX9_mean 8 = .ok (.iconst (-1), 1) := zo_2 (zby_w zwX9_mean_0 8 rfl)
theorem d_X9_mean_9 : decode cX9_mean 9 = .ok (.ireturn, 1) := zo_172 (zby_w zwX9_mean_0 9 rfl)
theorem d_X9_mean_10 : decode cX9_mean 10 = .ok (.iload_n 2, 1) := zo_28 (zby_w zwX9_mean_0 10 rfl)
theorem d_X9_mean_11 : decode cX9_mean 11 = .ok (.invokestatic 216, 3) := zo_184 (a := 0) (b := 216) (zby_w zwX9_mean_0 11 rfl) (zby_w zwX9_mean_0 12 rfl) (zby_w zwX9_mean_0 13 rfl) (by decide)
theorem d_X9_mean_14 : decode cX9_mean 14 = .ok (.ifCond .eq 20, 3) := zo_153 (a := 0) (b := 20) (zby_w zwX9_mean_0 14 rfl) (zby_w zwX9_mean_0 15 rfl) (zby_w zwX9_mean_0 16 rfl) (by decide)
theorem d_X9_mean_17 : decode cX9_mean 17 = .ok (.iload_n 3, 1) := zo_29 (zby_w zwX9_mean_0 17 rfl)
theorem d_X9_mean_18 : decode cX9_mean 18 = .ok (.invokestatic 219, 3) := zo_184 (a := 0) (b := 219) (zby_w zwX9_mean_0 18 rfl) (zby_w zwX9_mean_0 19 rfl) (zby_w zwX9_mean_0 20 rfl) (by decide)
theorem d_X9_mean_21 : decode cX9_mean 21 = .ok (.ifCond .eq 13, 3) := zo_153 (a := 0) (b := 13) (zby_w zwX9_mean_0 21 rfl) (zby_w zwX9_mean_0 22 rfl) (zby_w zwX9_mean_0 23 rfl) (by decide)
theorem d_X9_mean_24 : decode cX9_mean 24 = .ok (.aload_n 0, 1) := zo_42 (zby_w zwX9_mean_0 24 rfl)
theorem d_X9_mean_25 : decode cX9_mean 25 = .ok (.iload_n 1, 1) := zo_27 (zby_w zwX9_mean_0 25 rfl)
theorem d_X9_mean_26 : decode cX9_mean 26 = .ok (.iload_n 2, 1) := zo_28 (zby_w zwX9_mean_0 26 rfl)
theorem d_X9_mean_27 : decode cX9_mean 27 = .ok (.iload_n 3, 1) := zo_29 (zby_w zwX9_mean_0 27 rfl)
theorem d_X9_mean_28 : decode cX9_mean 28 = .ok (.invokevirtual 212, 3) := zo_182 (a := 0) (b := 212) (zby_w zwX9_mean_0 28 rfl) (zby_w zwX9_mean_0 29 rfl) (zby_w zwX9_mean_0 30 rfl) (by decide)
theorem d_X9_mean_31 : decode cX9_mean 31 = .ok (.goto 5, 3) := zo_167 (a := 0) (b := 5) (zby_w zwX9_mean_0 31 rfl) (zby_w zwX9_mean_0 32 rfl) (zby_w zwX9_mean_0 33 rfl) (by decide)
theorem d_X9_mean_34 : decode cX9_mean 34 = .ok (.bipush (-2), 2) := zo_16 (a := 254) (zby_w zwX9_mean_1 2 rfl) (zby_w zwX9_mean_1 3 rfl) (by decide)
theorem d_X9_mean_36 : decode cX9_mean 36 = .ok (.ireturn, 1) := zo_172 (zby_w zwX9_mean_1 4 rfl)
theorem d_X9_meanOf_0 : decode cX9_meanOf 0 = .ok (.iload_n 2, 1) := zo_28 (zby_w zwX9_meanOf_0 0 rfl)
theorem d_X9_meanOf_1 : decode cX9_meanOf 1 = .ok (.ifCond .ne 14, 3) := zo_154 (a := 0) (b := 14) (zby_w zwX9_meanOf_0 1 rfl) (zby_w zwX9_meanOf_0 2 rfl) (zby_w zwX9_meanOf_0 3 rfl) (by decide)
theorem d_X9_meanOf_4 : decode cX9_meanOf 4 = .ok (.bipush 10, 2) := zo_16 (a := 10) (zby_w zwX9_meanOf_0 4 rfl) (zby_w zwX9_meanOf_0 5 rfl) (by decide)
theorem d_X9_meanOf_6 : decode cX9_meanOf 6 = .ok (.aload_n 0, 1) := zo_42 (zby_w zwX9_meanOf_0 6 rfl)
theorem d_X9_meanOf_7 : decode cX9_meanOf 7 = .ok (.iload_n 1, 1) := zo_27 (zby_w zwX9_meanOf_0 7 rfl)
theorem d_X9_meanOf_8 : decode cX9_meanOf 8 = .ok (.invokevirtual 206, 3) := zo_182 (a := 0) (b := 206) (zby_w zwX9_meanOf_0 8 rfl) (zby_w zwX9_meanOf_0 9 rfl) (zby_w zwX9_meanOf_0 10 rfl) (by decide)
theorem d_X9_meanOf_11 : decode cX9_meanOf 11 = .ok (.imul, 1) := zo_104 (zby_w zwX9_meanOf_0 11 rfl)
theorem d_X9_meanOf_12 : decode cX9_meanOf 12 = .ok (.goto 41, 3) := zo_167 (a := 0) (b := 41) (zby_w zwX9_meanOf_0 12 rfl) (zby_w zwX9_meanOf_0 13 rfl) (zby_w zwX9_meanOf_0 14 rfl) (by decide)
theorem d_X9_meanOf_15 : decode cX9_meanOf 15 = .ok (.iload_n 2, 1) := zo_28 (zby_w zwX9_meanOf_0 15 rfl)
theorem d_X9_meanOf_16 : decode cX9_meanOf 16 = .ok (.iconst 1, 1) := zo_4 (zby_w zwX9_meanOf_0 16 rfl)
theorem d_X9_meanOf_17 : decode cX9_meanOf 17 = .ok (.if_icmp .ne 17, 3) := zo_160 (a := 0) (b := 17) (zby_w zwX9_meanOf_0 17 rfl) (zby_w zwX9_meanOf_0 18 rfl) (zby_w zwX9_meanOf_0 19 rfl) (by decide)
theorem d_X9_meanOf_20 : decode cX9_meanOf 20 = .ok (.aload_n 0, 1) := zo_42 (zby_w zwX9_meanOf_0 20 rfl)
theorem d_X9_meanOf_21 : decode cX9_meanOf 21 = .ok (.iload_n 3, 1) := zo_29 (zby_w zwX9_meanOf_0 21 rfl)
theorem d_X9_meanOf_22 : decode cX9_meanOf 22 = .ok (.invokevirtual 163, 3) := zo_182 (a := 0) (b := 163) (zby_w zwX9_meanOf_0 22 rfl) (zby_w zwX9_meanOf_0 23 rfl) (zby_w zwX9_meanOf_0 24 rfl) (by decide)
theorem d_X9_meanOf_25 : decode cX9_meanOf 25 = .ok (.aload_n 0, 1) := zo_42 (zby_w zwX9_meanOf_0 25 rfl)
theorem d_X9_meanOf_26 : decode cX9_meanOf 26 = .ok (.iload_n 1, 1) := zo_27 (zby_w zwX9_meanOf_0 26 rfl)
theorem d_X9_meanOf_27 : decode cX9_meanOf 27 = .ok (.invokevirtual 209, 3) := zo_182 (a := 0) (b := 209) (zby_w zwX9_meanOf_0 27 rfl) (zby_w zwX9_meanOf_0 28 rfl) (zby_w zwX9_meanOf_0 29 rfl) (by decide)
theorem d_X9_meanOf_30 : decode cX9_meanOf 30 = .ok (.imul, 1) := zo_104 (zby_w zwX9_meanOf_0 30 rfl)
theorem d_X9_meanOf_31 : decode cX9_meanOf 31 = .ok (.goto 22, 3) := zo_167 (a := 0) (b := 22) (zby_w zwX9_meanOf_0 31 rfl) (zby_w zwX9_meanOf_0 32 rfl) (zby_w zwX9_meanOf_0 33 rfl) (by decide)
theorem d_X9_meanOf_34 : decode cX9_meanOf 34 = .ok (.bipush 10, 2) := zo_16 (a := 10) (zby_w zwX9_meanOf_1 2 rfl) (zby_w zwX9_meanOf_1 3 rfl) (by decide)
theorem d_X9_meanOf_36 : decode cX9_meanOf 36 = .ok (.aload_n 0, 1) := zo_42 (zby_w zwX9_meanOf_1 4 rfl)
theorem d_X9_meanOf_37 : decode cX9_meanOf 37 = .ok (.getfield 69, 3) := zo_180 (a := 0) (b := 69) (zby_w zwX9_meanOf_1 5 rfl) (zby_w zwX9_meanOf_1 6 rfl) (zby_w zwX9_meanOf_1 7 rfl) (by decide)
theorem d_X9_meanOf_40 : decode cX9_meanOf 40 = .ok (.imul, 1) := zo_104 (zby_w zwX9_meanOf_1 8 rfl)
theorem d_X9_meanOf_41 : decode cX9_meanOf 41 = .ok (.aload_n 0, 1) := zo_42 (zby_w zwX9_meanOf_1 9 rfl)
theorem d_X9_meanOf_42 : decode cX9_meanOf 42 = .ok (.getfield 72, 3) := zo_180 (a := 0) (b := 72) (zby_w zwX9_meanOf_1 10 rfl) (zby_w zwX9_meanOf_1 11 rfl) (zby_w zwX9_meanOf_1 12 rfl) (by decide)
theorem d_X9_meanOf_45 : decode cX9_meanOf 45 = .ok (.imul, 1) := zo_104 (zby_w zwX9_meanOf_1 13 rfl)
theorem d_X9_meanOf_46 : decode cX9_meanOf 46 = .ok (.aload_n 0, 1) := zo_42 (zby_w zwX9_meanOf_1 14 rfl)
theorem d_X9_meanOf_47 : decode cX9_meanOf 47 = .ok (.getfield 7, 3) := zo_180 (a := 0) (b := 7) (zby_w zwX9_meanOf_1 15 rfl) (zby_w zwX9_meanOf_1 16 rfl) (zby_w zwX9_meanOf_1 17 rfl) (by decide)
theorem d_X9_meanOf_50 : decode cX9_meanOf 50 = .ok (.iload_n 1, 1) := zo_27 (zby_w zwX9_meanOf_1 18 rfl)
theorem d_X9_meanOf_51 : decode cX9_meanOf 51 = .ok (.iaload, 1) := zo_46 (zby_w zwX9_meanOf_1 19 rfl)
theorem d_X9_meanOf_52 : decode cX9_meanOf 52 = .ok (.imul, 1) := zo_104 (zby_w zwX9_meanOf_1 20 rfl)
theorem d_X9_meanOf_53 : decode cX9_meanOf 53 = .ok (.ireturn, 1) := zo_172 (zby_w zwX9_meanOf_1 21 rfl)
theorem d_X9_noOffers_0 : decode cX9_noOffers 0 = .ok (.aload_n 0, 1) := zo_42 (zby_w zwX9_noOffers_0 0 rfl)
theorem d_X9_noOffers_1 : decode cX9_noOffers 1 = .ok (.getfield 262, 3) := zo_180 (a := 1) (b := 6) (zby_w zwX9_noOffers_0 1 rfl) (zby_w zwX9_noOffers_0 2 rfl) (zby_w zwX9_noOffers_0 3 rfl) (by decide)
theorem d_X9_noOffers_4 : decode cX9_noOffers 4 = .ok (.invokestatic 108, 3) := zo_184 (a := 0) (b := 108) (zby_w zwX9_noOffers_0 4 rfl) (zby_w zwX9_noOffers_0 5 rfl) (zby_w zwX9_noOffers_0 6 rfl) (by decide)
theorem d_X9_noOffers_7 : decode cX9_noOffers 7 = .ok (.istore_n 1, 1) := zo_60 (zby_w zwX9_noOffers_0 7 rfl)
theorem d_X9_noOffers_8 : decode cX9_noOffers 8 = .ok (.aload_n 0, 1) := zo_42 (zby_w zwX9_noOffers_0 8 rfl)
theorem d_X9_noOffers_9 : decode cX9_noOffers 9 = .ok (.iconst 0, 1) := zo_3 (zby_w zwX9_noOffers_0 9 rfl)
theorem d_X9_noOffers_10 : decode cX9_noOffers 10 = .ok (.putfield 262, 3) := zo_181 (a := 1) (b := 6) (zby_w zwX9_noOffers_0 10 rfl) (zby_w zwX9_noOffers_0 11 rfl) (zby_w zwX9_noOffers_0 12 rfl) (by decide)
theorem d_X9_noOffers_13 : decode cX9_noOffers 13 = .ok (.iload_n 1, 1) := zo_27 (zby_w zwX9_noOffers_0 13 rfl)
theorem d_X9_noOffers_14 : decode cX9_noOffers 14 = .ok (.ireturn, 1) := zo_172 (zby_w zwX9_noOffers_0 14 rfl)
theorem d_X9_offer_0 : decode cX9_offer 0 = .ok (.iload_n 1, 1) := zo_27 (zby_w zwX9_offer_0 0 rfl)
theorem d_X9_offer_1 : decode cX9_offer 1 = .ok (.i2l, 1) := zo_133 (zby_w zwX9_offer_0 1 rfl)
theorem d_X9_offer_2 : decode cX9_offer 2 = .ok (.lconst 0, 1) := zo_9 (zby_w zwX9_offer_0 2 rfl)
theorem d_X9_offer_3 : decode cX9_offer 3 = .ok (.ldc2_w 258, 3) := zo_20 (a := 1) (b := 2) (zby_w zwX9_offer_0 3 rfl) (zby_w zwX9_offer_0 4 rfl) (zby_w zwX9_offer_0 5 rfl) (by decide)
theorem d_X9_offer_6 : decode cX9_offer 6 = .ok (.invokestatic 89, 3) := zo_184 (a := 0) (b := 89) (zby_w zwX9_offer_0 6 rfl) (zby_w zwX9_offer_0 7 rfl) (zby_w zwX9_offer_0 8 rfl) (by decide)
theorem d_X9_offer_9 : decode cX9_offer 9 = .ok (.ifCond .eq 27, 3) := zo_153 (a := 0) (b := 27) (zby_w zwX9_offer_0 9 rfl) (zby_w zwX9_offer_0 10 rfl) (zby_w zwX9_offer_0 11 rfl) (by decide)
theorem d_X9_offer_12 : decode cX9_offer 12 = .ok (.iload_n 2, 1) := zo_28 (zby_w zwX9_offer_0 12 rfl)
theorem d_X9_offer_13 : decode cX9_offer 13 = .ok (.i2l, 1) := zo_133 (zby_w zwX9_offer_0 13 rfl)
theorem d_X9_offer_14 : decode cX9_offer 14 = .ok (.lconst 0, 1) := zo_9 (zby_w zwX9_offer_0 14 rfl)
theorem d_X9_offer_15 : decode cX9_offer 15 = .ok (.ldc2_w 100, 3) := zo_20 (a := 0) (b := 100) (zby_w zwX9_offer_0 15 rfl) (zby_w zwX9_offer_0 16 rfl) (zby_w zwX9_offer_0 17 rfl) (by decide)
theorem d_X9_offer_18 : decode cX9_offer 18 = .ok (.invokestatic 89, 3) := zo_184 (a := 0) (b := 89) (zby_w zwX9_offer_0 18 rfl) (zby_w zwX9_offer_0 19 rfl) (zby_w zwX9_offer_0 20 rfl) (by decide)
theorem d_X9_offer_21 : decode cX9_offer 21 = .ok (.ifCond .eq 15, 3) := zo_153 (a := 0) (b := 15) (zby_w zwX9_offer_0 21 rfl) (zby_w zwX9_offer_0 22 rfl) (zby_w zwX9_offer_0 23 rfl) (by decide)
theorem d_X9_offer_24 : decode cX9_offer 24 = .ok (.iload_n 3, 1) := zo_29 (zby_w zwX9_offer_0 24 rfl)
theorem d_X9_offer_25 : decode cX9_offer 25 = .ok (.i2l, 1) := zo_133 (zby_w zwX9_offer_0 25 rfl)
theorem d_X9_offer_26 : decode cX9_offer 26 = .ok (.lconst 0, 1) := zo_9 (zby_w zwX9_offer_0 26 rfl)
theorem d_X9_offer_27 : decode cX9_offer 27 = .ok (.ldc2_w 260, 3) := zo_20 (a := 1) (b := 4) (zby_w zwX9_offer_0 27 rfl) (zby_w zwX9_offer_0 28 rfl) (zby_w zwX9_offer_0 29 rfl) (by decide)
theorem d_X9_offer_30 : decode cX9_offer 30 = .ok (.invokestatic 89, 3) := zo_184 (a := 0) (b := 89) (zby_w zwX9_offer_0 30 rfl) (zby_w zwX9_offer_0 31 rfl) (zby_w zwX9_offer_0 32 rfl) (by decide)
theorem d_X9_offer_33 : decode cX9_offer 33 = .ok (.ifCond .ne 6, 3) := zo_154 (a := 0) (b := 6) (zby_w zwX9_offer_1 1 rfl) (zby_w zwX9_offer_1 2 rfl) (zby_w zwX9_offer_1 3 rfl) (by decide)
theorem d_X9_offer_36 : decode cX9_offer 36 = .ok (.bipush (-2), 2) := zo_16 (a := 254) (zby_w zwX9_offer_1 4 rfl) (zby_w zwX9_offer_1 5 rfl) (by decide)
theorem d_X9_offer_38 : decode cX9_offer 38 = .ok (.ireturn, 1) := zo_172 (zby_w zwX9_offer_1 6 rfl)
theorem d_X9_offer_39 : decode cX9_offer 39 = .ok (.aload_n 0, 1) := zo_42 (zby_w zwX9_offer_1 7 rfl)
theorem d_X9_offer_40 : decode cX9_offer 40 = .ok (.getfield 25, 3) := zo_180 (a := 0) (b := 25) (zby_w zwX9_offer_1 8 rfl) (zby_w zwX9_offer_1 9 rfl) (zby_w zwX9_offer_1 10 rfl) (by decide)
theorem d_X9_offer_43 : decode cX9_offer 43 = .ok (.iload_n 1, 1) := zo_27 (zby_w zwX9_offer_1 11 rfl)
theorem d_X9_offer_44 : decode cX9_offer 44 = .ok (.iload_n 2, 1) := zo_28 (zby_w zwX9_offer_1 12 rfl)
theorem d_X9_offer_45 : decode cX9_offer 45 = .ok (.iastore, 1) := zo_79 (zby_w zwX9_offer_1 13 rfl)
theorem d_X9_offer_46 : decode cX9_offer 46 = .ok (.aload_n 0, 1) := zo_42 (zby_w zwX9_offer_1 14 rfl)
theorem d_X9_offer_47 : decode cX9_offer 47 = .ok (.getfield 28, 3) := zo_180 (a := 0) (b := 28) (zby_w zwX9_offer_1 15 rfl) (zby_w zwX9_offer_1 16 rfl) (zby_w zwX9_offer_1 17 rfl) (by decide)
theorem d_X9_offer_50 : decode cX9_offer 50 = .ok (.iload_n 1, 1) := zo_27 (zby_w zwX9_offer_1 18 rfl)
theorem d_X9_offer_51 : decode cX9_offer 51 = .ok (.iload_n 3, 1) := zo_29 (zby_w zwX9_offer_1 19 rfl)
theorem d_X9_offer_52 : decode cX9_offer 52 = .ok (.iastore, 1) := zo_79 (zby_w zwX9_offer_1 20 rfl)
theorem d_X9_offer_53 : decode cX9_offer 53 = .ok (.aload_n 0, 1) := zo_42 (zby_w zwX9_offer_1 21 rfl)
theorem d_X9_offer_54 : decode cX9_offer 54 = .ok (.dup, 1) := zo_89 (zby_w zwX9_offer_1 22 rfl)
theorem d_X9_offer_55 : decode cX9_offer 55 = .ok (.getfield 262, 3) := zo_180 (a := 1) (b := 6) (zby_w zwX9_offer_1 23 rfl) (zby_w zwX9_offer_1 24 rfl) (zby_w zwX9_offer_1 25 rfl) (by decide)
theorem d_X9_offer_58 : decode cX9_offer 58 = .ok (.iconst 1, 1) := zo_4 (zby_w zwX9_offer_1 26 rfl)
theorem d_X9_offer_59 : decode cX9_offer 59 = .ok (.iload_n 1, 1) := zo_27 (zby_w zwX9_offer_1 27 rfl)
theorem d_X9_offer_60 : decode cX9_offer 60 = .ok (.ishl, 1) := zo_120 (zby_w zwX9_offer_1 28 rfl)
theorem d_X9_offer_61 : decode cX9_offer 61 = .ok (.ior, 1) := zo_128 (zby_w zwX9_offer_1 29 rfl)
theorem d_X9_offer_62 : decode cX9_offer 62 = .ok (.putfield 262, 3) := zo_181 (a := 1) (b := 6) (zby_w zwX9_offer_1 30 rfl) (zby_w zwX9_offer_1 31 rfl) (zby_w zwX9_offer_1 32 rfl) (by decide)
theorem d_X9_offer_65 : decode cX9_offer 65 = .ok (.aload_n 0, 1) := zo_42 (zby_w zwX9_offer_2 1 rfl)
theorem d_X9_offer_66 : decode cX9_offer 66 = .ok (.getfield 262, 3) := zo_180 (a := 1) (b := 6) (zby_w zwX9_offer_2 2 rfl) (zby_w zwX9_offer_2 3 rfl) (zby_w zwX9_offer_2 4 rfl) (by decide)
theorem d_X9_offer_69 : decode cX9_offer 69 = .ok (.invokestatic 108, 3) := zo_184 (a := 0) (b := 108) (zby_w zwX9_offer_2 5 rfl) (zby_w zwX9_offer_2 6 rfl) (zby_w zwX9_offer_2 7 rfl) (by decide)
theorem d_X9_offer_72 : decode cX9_offer 72 = .ok (.ireturn, 1) := zo_172 (zby_w zwX9_offer_2 8 rfl)
theorem d_X9_often_0 : decode cX9_often 0 = .ok (.iload_n 1, 1) := zo_27 (zby_w zwX9_often_0 0 rfl)
theorem d_X9_often_1 : decode cX9_often 1 = .ok (.i2l, 1) := zo_133 (zby_w zwX9_often_0 1 rfl)
theorem d_X9_often_2 : decode cX9_often 2 = .ok (.lconst 1, 1) := zo_10 (zby_w zwX9_often_0 2 rfl)
theorem d_X9_often_3 : decode cX9_often 3 = .ok (.ldc2_w 286, 3) := zo_20 (a := 1) (b := 30) (zby_w zwX9_often_0 3 rfl) (zby_w zwX9_often_0 4 rfl) (zby_w zwX9_often_0 5 rfl) (by decide)
theorem d_X9_often_6 : decode cX9_often 6 = .ok (.invokestatic 89, 3) := zo_184 (a := 0) (b := 89) (zby_w zwX9_often_0 6 rfl) (zby_w zwX9_often_0 7 rfl) (zby_w zwX9_often_0 8 rfl) (by decide)
theorem d_X9_often_9 : decode cX9_often 9 = .ok (.ifCond .eq 50, 3) := zo_153 (a := 0) (b := 50) (zby_w zwX9_often_0 9 rfl) (zby_w zwX9_often_0 10 rfl) (zby_w zwX9_often_0 11 rfl) (by decide)
theorem d_X9_often_12 : decode cX9_often 12 = .ok (.iload_n 2, 1) := zo_28 (zby_w zwX9_often_0 12 rfl)
theorem d_X9_often_13 : decode cX9_often 13 = .ok (.i2l, 1) := zo_133 (zby_w zwX9_often_0 13 rfl)
theorem d_X9_often_14 : decode cX9_often 14 = .ok (.lconst 0, 1) := zo_9 (zby_w zwX9_often_0 14 rfl)
theorem d_X9_often_15 : decode cX9_often 15 = .ok (.iload_n 1, 1) := zo_27 (zby_w zwX9_often_0 15 rfl)
theorem d_X9_often_16 : decode cX9_often 16 = .ok (.i2l, 1) := zo_133 (zby_w zwX9_often_0 16 rfl)
theorem d_X9_often_17 : decode cX9_often 17 = .ok (.invokestatic 89, 3) := zo_184 (a := 0) (b := 89) (zby_w zwX9_often_0 17 rfl) (zby_w zwX9_often_0 18 rfl) (zby_w zwX9_often_0 19 rfl) (by decide)
theorem d_X9_often_20 : decode cX9_often 20 = .ok (.ifCond .eq 39, 3) := zo_153 (a := 0) (b := 39) (zby_w zwX9_often_0 20 rfl) (zby_w zwX9_often_0 21 rfl) (zby_w zwX9_often_0 22 rfl) (by decide)
theorem d_X9_often_23 : decode cX9_often 23 = .ok (.iload_n 3, 1) := zo_29 (zby_w zwX9_often_0 23 rfl)
theorem d_X9_often_24 : decode cX9_often 24 = .ok (.i2l, 1) := zo_133 (zby_w zwX9_often_0 24 rfl)
theorem d_X9_often_25 : decode cX9_often 25 = .ok (.lconst 1, 1) := zo_10 (zby_w zwX9_often_0 25 rfl)
theorem d_X9_often_26 : decode cX9_often 26 = .ok (.ldc2_w 286, 3) := zo_20 (a := 1) (b := 30) (zby_w zwX9_often_0 26 rfl) (zby_w zwX9_often_0 27 rfl) (zby_w zwX9_often_0 28 rfl) (by decide)
theorem d_X9_often_29 : decode cX9_often 29 = .ok (.invokestatic 89, 3) := zo_184 (a := 0) (b := 89) (zby_w zwX9_often_0 29 rfl) (zby_w zwX9_often_0 30 rfl) (zby_w zwX9_often_0 31 rfl) (by decide)
theorem d_X9_often_32 : decode cX9_often 32 = .ok (.ifCond .eq 27, 3) := zo_153 (a := 0) (b := 27) (zby_w zwX9_often_1 0 rfl) (zby_w zwX9_often_1 1 rfl) (zby_w zwX9_often_1 2 rfl) (by decide)
theorem d_X9_often_35 : decode cX9_often 35 = .ok (.iload 4, 2) := zo_21 (a := 4) (zby_w zwX9_often_1 3 rfl) (zby_w zwX9_often_1 4 rfl) (by decide)
theorem d_X9_often_37 : decode cX9_often 37 = .ok (.i2l, 1) := zo_133 (zby_w zwX9_often_1 5 rfl)
theorem d_X9_often_38 : decode cX9_often 38 = .ok (.lconst 0, 1) := zo_9 (zby_w zwX9_often_1 6 rfl)
theorem d_X9_often_39 : decode cX9_often 39 = .ok (.ldc2_w 286, 3) := zo_20 (a := 1) (b := 30) (zby_w zwX9_often_1 7 rfl) (zby_w zwX9_often_1 8 rfl) (zby_w zwX9_often_1 9 rfl) (by decide)
theorem d_X9_often_42 : decode cX9_often 42 = .ok (.invokestatic 89, 3) := zo_184 (a := 0) (b := 89) (zby_w zwX9_often_1 10 rfl) (zby_w zwX9_often_1 11 rfl) (zby_w zwX9_often_1 12 rfl) (by decide)
theorem d_X9_often_45 : decode cX9_often 45 = .ok (.ifCond .eq 14, 3) := zo_153 (a := 0) (b := 14) (zby_w zwX9_often_1 13 rfl) (zby_w zwX9_often_1 14 rfl) (zby_w zwX9_often_1 15 rfl) (by decide)
theorem d_X9_often_48 : decode cX9_often 48 = .ok (.iload 5, 2) := zo_21 (a := 5) (zby_w zwX9_often_1 16 rfl) (zby_w zwX9_often_1 17 rfl) (by decide)
theorem d_X9_often_50 : decode cX9_often 50 = .ok (.i2l, 1) := zo_133 (zby_w zwX9_often_1 18 rfl)
theorem d_X9_often_51 : decode cX9_often 51 = .ok (.lconst 0, 1) := zo_9 (zby_w zwX9_often_1 19 rfl)
theorem d_X9_often_52 : decode cX9_often 52 = .ok (.lconst 1, 1) := zo_10 (zby_w zwX9_often_1 20 rfl)
theorem d_X9_often_53 : decode cX9_often 53 = .ok (.invokestatic 89, 3) := zo_184 (a := 0) (b := 89) (zby_w zwX9_often_1 21 rfl) (zby_w zwX9_often_1 22 rfl) (zby_w zwX9_often_1 23 rfl) (by decide)
theorem d_X9_often_56 : decode cX9_often 56 = .ok (.ifCond .ne 7, 3) := zo_154 (a := 0) (b := 7) (zby_w zwX9_often_1 24 rfl) (zby_w zwX9_often_1 25 rfl) (zby_w zwX9_often_1 26 rfl) (by decide)
theorem d_X9_often_59 : decode cX9_often 59 = .ok (.ldc2_w 280, 3) := zo_20 (a := 1) (b := 24) (zby_w zwX9_often_1 27 rfl) (zby_w zwX9_often_1 28 rfl) (zby_w zwX9_often_1 29 rfl) (by decide)
theorem d_X9_often_62 : decode cX9_often 62 = .ok (.lreturn, 1) := zo_173 (zby_w zwX9_often_1 30 rfl)
theorem d_X9_often_63 : decode cX9_often 63 = .ok (.lconst 0, 1) := zo_9 (zby_w zwX9_often_1 31 rfl)
theorem d_X9_often_64 : decode cX9_often 64 = .ok (.lstore 6, 2) := zo_55 (a := 6) (zby_w zwX9_often_2 0 rfl) (zby_w zwX9_often_2 1 rfl) (by decide)
theorem d_X9_often_66 : decode cX9_often 66 = .ok (.iload 4, 2) := zo_21 (a := 4) (zby_w zwX9_often_2 2 rfl) (zby_w zwX9_often_2 3 rfl) (by decide)
theorem d_X9_often_68 : decode cX9_often 68 = .ok (.istore 8, 2) := zo_54 (a := 8) (zby_w zwX9_often_2 4 rfl) (zby_w zwX9_often_2 5 rfl) (by decide)
theorem d_X9_often_70 : decode cX9_often 70 = .ok (.iload 8, 2) := zo_21 (a := 8) (zby_w zwX9_often_2 6 rfl) (zby_w zwX9_often_2 7 rfl) (by decide)
theorem d_X9_often_72 : decode cX9_often 72 = .ok (.iload_n 3, 1) := zo_29 (zby_w zwX9_often_2 8 rfl)
theorem d_X9_often_73 : decode cX9_often 73 = .ok (.if_icmp .gt 38, 3) := zo_163 (a := 0) (b := 38) (zby_w zwX9_often_2 9 rfl) (zby_w zwX9_often_2 10 rfl) (zby_w zwX9_often_2 11 rfl) (by decide)
theorem d_X9_often_76 : decode cX9_often 76 = .ok (.lload 6, 2) := zo_22 (a := 6) (zby_w zwX9_often_2 12 rfl) (zby_w zwX9_often_2 13 rfl) (by decide)
theorem d_X9_often_78 : decode cX9_often 78 = .ok (.iload_n 3, 1) := zo_29 (zby_w zwX9_often_2 14 rfl)
theorem d_X9_often_79 : decode cX9_often 79 = .ok (.iload 8, 2) := zo_21 (a := 8) (zby_w zwX9_often_2 15 rfl) (zby_w zwX9_often_2 16 rfl) (by decide)
theorem d_X9_often_81 : decode cX9_often 81 = .ok (.invokestatic 288, 3) := zo_184 (a := 1) (b := 32) (zby_w zwX9_often_2 17 rfl) (zby_w zwX9_often_2 18 rfl) (zby_w zwX9_often_2 19 rfl) (by decide)
theorem d_X9_often_84 : decode cX9_often 84 = .ok (.iload_n 2, 1) := zo_28 (zby_w zwX9_often_2 20 rfl)
theorem d_X9_often_85 : decode cX9_often 85 = .ok (.iload 8, 2) := zo_21 (a := 8) (zby_w zwX9_often_2 21 rfl) (zby_w zwX9_often_2 22 rfl) (by decide)
theorem d_X9_often_87 : decode cX9_often 87 = .ok (.invokestatic 292, 3) := zo_184 (a := 1) (b := 36) (zby_w zwX9_often_2 23 rfl) (zby_w zwX9_often_2 24 rfl) (zby_w zwX9_often_2 25 rfl) (by decide)
theorem d_X9_often_90 : decode cX9_often 90 = .ok (.lmul, 1) := zo_105 (zby_w zwX9_often_2 26 rfl)
theorem d_X9_often_91 : decode cX9_often 91 = .ok (.iload_n 1, 1) := zo_27 (zby_w zwX9_often_2 27 rfl)
theorem d_X9_often_92 : decode cX9_often 92 = .ok (.iload_n 2, 1) := zo_28 (zby_w zwX9_often_2 28 rfl)
theorem d_X9_often_93 : decode cX9_often 93 = .ok (.isub, 1) := zo_100 (zby_w zwX9_often_2 29 rfl)
theorem d_X9_often_94 : decode cX9_often 94 = .ok (.iload_n 3, 1) := zo_29 (zby_w zwX9_often_2 30 rfl)
theorem d_X9_often_95 : decode cX9_often 95 = .ok (.iload 8, 2) := zo_21 (a := 8) (zby_w zwX9_often_2 31 rfl) (zby_w zwX9_often_2 32 rfl) (by decide)
theorem d_X9_often_97 : decode cX9_often 97 = .ok (.isub, 1) := zo_100 (zby_w zwX9_often_3 1 rfl)
theorem d_X9_often_98 : decode cX9_often 98 = .ok (.invokestatic 292, 3) := zo_184 (a := 1) (b := 36) (zby_w zwX9_often_3 2 rfl) (zby_w zwX9_often_3 3 rfl) (zby_w zwX9_often_3 4 rfl) (by decide)
theorem d_X9_often_101 : decode cX9_often 101 = .ok (.lmul, 1) := zo_105 (zby_w zwX9_often_3 5 rfl)
theorem d_X9_often_102 : decode cX9_often 102 = .ok (.ladd, 1) := zo_97 (zby_w zwX9_often_3 6 rfl)
theorem d_X9_often_103 : decode cX9_often 103 = .ok (.lstore 6, 2) := zo_55 (a := 6) (zby_w zwX9_often_3 7 rfl) (zby_w zwX9_often_3 8 rfl) (by decide)
theorem d_X9_often_105 : decode cX9_often 105 = .ok (.iinc 8 1, 3) := by decide +kernel
theorem d_X9_often_108 : decode cX9_often 108 = .ok (.goto (-38), 3) := zo_167 (a := 255) (b := 218) (zby_w zwX9_often_3 12 rfl) (zby_w zwX9_often_3 13 rfl) (zby_w zwX9_often_3 14 rfl) (by decide)
theorem d_X9_often_111 : decode cX9_often 111 = .ok (.lload 6, 2) := zo_22 (a := 6) (zby_w zwX9_often_3 15 rfl) (zby_w zwX9_often_3 16 rfl) (by decide)
theorem d_X9_often_113 : decode cX9_often 113 = .ok (.iload_n 1, 1) := zo_27 (zby_w zwX9_often_3 17 rfl)
theorem d_X9_often_114 : decode cX9_often 114 = .ok (.iload_n 3, 1) := zo_29 (zby_w zwX9_often_3 18 rfl)
theorem d_X9_often_115 : decode cX9_often 115 = .ok (.invokestatic 292, 3) := zo_184 (a := 1) (b := 36) (zby_w zwX9_often_3 19 rfl) (zby_w zwX9_often_3 20 rfl) (zby_w zwX9_often_3 21 rfl) (by decide)
theorem d_X9_often_118 : decode cX9_often 118 = .ok (.iload 5, 2) := zo_21 (a := 5) (zby_w zwX9_often_3 22 rfl) (zby_w zwX9_often_3 23 rfl) (by decide)
theorem d_X9_often_120 : decode cX9_often 120 = .ok (.invokestatic 282, 3) := zo_184 (a := 1) (b := 26) (zby_w zwX9_often_3 24 rfl) (zby_w zwX9_often_3 25 rfl) (zby_w zwX9_often_3 26 rfl) (by decide)
theorem d_X9_often_123 : decode cX9_often 123 = .ok (.lreturn, 1) := zo_173 (zby_w zwX9_often_3 27 rfl)
theorem d_X9_ones_0 : decode cX9_ones 0 = .ok (.iconst 0, 1) := zo_3 (zby_w zwX9_ones_0 0 rfl)
theorem d_X9_ones_1 : decode cX9_ones 1 = .ok (.istore_n 1, 1) := zo_60 (zby_w zwX9_ones_0 1 rfl)
theorem d_X9_ones_2 : decode cX9_ones 2 = .ok (.iload_n 0, 1) := zo_26 (zby_w zwX9_ones_0 2 rfl)
theorem d_X9_ones_3 : decode cX9_ones 3 = .ok (.istore_n 2, 1) := zo_61 (zby_w zwX9_ones_0 3 rfl)
theorem d_X9_ones_4 : decode cX9_ones 4 = .ok (.iload_n 2, 1) := zo_28 (zby_w zwX9_ones_0 4 rfl)
theorem d_X9_ones_5 : decode cX9_ones 5 = .ok (.ifCond .eq 15, 3) := zo_153 (a := 0) (b := 15) (zby_w zwX9_ones_0 5 rfl) (zby_w zwX9_ones_0 6 rfl) (zby_w zwX9_ones_0 7 rfl) (by decide)
theorem d_X9_ones_8 : decode cX9_ones 8 = .ok (.iinc 1 1, 3) := by decide +kernel
theorem d_X9_ones_11 : decode cX9_ones 11 = .ok (.iload_n 2, 1) := zo_28 (zby_w zwX9_ones_0 11 rfl)
theorem d_X9_ones_12 : decode cX9_ones 12 = .ok (.iload_n 2, 1) := zo_28 (zby_w zwX9_ones_0 12 rfl)
theorem d_X9_ones_13 : decode cX9_ones 13 = .ok (.iconst 1, 1) := zo_4 (zby_w zwX9_ones_0 13 rfl)
theorem d_X9_ones_14 : decode cX9_ones 14 = .ok (.isub, 1) := zo_100 (zby_w zwX9_ones_0 14 rfl)
theorem d_X9_ones_15 : decode cX9_ones 15 = .ok (.iand, 1) := zo_126 (zby_w zwX9_ones_0 15 rfl)
theorem d_X9_ones_16 : decode cX9_ones 16 = .ok (.istore_n 2, 1) := zo_61 (zby_w zwX9_ones_0 16 rfl)
theorem d_X9_ones_17 : decode cX9_ones 17 = .ok (.goto (-13), 3) := zo_167 (a := 255) (b := 243) (zby_w zwX9_ones_0 17 rfl) (zby_w zwX9_ones_0 18 rfl) (zby_w zwX9_ones_0 19 rfl) (by decide)
theorem d_X9_ones_20 : decode cX9_ones 20 = .ok (.iload_n 1, 1) := zo_27 (zby_w zwX9_ones_0 20 rfl)
theorem d_X9_ones_21 : decode cX9_ones 21 = .ok (.ireturn, 1) := zo_172 (zby_w zwX9_ones_0 21 rfl)
theorem d_X9_order_0 : decode cX9_order 0 = .ok (.aload_n 0, 1) := zo_42 (zby_w zwX9_order_0 0 rfl)
theorem d_X9_order_1 : decode cX9_order 1 = .ok (.aload_n 0, 1) := zo_42 (zby_w zwX9_order_0 1 rfl)
theorem d_X9_order_2 : decode cX9_order 2 = .ok (.iload_n 1, 1) := zo_27 (zby_w zwX9_order_0 2 rfl)
theorem d_X9_order_3 : decode cX9_order 3 = .ok (.invokevirtual 112, 3) := zo_182 (a := 0) (b := 112) (zby_w zwX9_order_0 3 rfl) (zby_w zwX9_order_0 4 rfl) (zby_w zwX9_order_0 5 rfl) (by decide)
theorem d_X9_order_6 : decode cX9_order 6 = .ok (.ifCond .ne 7, 3) := zo_154 (a := 0) (b := 7) (zby_w zwX9_order_0 6 rfl) (zby_w zwX9_order_0 7 rfl) (zby_w zwX9_order_0 8 rfl) (by decide)
theorem d_X9_order_9 : decode cX9_order 9 = .ok (.iconst 1, 1) := zo_4 (zby_w zwX9_order_0 9 rfl)
theorem d_X9_order_10 : decode cX9_order 10 = .ok (.goto 18, 3) := zo_167 (a := 0) (b := 18) (zby_w zwX9_order_0 10 rfl) (zby_w zwX9_order_0 11 rfl) (zby_w zwX9_order_0 12 rfl) (by decide)
theorem d_X9_order_13 : decode cX9_order 13 = .ok (.aload_n 0, 1) := zo_42 (zby_w zwX9_order_0 13 rfl)
theorem d_X9_order_14 : decode cX9_order 14 = .ok (.getfield 19, 3) := zo_180 (a := 0) (b := 19) (zby_w zwX9_order_0 14 rfl) (zby_w zwX9_order_0 15 rfl) (zby_w zwX9_order_0 16 rfl) (by decide)
theorem d_X9_order_17 : decode cX9_order 17 = .ok (.iload_n 1, 1) := zo_27 (zby_w zwX9_order_0 17 rfl)
theorem d_X9_order_18 : decode cX9_order 18 = .ok (.iaload, 1) := zo_46 (zby_w zwX9_order_0 18 rfl)
theorem d_X9_order_19 : decode cX9_order 19 = .ok (.ifCond .eq 7, 3) := zo_153 (a := 0) (b := 7) (zby_w zwX9_order_0 19 rfl) (zby_w zwX9_order_0 20 rfl) (zby_w zwX9_order_0 21 rfl) (by decide)
theorem d_X9_order_22 : decode cX9_order 22 = .ok (.iconst 2, 1) := zo_5 (zby_w zwX9_order_0 22 rfl)
theorem d_X9_order_23 : decode cX9_order 23 = .ok (.goto 5, 3) := zo_167 (a := 0) (b := 5) (zby_w zwX9_order_0 23 rfl) (zby_w zwX9_order_0 24 rfl) (zby_w zwX9_order_0 25 rfl) (by decide)
theorem d_X9_order_26 : decode cX9_order 26 = .ok (.bipush (-6), 2) := zo_16 (a := 250) (zby_w zwX9_order_0 26 rfl) (zby_w zwX9_order_0 27 rfl) (by decide)
theorem d_X9_order_28 : decode cX9_order 28 = .ok (.putfield 169, 3) := zo_181 (a := 0) (b := 169) (zby_w zwX9_order_0 28 rfl) (zby_w zwX9_order_0 29 rfl) (zby_w zwX9_order_0 30 rfl) (by decide)
theorem d_X9_order_31 : decode cX9_order 31 = .ok (.aload_n 0, 1) := zo_42 (zby_w zwX9_order_0 31 rfl)
theorem d_X9_order_32 : decode cX9_order 32 = .ok (.getfield 169, 3) := zo_180 (a := 0) (b := 169) (zby_w zwX9_order_1 0 rfl) (zby_w zwX9_order_1 1 rfl) (zby_w zwX9_order_1 2 rfl) (by decide)
theorem d_X9_order_35 : decode cX9_order 35 = .ok (.ifCond .le 14, 3) := zo_158 (a := 0) (b := 14) (zby_w zwX9_order_1 3 rfl) (zby_w zwX9_order_1 4 rfl) (zby_w zwX9_order_1 5 rfl) (by decide)
theorem d_X9_order_38 : decode cX9_order 38 = .ok (.aload_n 0, 1) := zo_42 (zby_w zwX9_order_1 6 rfl)
theorem d_X9_order_39 : decode cX9_order 39 = .ok (.aload_n 0, 1) := zo_42 (zby_w zwX9_order_1 7 rfl)
theorem d_X9_order_40 : decode cX9_order 40 = .ok (.getfield 172, 3) := zo_180 (a := 0) (b := 172) (zby_w zwX9_order_1 8 rfl) (zby_w zwX9_order_1 9 rfl) (zby_w zwX9_order_1 10 rfl) (by decide)
theorem d_X9_order_43 : decode cX9_order 43 = .ok (.putfield 175, 3) := zo_181 (a := 0) (b := 175) (zby_w zwX9_order_1 11 rfl) (zby_w zwX9_order_1 12 rfl) (zby_w zwX9_order_1 13 rfl) (by decide)
theorem d_X9_order_46 : decode cX9_order 46 = .ok (.goto 37, 3) := zo_167 (a := 0) (b := 37) (zby_w zwX9_order_1 14 rfl) (zby_w zwX9_order_1 15 rfl) (zby_w zwX9_order_1 16 rfl) (by decide)
theorem d_X9_order_49 : decode cX9_order 49 = .ok (.iload_n 2, 1) := zo_28 (zby_w zwX9_order_1 17 rfl)
theorem d_X9_order_50 : decode cX9_order 50 = .ok (.bipush 84, 2) := zo_16 (a := 84) (zby_w zwX9_order_1 18 rfl) (zby_w zwX9_order_1 19 rfl) (by decide)
theorem d_X9_order_52 : decode cX9_order 52 = .ok (.if_icmp .ne 11, 3) := zo_160 (a := 0) (b := 11) (zby_w zwX9_order_1 20 rfl) (zby_w zwX9_order_1 21 rfl) (zby_w zwX9_order_1 22 rfl) (by decide)
theorem d_X9_order_55 : decode cX9_order 55 = .ok (.aload_n 0, 1) := zo_42 (zby_w zwX9_order_1 23 rfl)
theorem d_X9_order_56 : decode cX9_order 56 = .ok (.iload_n 1, 1) := zo_27 (zby_w zwX9_order_1 24 rfl)
theorem d_X9_order_57 : decode cX9_order 57 = .ok (.invokevirtual 178, 3) := zo_182 (a := 0) (b := 178) (zby_w zwX9_order_1 25 rfl) (zby_w zwX9_order_1 26 rfl) (zby_w zwX9_order_1 27 rfl) (by decide)
theorem d_X9_order_60 : decode cX9_order 60 = .ok (.goto 23, 3) := zo_167 (a := 0) (b := 23) (zby_w zwX9_order_1 28 rfl) (zby_w zwX9_order_1 29 rfl) (zby_w zwX9_order_1 30 rfl) (by decide)
theorem d_X9_order_63 : decode cX9_order 63 = .ok (.iload_n 2, 1) := zo_28 (zby_w zwX9_order_1 31 rfl)
theorem d_X9_order_64 : decode cX9_order 64 = .ok (.bipush 87, 2) := zo_16 (a := 87) (zby_w zwX9_order_2 0 rfl) (zby_w zwX9_order_2 1 rfl) (by decide)
theorem d_X9_order_66 : decode cX9_order 66 = .ok (.if_icmp .ne 12, 3) := zo_160 (a := 0) (b := 12) (zby_w zwX9_order_2 2 rfl) (zby_w zwX9_order_2 3 rfl) (zby_w zwX9_order_2 4 rfl) (by decide)
theorem d_X9_order_69 : decode cX9_order 69 = .ok (.aload_n 0, 1) := zo_42 (zby_w zwX9_order_2 5 rfl)
theorem d_X9_order_70 : decode cX9_order 70 = .ok (.iload_n 1, 1) := zo_27 (zby_w zwX9_order_2 6 rfl)
theorem d_X9_order_71 : decode cX9_order 71 = .ok (.iload_n 3, 1) := zo_29 (zby_w zwX9_order_2 7 rfl)
theorem d_X9_order_72 : decode cX9_order 72 = .ok (.invokevirtual 182, 3) := zo_182 (a := 0) (b := 182) (zby_w zwX9_order_2 8 rfl) (zby_w zwX9_order_2 9 rfl) (zby_w zwX9_order_2 10 rfl) (by decide)
theorem d_X9_order_75 : decode cX9_order 75 = .ok (.goto 8, 3) := zo_167 (a := 0) (b := 8) (zby_w zwX9_order_2 11 rfl) (zby_w zwX9_order_2 12 rfl) (zby_w zwX9_order_2 13 rfl) (by decide)
theorem d_X9_order_78 : decode cX9_order 78 = .ok (.aload_n 0, 1) := zo_42 (zby_w zwX9_order_2 14 rfl)
theorem d_X9_order_79 : decode cX9_order 79 = .ok (.iload_n 1, 1) := zo_27 (zby_w zwX9_order_2 15 rfl)
theorem d_X9_order_80 : decode cX9_order 80 = .ok (.invokevirtual 186, 3) := zo_182 (a := 0) (b := 186) (zby_w zwX9_order_2 16 rfl) (zby_w zwX9_order_2 17 rfl) (zby_w zwX9_order_2 18 rfl) (by decide)
theorem d_X9_order_83 : decode cX9_order 83 = .ok (.return_, 1) := zo_177 (zby_w zwX9_order_2 19 rfl)
theorem d_X9_pass_0 : decode cX9_pass 0 = .ok (.aload_n 0, 1) := zo_42 (zby_w zwX9_pass_0 0 rfl)
theorem d_X9_pass_1 : decode cX9_pass 1 = .ok (.getfield 302, 3) := zo_180 (a := 1) (b := 46) (zby_w zwX9_pass_0 1 rfl) (zby_w zwX9_pass_0 2 rfl) (zby_w zwX9_pass_0 3 rfl) (by decide)
theorem d_X9_pass_4 : decode cX9_pass 4 = .ok (.ifCond .eq 7, 3) := zo_153 (a := 0) (b := 7) (zby_w zwX9_pass_0 4 rfl) (zby_w zwX9_pass_0 5 rfl) (zby_w zwX9_pass_0 6 rfl) (by decide)
theorem d_X9_pass_7 : decode cX9_pass 7 = .ok (.iload_n 1, 1) := zo_27 (zby_w zwX9_pass_0 7 rfl)
theorem d_X9_pass_8 : decode cX9_pass 8 = .ok (.goto 12, 3) := zo_167 (a := 0) (b := 12) (zby_w zwX9_pass_0 8 rfl) (zby_w zwX9_pass_0 9 rfl) (zby_w zwX9_pass_0 10 rfl) (by decide)
theorem d_X9_pass_11 : decode cX9_pass 11 = .ok (.aload_n 0, 1) := zo_42 (zby_w zwX9_pass_0 11 rfl)
theorem d_X9_pass_12 : decode cX9_pass 12 = .ok (.getfield 55, 3) := zo_180 (a := 0) (b := 55) (zby_w zwX9_pass_0 12 rfl) (zby_w zwX9_pass_0 13 rfl) (zby_w zwX9_pass_0 14 rfl) (by decide)
theorem d_X9_pass_15 : decode cX9_pass 15 = .ok (.aload_n 0, 1) := zo_42 (zby_w zwX9_pass_0 15 rfl)
theorem d_X9_pass_16 : decode cX9_pass 16 = .ok (.getfield 306, 3) := zo_180 (a := 1) (b := 50) (zby_w zwX9_pass_0 16 rfl) (zby_w zwX9_pass_0 17 rfl) (zby_w zwX9_pass_0 18 rfl) (by decide)
theorem d_X9_pass_19 : decode cX9_pass 19 = .ok (.iaload, 1) := zo_46 (zby_w zwX9_pass_0 19 rfl)
theorem d_X9_pass_20 : decode cX9_pass 20 = .ok (.istore_n 2, 1) := zo_61 (zby_w zwX9_pass_0 20 rfl)
theorem d_X9_pass_21 : decode cX9_pass 21 = .ok (.aload_n 0, 1) := zo_42 (zby_w zwX9_pass_0 21 rfl)
theorem d_X9_pass_22 : decode cX9_pass 22 = .ok (.getfield 55, 3) := zo_180 (a := 0) (b := 55) (zby_w zwX9_pass_0 22 rfl) (zby_w zwX9_pass_0 23 rfl) (zby_w zwX9_pass_0 24 rfl) (by decide)
theorem d_X9_pass_25 : decode cX9_pass 25 = .ok (.aload_n 0, 1) := zo_42 (zby_w zwX9_pass_0 25 rfl)
theorem d_X9_pass_26 : decode cX9_pass 26 = .ok (.getfield 306, 3) := zo_180 (a := 1) (b := 50) (zby_w zwX9_pass_0 26 rfl) (zby_w zwX9_pass_0 27 rfl) (zby_w zwX9_pass_0 28 rfl) (by decide)
theorem d_X9_pass_29 : decode cX9_pass 29 = .ok (.iload_n 2, 1) := zo_28 (zby_w zwX9_pass_0 29 rfl)
theorem d_X9_pass_30 : decode cX9_pass 30 = .ok (.iastore, 1) := zo_79 (zby_w zwX9_pass_0 30 rfl)
theorem d_X9_pass_31 : decode cX9_pass 31 = .ok (.aload_n 0, 1) := zo_42 (zby_w zwX9_pass_0 31 rfl)
theorem d_X9_pass_32 : decode cX9_pass 32 = .ok (.dup, 1) := zo_89 (zby_w zwX9_pass_1 0 rfl)
theorem d_X9_pass_33 : decode cX9_pass 33 = .ok (.getfield 306, 3) := zo_180 (a := 1) (b := 50) (zby_w zwX9_pass_1 1 rfl) (zby_w zwX9_pass_1 2 rfl) (zby_w zwX9_pass_1 3 rfl) (by decide)
theorem d_X9_pass_36 : decode cX9_pass 36 = .ok (.iconst 1, 1) := zo_4 (zby_w zwX9_pass_1 4 rfl)
theorem d_X9_pass_37 : decode cX9_pass 37 = .ok (.iadd, 1) := zo_96 (zby_w zwX9_pass_1 5 rfl)
theorem d_X9_pass_38 : decode cX9_pass 38 = .ok (.putfield 306, 3) := zo_181 (a := 1) (b := 50) (zby_w zwX9_pass_1 6 rfl) (zby_w zwX9_pass_1 7 rfl) (zby_w zwX9_pass_1 8 rfl) (by decide)
theorem d_X9_pass_41 : decode cX9_pass 41 = .ok (.iload_n 2, 1) := zo_28 (zby_w zwX9_pass_1 9 rfl)
theorem d_X9_pass_42 : decode cX9_pass 42 = .ok (.ireturn, 1) := zo_172 (zby_w zwX9_pass_1 10 rfl)
theorem d_X9_passAll_0 : decode cX9_passAll 0 = .ok (.aload_n 0, 1) := zo_42 (zby_w zwX9_passAll_0 0 rfl)
theorem d_X9_passAll_1 : decode cX9_passAll 1 = .ok (.invokevirtual 312, 3) := zo_182 (a := 1) (b := 56) (zby_w zwX9_passAll_0 1 rfl) (zby_w zwX9_passAll_0 2 rfl) (zby_w zwX9_passAll_0 3 rfl) (by decide)
theorem d_X9_passAll_4 : decode cX9_passAll 4 = .ok (.iconst 0, 1) := zo_3 (zby_w zwX9_passAll_0 4 rfl)
theorem d_X9_passAll_5 : decode cX9_passAll 5 = .ok (.istore_n 1, 1) := zo_60 (zby_w zwX9_passAll_0 5 rfl)
theorem d_X9_passAll_6 : decode cX9_passAll 6 = .ok (.iload_n 1, 1) := zo_27 (zby_w zwX9_passAll_0 6 rfl)
theorem d_X9_passAll_7 : decode cX9_passAll 7 = .ok (.bipush 6, 2) := zo_16 (a := 6) (zby_w zwX9_passAll_0 7 rfl) (zby_w zwX9_passAll_0 8 rfl) (by decide)
theorem d_X9_passAll_9 : decode cX9_passAll 9 = .ok (.if_icmp .ge 105, 3) := zo_162 (a := 0) (b := 105) (zby_w zwX9_passAll_0 9 rfl) (zby_w zwX9_passAll_0 10 rfl) (zby_w zwX9_passAll_0 11 rfl) (by decide)
theorem d_X9_passAll_12 : decode cX9_passAll 12 = .ok (.aload_n 0, 1) := zo_42 (zby_w zwX9_passAll_0 12 rfl)
theorem d_X9_passAll_13 : decode cX9_passAll 13 = .ok (.getfield 7, 3) := zo_180 (a := 0) (b := 7) (zby_w zwX9_passAll_0 13 rfl) (zby_w zwX9_passAll_0 14 rfl) (zby_w zwX9_passAll_0 15 rfl) (by decide)
theorem d_X9_passAll_16 : decode cX9_passAll 16 = .ok (.iload_n 1, 1) := zo_27 (zby_w zwX9_passAll_0 16 rfl)
theorem d_X9_passAll_17 : decode cX9_passAll 17 = .ok (.aload_n 0, 1) := zo_42 (zby_w zwX9_passAll_0 17 rfl)
theorem d_X9_passAll_18 : decode cX9_passAll 18 = .ok (.aload_n 0, 1) := zo_42 (zby_w zwX9_passAll_0 18 rfl)
theorem d_X9_passAll_19 : decode cX9_passAll 19 = .ok (.getfield 7, 3) := zo_180 (a := 0) (b := 7) (zby_w zwX9_passAll_0 19 rfl) (zby_w zwX9_passAll_0 20 rfl) (zby_w zwX9_passAll_0 21 rfl) (by decide)
theorem d_X9_passAll_22 : decode cX9_passAll 22 = .ok (.iload_n 1, 1) := zo_27 (zby_w zwX9_passAll_0 22 rfl)
theorem d_X9_passAll_23 : decode cX9_passAll 23 = .ok (.iaload, 1) := zo_46 (zby_w zwX9_passAll_0 23 rfl)
theorem d_X9_passAll_24 : decode cX9_passAll 24 = .ok (.invokevirtual 309, 3) := zo_182 (a := 1) (b := 53) (zby_w zwX9_passAll_0 24 rfl) (zby_w zwX9_passAll_0 25 rfl) (zby_w zwX9_passAll_0 26 rfl) (by decide)
theorem d_X9_passAll_27 : decode cX9_passAll 27 = .ok (.iastore, 1) := zo_79 (zby_w zwX9_passAll_0 27 rfl)
theorem d_X9_passAll_28 : decode cX9_passAll 28 = .ok (.aload_n 0, 1) := zo_42 (zby_w zwX9_passAll_0 28 rfl)
theorem d_X9_passAll_29 : decode cX9_passAll 29 = .ok (.getfield 13, 3) := zo_180 (a := 0) (b := 13) (zby_w zwX9_passAll_0 29 rfl) (zby_w zwX9_passAll_0 30 rfl) (zby_w zwX9_passAll_0 31 rfl) (by decide)
theorem d_X9_passAll_32 : decode cX9_passAll 32 = .ok (.iload_n 1, 1) := zo_27 (zby_w zwX9_passAll_1 0 rfl)
theorem d_X9_passAll_33 : decode cX9_passAll 33 = .ok (.aload_n 0, 1) := zo_42 (zby_w zwX9_passAll_1 1 rfl)
theorem d_X9_passAll_34 : decode cX9_passAll 34 = .ok (.aload_n 0, 1) := zo_42 (zby_w zwX9_passAll_1 2 rfl)
theorem d_X9_passAll_35 : decode cX9_passAll 35 = .ok (.getfield 13, 3) := zo_180 (a := 0) (b := 13) (zby_w zwX9_passAll_1 3 rfl) (zby_w zwX9_passAll_1 4 rfl) (zby_w zwX9_passAll_1 5 rfl) (by decide)
theorem d_X9_passAll_38 : decode cX9_passAll 38 = .ok (.iload_n 1, 1) := zo_27 (zby_w zwX9_passAll_1 6 rfl)
theorem d_X9_passAll_39 : decode cX9_passAll 39 = .ok (.iaload, 1) := zo_46 (zby_w zwX9_passAll_1 7 rfl)
theorem d_X9_passAll_40 : decode cX9_passAll 40 = .ok (.invokevirtual 309, 3) := zo_182 (a := 1) (b := 53) (zby_w zwX9_passAll_1 8 rfl) (zby_w zwX9_passAll_1 9 rfl) (zby_w zwX9_passAll_1 10 rfl) (by decide)
theorem d_X9_passAll_43 : decode cX9_passAll 43 = .ok (.iastore, 1) := zo_79 (zby_w zwX9_passAll_1 11 rfl)
theorem d_X9_passAll_44 : decode cX9_passAll 44 = .ok (.aload_n 0, 1) := zo_42 (zby_w zwX9_passAll_1 12 rfl)
theorem d_X9_passAll_45 : decode cX9_passAll 45 = .ok (.getfield 16, 3) := zo_180 (a := 0) (b := 16) (zby_w zwX9_passAll_1 13 rfl) (zby_w zwX9_passAll_1 14 rfl) (zby_w zwX9_passAll_1 15 rfl) (by decide)
theorem d_X9_passAll_48 : decode cX9_passAll 48 = .ok (.iload_n 1, 1) := zo_27 (zby_w zwX9_passAll_1 16 rfl)
theorem d_X9_passAll_49 : decode cX9_passAll 49 = .ok (.aload_n 0, 1) := zo_42 (zby_w zwX9_passAll_1 17 rfl)
theorem d_X9_passAll_50 : decode cX9_passAll 50 = .ok (.aload_n 0, 1) := zo_42 (zby_w zwX9_passAll_1 18 rfl)
theorem d_X9_passAll_51 : decode cX9_passAll 51 = .ok (.getfield 16, 3) := zo_180 (a := 0) (b := 16) (zby_w zwX9_passAll_1 19 rfl) (zby_w zwX9_passAll_1 20 rfl) (zby_w zwX9_passAll_1 21 rfl) (by decide)
theorem d_X9_passAll_54 : decode cX9_passAll 54 = .ok (.iload_n 1, 1) := zo_27 (zby_w zwX9_passAll_1 22 rfl)
theorem d_X9_passAll_55 : decode cX9_passAll 55 = .ok (.iaload, 1) := zo_46 (zby_w zwX9_passAll_1 23 rfl)
theorem d_X9_passAll_56 : decode cX9_passAll 56 = .ok (.invokevirtual 309, 3) := zo_182 (a := 1) (b := 53) (zby_w zwX9_passAll_1 24 rfl) (zby_w zwX9_passAll_1 25 rfl) (zby_w zwX9_passAll_1 26 rfl) (by decide)
theorem d_X9_passAll_59 : decode cX9_passAll 59 = .ok (.iastore, 1) := zo_79 (zby_w zwX9_passAll_1 27 rfl)
theorem d_X9_passAll_60 : decode cX9_passAll 60 = .ok (.aload_n 0, 1) := zo_42 (zby_w zwX9_passAll_1 28 rfl)
theorem d_X9_passAll_61 : decode cX9_passAll 61 = .ok (.getfield 19, 3) := zo_180 (a := 0) (b := 19) (zby_w zwX9_passAll_1 29 rfl) (zby_w zwX9_passAll_1 30 rfl) (zby_w zwX9_passAll_1 31 rfl) (by decide)
theorem d_X9_passAll_64 : decode cX9_passAll 64 = .ok (.iload_n 1, 1) := zo_27 (zby_w zwX9_passAll_2 0 rfl)
theorem d_X9_passAll_65 : decode cX9_passAll 65 = .ok (.aload_n 0, 1) := zo_42 (zby_w zwX9_passAll_2 1 rfl)
theorem d_X9_passAll_66 : decode cX9_passAll 66 = .ok (.aload_n 0, 1) := zo_42 (zby_w zwX9_passAll_2 2 rfl)
theorem d_X9_passAll_67 : decode cX9_passAll 67 = .ok (.getfield 19, 3) := zo_180 (a := 0) (b := 19) (zby_w zwX9_passAll_2 3 rfl) (zby_w zwX9_passAll_2 4 rfl) (zby_w zwX9_passAll_2 5 rfl) (by decide)
theorem d_X9_passAll_70 : decode cX9_passAll 70 = .ok (.iload_n 1, 1) := zo_27 (zby_w zwX9_passAll_2 6 rfl)
theorem d_X9_passAll_71 : decode cX9_passAll 71 = .ok (.iaload, 1) := zo_46 (zby_w zwX9_passAll_2 7 rfl)
theorem d_X9_passAll_72 : decode cX9_passAll 72 = .ok (.invokevirtual 309, 3) := zo_182 (a := 1) (b := 53) (zby_w zwX9_passAll_2 8 rfl) (zby_w zwX9_passAll_2 9 rfl) (zby_w zwX9_passAll_2 10 rfl) (by decide)
theorem d_X9_passAll_75 : decode cX9_passAll 75 = .ok (.iastore, 1) := zo_79 (zby_w zwX9_passAll_2 11 rfl)
theorem d_X9_passAll_76 : decode cX9_passAll 76 = .ok (.aload_n 0, 1) := zo_42 (zby_w zwX9_passAll_2 12 rfl)
theorem d_X9_passAll_77 : decode cX9_passAll 77 = .ok (.getfield 34, 3) := zo_180 (a := 0) (b := 34) (zby_w zwX9_passAll_2 13 rfl) (zby_w zwX9_passAll_2 14 rfl) (zby_w zwX9_passAll_2 15 rfl) (by decide)
theorem d_X9_passAll_80 : decode cX9_passAll 80 = .ok (.iload_n 1, 1) := zo_27 (zby_w zwX9_passAll_2 16 rfl)
theorem d_X9_passAll_81 : decode cX9_passAll 81 = .ok (.aload_n 0, 1) := zo_42 (zby_w zwX9_passAll_2 17 rfl)
theorem d_X9_passAll_82 : decode cX9_passAll 82 = .ok (.aload_n 0, 1) := zo_42 (zby_w zwX9_passAll_2 18 rfl)
theorem d_X9_passAll_83 : decode cX9_passAll 83 = .ok (.getfield 34, 3) := zo_180 (a := 0) (b := 34) (zby_w zwX9_passAll_2 19 rfl) (zby_w zwX9_passAll_2 20 rfl) (zby_w zwX9_passAll_2 21 rfl) (by decide)
theorem d_X9_passAll_86 : decode cX9_passAll 86 = .ok (.iload_n 1, 1) := zo_27 (zby_w zwX9_passAll_2 22 rfl)
theorem d_X9_passAll_87 : decode cX9_passAll 87 = .ok (.iaload, 1) := zo_46 (zby_w zwX9_passAll_2 23 rfl)
theorem d_X9_passAll_88 : decode cX9_passAll 88 = .ok (.invokevirtual 309, 3) := zo_182 (a := 1) (b := 53) (zby_w zwX9_passAll_2 24 rfl) (zby_w zwX9_passAll_2 25 rfl) (zby_w zwX9_passAll_2 26 rfl) (by decide)
theorem d_X9_passAll_91 : decode cX9_passAll 91 = .ok (.iastore, 1) := zo_79 (zby_w zwX9_passAll_2 27 rfl)
theorem d_X9_passAll_92 : decode cX9_passAll 92 = .ok (.aload_n 0, 1) := zo_42 (zby_w zwX9_passAll_2 28 rfl)
theorem d_X9_passAll_93 : decode cX9_passAll 93 = .ok (.getfield 37, 3) := zo_180 (a := 0) (b := 37) (zby_w zwX9_passAll_2 29 rfl) (zby_w zwX9_passAll_2 30 rfl) (zby_w zwX9_passAll_2 31 rfl) (by decide)
theorem d_X9_passAll_96 : decode cX9_passAll 96 = .ok (.iload_n 1, 1) := zo_27 (zby_w zwX9_passAll_3 0 rfl)
theorem d_X9_passAll_97 : decode cX9_passAll 97 = .ok (.aload_n 0, 1) := zo_42 (zby_w zwX9_passAll_3 1 rfl)
theorem d_X9_passAll_98 : decode cX9_passAll 98 = .ok (.aload_n 0, 1) := zo_42 (zby_w zwX9_passAll_3 2 rfl)
theorem d_X9_passAll_99 : decode cX9_passAll 99 = .ok (.getfield 37, 3) := zo_180 (a := 0) (b := 37) (zby_w zwX9_passAll_3 3 rfl) (zby_w zwX9_passAll_3 4 rfl) (zby_w zwX9_passAll_3 5 rfl) (by decide)
theorem d_X9_passAll_102 : decode cX9_passAll 102 = .ok (.iload_n 1, 1) := zo_27 (zby_w zwX9_passAll_3 6 rfl)
theorem d_X9_passAll_103 : decode cX9_passAll 103 = .ok (.iaload, 1) := zo_46 (zby_w zwX9_passAll_3 7 rfl)
theorem d_X9_passAll_104 : decode cX9_passAll 104 = .ok (.invokevirtual 309, 3) := zo_182 (a := 1) (b := 53) (zby_w zwX9_passAll_3 8 rfl) (zby_w zwX9_passAll_3 9 rfl) (zby_w zwX9_passAll_3 10 rfl) (by decide)
theorem d_X9_passAll_107 : decode cX9_passAll 107 = .ok (.iastore, 1) := zo_79 (zby_w zwX9_passAll_3 11 rfl)
theorem d_X9_passAll_108 : decode cX9_passAll 108 = .ok (.iinc 1 1, 3) := by decide +kernel
theorem d_X9_passAll_111 : decode cX9_passAll 111 = .ok (.goto (-105), 3) := zo_167 (a := 255) (b := 151) (zby_w zwX9_passAll_3 15 rfl) (zby_w zwX9_passAll_3 16 rfl) (zby_w zwX9_passAll_3 17 rfl) (by decide)
theorem d_X9_passAll_114 : decode cX9_passAll 114 = .ok (.iconst 0, 1) := zo_3 (zby_w zwX9_passAll_3 18 rfl)
theorem d_X9_passAll_115 : decode cX9_passAll 115 = .ok (.istore_n 1, 1) := zo_60 (zby_w zwX9_passAll_3 19 rfl)
theorem d_X9_passAll_116 : decode cX9_passAll 116 = .ok (.iload_n 1, 1) := zo_27 (zby_w zwX9_passAll_3 20 rfl)
theorem d_X9_passAll_117 : decode cX9_passAll 117 = .ok (.iconst 4, 1) := zo_7 (zby_w zwX9_passAll_3 21 rfl)
theorem d_X9_passAll_118 : decode cX9_passAll 118 = .ok (.if_icmp .ge 41, 3) := zo_162 (a := 0) (b := 41) (zby_w zwX9_passAll_3 22 rfl) (zby_w zwX9_passAll_3 23 rfl) (zby_w zwX9_passAll_3 24 rfl) (by decide)
theorem d_X9_passAll_121 : decode cX9_passAll 121 = .ok (.aload_n 0, 1) := zo_42 (zby_w zwX9_passAll_3 25 rfl)
theorem d_X9_passAll_122 : decode cX9_passAll 122 = .ok (.getfield 25, 3) := zo_180 (a := 0) (b := 25) (zby_w zwX9_passAll_3 26 rfl) (zby_w zwX9_passAll_3 27 rfl) (zby_w zwX9_passAll_3 28 rfl) (by decide)
theorem d_X9_passAll_125 : decode cX9_passAll 125 = .ok (.iload_n 1, 1) := zo_27 (zby_w zwX9_passAll_3 29 rfl)
theorem d_X9_passAll_126 : decode cX9_passAll 126 = .ok (.aload_n 0, 1) := zo_42 (zby_w zwX9_passAll_3 30 rfl)
theorem d_X9_passAll_127 : decode cX9_passAll 127 = .ok (.aload_n 0, 1) := zo_42 (zby_w zwX9_passAll_3 31 rfl)
theorem d_X9_passAll_128 : decode cX9_passAll 128 = .ok (.getfield 25, 3) := zo_180 (a := 0) (b := 25) (zby_w zwX9_passAll_4 0 rfl) (zby_w zwX9_passAll_4 1 rfl) (zby_w zwX9_passAll_4 2 rfl) (by decide)
theorem d_X9_passAll_131 : decode cX9_passAll 131 = .ok (.iload_n 1, 1) := zo_27 (zby_w zwX9_passAll_4 3 rfl)
theorem d_X9_passAll_132 : decode cX9_passAll 132 = .ok (.iaload, 1) := zo_46 (zby_w zwX9_passAll_4 4 rfl)
theorem d_X9_passAll_133 : decode cX9_passAll 133 = .ok (.invokevirtual 309, 3) := zo_182 (a := 1) (b := 53) (zby_w zwX9_passAll_4 5 rfl) (zby_w zwX9_passAll_4 6 rfl) (zby_w zwX9_passAll_4 7 rfl) (by decide)
theorem d_X9_passAll_136 : decode cX9_passAll 136 = .ok (.iastore, 1) := zo_79 (zby_w zwX9_passAll_4 8 rfl)
theorem d_X9_passAll_137 : decode cX9_passAll 137 = .ok (.aload_n 0, 1) := zo_42 (zby_w zwX9_passAll_4 9 rfl)
theorem d_X9_passAll_138 : decode cX9_passAll 138 = .ok (.getfield 28, 3) := zo_180 (a := 0) (b := 28) (zby_w zwX9_passAll_4 10 rfl) (zby_w zwX9_passAll_4 11 rfl) (zby_w zwX9_passAll_4 12 rfl) (by decide)
theorem d_X9_passAll_141 : decode cX9_passAll 141 = .ok (.iload_n 1, 1) := zo_27 (zby_w zwX9_passAll_4 13 rfl)
theorem d_X9_passAll_142 : decode cX9_passAll 142 = .ok (.aload_n 0, 1) := zo_42 (zby_w zwX9_passAll_4 14 rfl)
theorem d_X9_passAll_143 : decode cX9_passAll 143 = .ok (.aload_n 0, 1) := zo_42 (zby_w zwX9_passAll_4 15 rfl)
theorem d_X9_passAll_144 : decode cX9_passAll 144 = .ok (.getfield 28, 3) := zo_180 (a := 0) (b := 28) (zby_w zwX9_passAll_4 16 rfl) (zby_w zwX9_passAll_4 17 rfl) (zby_w zwX9_passAll_4 18 rfl) (by decide)
theorem d_X9_passAll_147 : decode cX9_passAll 147 = .ok (.iload_n 1, 1) := zo_27 (zby_w zwX9_passAll_4 19 rfl)
theorem d_X9_passAll_148 : decode cX9_passAll 148 = .ok (.iaload, 1) := zo_46 (zby_w zwX9_passAll_4 20 rfl)
theorem d_X9_passAll_149 : decode cX9_passAll 149 = .ok (.invokevirtual 309, 3) := zo_182 (a := 1) (b := 53) (zby_w zwX9_passAll_4 21 rfl) (zby_w zwX9_passAll_4 22 rfl) (zby_w zwX9_passAll_4 23 rfl) (by decide)
theorem d_X9_passAll_152 : decode cX9_passAll 152 = .ok (.iastore, 1) := zo_79 (zby_w zwX9_passAll_4 24 rfl)
theorem d_X9_passAll_153 : decode cX9_passAll 153 = .ok (.iinc 1 1, 3) := by decide +kernel
theorem d_X9_passAll_156 : decode cX9_passAll 156 = .ok (.goto (-40), 3) := zo_167 (a := 255) (b := 216) (zby_w zwX9_passAll_4 28 rfl) (zby_w zwX9_passAll_4 29 rfl) (zby_w zwX9_passAll_4 30 rfl) (by decide)
theorem d_X9_passAll_159 : decode cX9_passAll 159 = .ok (.iconst 0, 1) := zo_3 (zby_w zwX9_passAll_4 31 rfl)
theorem d_X9_passAll_160 : decode cX9_passAll 160 = .ok (.istore_n 1, 1) := zo_60 (zby_w zwX9_passAll_5 0 rfl)
theorem d_X9_passAll_161 : decode cX9_passAll 161 = .ok (.iload_n 1, 1) := zo_27 (zby_w zwX9_passAll_5 1 rfl)
theorem d_X9_passAll_162 : decode cX9_passAll 162 = .ok (.bipush 8, 2) := zo_16 (a := 8) (zby_w zwX9_passAll_5 2 rfl) (zby_w zwX9_passAll_5 3 rfl) (by decide)
theorem d_X9_passAll_164 : decode cX9_passAll 164 = .ok (.if_icmp .ge 25, 3) := zo_162 (a := 0) (b := 25) (zby_w zwX9_passAll_5 4 rfl) (zby_w zwX9_passAll_5 5 rfl) (zby_w zwX9_passAll_5 6 rfl) (by decide)
theorem d_X9_passAll_167 : decode cX9_passAll 167 = .ok (.aload_n 0, 1) := zo_42 (zby_w zwX9_passAll_5 7 rfl)
theorem d_X9_passAll_168 : decode cX9_passAll 168 = .ok (.getfield 31, 3) := zo_180 (a := 0) (b := 31) (zby_w zwX9_passAll_5 8 rfl) (zby_w zwX9_passAll_5 9 rfl) (zby_w zwX9_passAll_5 10 rfl) (by decide)
theorem d_X9_passAll_171 : decode cX9_passAll 171 = .ok (.iload_n 1, 1) := zo_27 (zby_w zwX9_passAll_5 11 rfl)
theorem d_X9_passAll_172 : decode cX9_passAll 172 = .ok (.aload_n 0, 1) := zo_42 (zby_w zwX9_passAll_5 12 rfl)
theorem d_X9_passAll_173 : decode cX9_passAll 173 = .ok (.aload_n 0, 1) := zo_42 (zby_w zwX9_passAll_5 13 rfl)
theorem d_X9_passAll_174 : decode cX9_passAll 174 = .ok (.getfield 31, 3) := zo_180 (a := 0) (b := 31) (zby_w zwX9_passAll_5 14 rfl) (zby_w zwX9_passAll_5 15 rfl) (zby_w zwX9_passAll_5 16 rfl) (by decide)
theorem d_X9_passAll_177 : decode cX9_passAll 177 = .ok (.iload_n 1, 1) := zo_27 (zby_w zwX9_passAll_5 17 rfl)
theorem d_X9_passAll_178 : decode cX9_passAll 178 = .ok (.iaload, 1) := zo_46 (zby_w zwX9_passAll_5 18 rfl)
theorem d_X9_passAll_179 : decode cX9_passAll 179 = .ok (.invokevirtual 309, 3) := zo_182 (a := 1) (b := 53) (zby_w zwX9_passAll_5 19 rfl) (zby_w zwX9_passAll_5 20 rfl) (zby_w zwX9_passAll_5 21 rfl) (by decide)
theorem d_X9_passAll_182 : decode cX9_passAll 182 = .ok (.iastore, 1) := zo_79 (zby_w zwX9_passAll_5 22 rfl)
theorem d_X9_passAll_183 : decode cX9_passAll 183 = .ok (.iinc 1 1, 3) := by decide +kernel
theorem d_X9_passAll_186 : decode cX9_passAll 186 = .ok (.goto (-25), 3) := zo_167 (a := 255) (b := 231) (zby_w zwX9_passAll_5 26 rfl) (zby_w zwX9_passAll_5 27 rfl) (zby_w zwX9_passAll_5 28 rfl) (by decide)
theorem d_X9_passAll_189 : decode cX9_passAll 189 = .ok (.iconst 0, 1) := zo_3 (zby_w zwX9_passAll_5 29 rfl)
theorem d_X9_passAll_190 : decode cX9_passAll 190 = .ok (.istore_n 1, 1) := zo_60 (zby_w zwX9_passAll_5 30 rfl)
theorem d_X9_passAll_191 : decode cX9_passAll 191 = .ok (.iload_n 1, 1) := zo_27 (zby_w zwX9_passAll_5 31 rfl)
theorem d_X9_passAll_192 : decode cX9_passAll 192 = .ok (.bipush 24, 2) := zo_16 (a := 24) (zby_w zwX9_passAll_6 0 rfl) (zby_w zwX9_passAll_6 1 rfl) (by decide)
theorem d_X9_passAll_194 : decode cX9_passAll 194 = .ok (.if_icmp .ge 25, 3) := zo_162 (a := 0) (b := 25) (zby_w zwX9_passAll_6 2 rfl) (zby_w zwX9_passAll_6 3 rfl) (zby_w zwX9_passAll_6 4 rfl) (by decide)
theorem d_X9_passAll_197 : decode cX9_passAll 197 = .ok (.aload_n 0, 1) := zo_42 (zby_w zwX9_passAll_6 5 rfl)
theorem d_X9_passAll_198 : decode cX9_passAll 198 = .ok (.getfield 22, 3) := zo_180 (a := 0) (b := 22) (zby_w zwX9_passAll_6 6 rfl) (zby_w zwX9_passAll_6 7 rfl) (zby_w zwX9_passAll_6 8 rfl) (by decide)
theorem d_X9_passAll_201 : decode cX9_passAll 201 = .ok (.iload_n 1, 1) := zo_27 (zby_w zwX9_passAll_6 9 rfl)
theorem d_X9_passAll_202 : decode cX9_passAll 202 = .ok (.aload_n 0, 1) := zo_42 (zby_w zwX9_passAll_6 10 rfl)
theorem d_X9_passAll_203 : decode cX9_passAll 203 = .ok (.aload_n 0, 1) := zo_42 (zby_w zwX9_passAll_6 11 rfl)
theorem d_X9_passAll_204 : decode cX9_passAll 204 = .ok (.getfield 22, 3) := zo_180 (a := 0) (b := 22) (zby_w zwX9_passAll_6 12 rfl) (zby_w zwX9_passAll_6 13 rfl) (zby_w zwX9_passAll_6 14 rfl) (by decide)
theorem d_X9_passAll_207 : decode cX9_passAll 207 = .ok (.iload_n 1, 1) := zo_27 (zby_w zwX9_passAll_6 15 rfl)
theorem d_X9_passAll_208 : decode cX9_passAll 208 = .ok (.iaload, 1) := zo_46 (zby_w zwX9_passAll_6 16 rfl)
theorem d_X9_passAll_209 : decode cX9_passAll 209 = .ok (.invokevirtual 309, 3) := zo_182 (a := 1) (b := 53) (zby_w zwX9_passAll_6 17 rfl) (zby_w zwX9_passAll_6 18 rfl) (zby_w zwX9_passAll_6 19 rfl) (by decide)
theorem d_X9_passAll_212 : decode cX9_passAll 212 = .ok (.iastore, 1) := zo_79 (zby_w zwX9_passAll_6 20 rfl)
theorem d_X9_passAll_213 : decode cX9_passAll 213 = .ok (.iinc 1 1, 3) := by decide +kernel
theorem d_X9_passAll_216 : decode cX9_passAll 216 = .ok (.goto (-25), 3) := zo_167 (a := 255) (b := 231) (zby_w zwX9_passAll_6 24 rfl) (zby_w zwX9_passAll_6 25 rfl) (zby_w zwX9_passAll_6 26 rfl) (by decide)
theorem d_X9_passAll_219 : decode cX9_passAll 219 = .ok (.return_, 1) := zo_177 (zby_w zwX9_passAll_6 27 rfl)
theorem d_X9_passNumbers_0 : decode cX9_passNumbers 0 = .ok (.aload_n 0, 1) := zo_42 (zby_w zwX9_passNumbers_0 0 rfl)
theorem d_X9_passNumbers_1 : decode cX9_passNumbers 1 = .ok (.aload_n 0, 1) := zo_42 (zby_w zwX9_passNumbers_0 1 rfl)
theorem d_X9_passNumbers_2 : decode cX9_passNumbers 2 = .ok (.aload_n 0, 1) := zo_42 (zby_w zwX9_passNumbers_0 2 rfl)
theorem d_X9_passNumbers_3 : decode cX9_passNumbers 3 = .ok (.getfield 97, 3) := zo_180 (a := 0) (b := 97) (zby_w zwX9_passNumbers_0 3 rfl) (zby_w zwX9_passNumbers_0 4 rfl) (zby_w zwX9_passNumbers_0 5 rfl) (by decide)
theorem d_X9_passNumbers_6 : decode cX9_passNumbers 6 = .ok (.invokevirtual 309, 3) := zo_182 (a := 1) (b := 53) (zby_w zwX9_passNumbers_0 6 rfl) (zby_w zwX9_passNumbers_0 7 rfl) (zby_w zwX9_passNumbers_0 8 rfl) (by decide)
theorem d_X9_passNumbers_9 : decode cX9_passNumbers 9 = .ok (.putfield 97, 3) := zo_181 (a := 0) (b := 97) (zby_w zwX9_passNumbers_0 9 rfl) (zby_w zwX9_passNumbers_0 10 rfl) (zby_w zwX9_passNumbers_0 11 rfl) (by decide)
theorem d_X9_passNumbers_12 : decode cX9_passNumbers 12 = .ok (.aload_n 0, 1) := zo_42 (zby_w zwX9_passNumbers_0 12 rfl)
theorem d_X9_passNumbers_13 : decode cX9_passNumbers 13 = .ok (.aload_n 0, 1) := zo_42 (zby_w zwX9_passNumbers_0 13 rfl)
theorem d_X9_passNumbers_14 : decode cX9_passNumbers 14 = .ok (.aload_n 0, 1) := zo_42 (zby_w zwX9_passNumbers_0 14 rfl)
theorem d_X9_passNumbers_15 : decode cX9_passNumbers 15 = .ok (.getfield 62, 3) := zo_180 (a := 0) (b := 62) (zby_w zwX9_passNumbers_0 15 rfl) (zby_w zwX9_passNumbers_0 16 rfl) (zby_w zwX9_passNumbers_0 17 rfl) (by decide)
theorem d_X9_passNumbers_18 : decode cX9_passNumbers 18 = .ok (.invokevirtual 309, 3) := zo_182 (a := 1) (b := 53) (zby_w zwX9_passNumbers_0 18 rfl) (zby_w zwX9_passNumbers_0 19 rfl) (zby_w zwX9_passNumbers_0 20 rfl) (by decide)
theorem d_X9_passNumbers_21 : decode cX9_passNumbers 21 = .ok (.putfield 62, 3) := zo_181 (a := 0) (b := 62) (zby_w zwX9_passNumbers_0 21 rfl) (zby_w zwX9_passNumbers_0 22 rfl) (zby_w zwX9_passNumbers_0 23 rfl) (by decide)
theorem d_X9_passNumbers_24 : decode cX9_passNumbers 24 = .ok (.aload_n 0, 1) := zo_42 (zby_w zwX9_passNumbers_0 24 rfl)
theorem d_X9_passNumbers_25 : decode cX9_passNumbers 25 = .ok (.aload_n 0, 1) := zo_42 (zby_w zwX9_passNumbers_0 25 rfl)
theorem d_X9_passNumbers_26 : decode cX9_passNumbers 26 = .ok (.aload_n 0, 1) := zo_42 (zby_w zwX9_passNumbers_0 26 rfl)
theorem d_X9_passNumbers_27 : decode cX9_passNumbers 27 = .ok (.getfield 66, 3) := zo_180 (a := 0) (b := 66) (zby_w zwX9_passNumbers_0 27 rfl) (zby_w zwX9_passNumbers_0 28 rfl) (zby_w zwX9_passNumbers_0 29 rfl) (by decide)
theorem d_X9_passNumbers_30 : decode cX9_passNumbers 30 = .ok (.invokevirtual 309, 3) := zo_182 (a := 1) (b := 53) (zby_w zwX9_passNumbers_0 30 rfl) (zby_w zwX9_passNumbers_0 31 rfl) (zby_w zwX9_passNumbers_0 32 rfl) (by decide)
theorem d_X9_passNumbers_33 : decode cX9_passNumbers 33 = .ok (.putfield 66, 3) := zo_181 (a := 0) (b := 66) (zby_w zwX9_passNumbers_1 1 rfl) (zby_w zwX9_passNumbers_1 2 rfl) (zby_w zwX9_passNumbers_1 3 rfl) (by decide)
theorem d_X9_passNumbers_36 : decode cX9_passNumbers 36 = .ok (.aload_n 0, 1) := zo_42 (zby_w zwX9_passNumbers_1 4 rfl)
theorem d_X9_passNumbers_37 : decode cX9_passNumbers 37 = .ok (.aload_n 0, 1) := zo_42 (zby_w zwX9_passNumbers_1 5 rfl)
theorem d_X9_passNumbers_38 : decode cX9_passNumbers 38 = .ok (.aload_n 0, 1) := zo_42 (zby_w zwX9_passNumbers_1 6 rfl)
theorem d_X9_passNumbers_39 : decode cX9_passNumbers 39 = .ok (.getfield 69, 3) := zo_180 (a := 0) (b := 69) (zby_w zwX9_passNumbers_1 7 rfl) (zby_w zwX9_passNumbers_1 8 rfl) (zby_w zwX9_passNumbers_1 9 rfl) (by decide)
theorem d_X9_passNumbers_42 : decode cX9_passNumbers 42 = .ok (.invokevirtual 309, 3) := zo_182 (a := 1) (b := 53) (zby_w zwX9_passNumbers_1 10 rfl) (zby_w zwX9_passNumbers_1 11 rfl) (zby_w zwX9_passNumbers_1 12 rfl) (by decide)
theorem d_X9_passNumbers_45 : decode cX9_passNumbers 45 = .ok (.putfield 69, 3) := zo_181 (a := 0) (b := 69) (zby_w zwX9_passNumbers_1 13 rfl) (zby_w zwX9_passNumbers_1 14 rfl) (zby_w zwX9_passNumbers_1 15 rfl) (by decide)
theorem d_X9_passNumbers_48 : decode cX9_passNumbers 48 = .ok (.aload_n 0, 1) := zo_42 (zby_w zwX9_passNumbers_1 16 rfl)
theorem d_X9_passNumbers_49 : decode cX9_passNumbers 49 = .ok (.aload_n 0, 1) := zo_42 (zby_w zwX9_passNumbers_1 17 rfl)
theorem d_X9_passNumbers_50 : decode cX9_passNumbers 50 = .ok (.aload_n 0, 1) := zo_42 (zby_w zwX9_passNumbers_1 18 rfl)
theorem d_X9_passNumbers_51 : decode cX9_passNumbers 51 = .ok (.getfield 72, 3) := zo_180 (a := 0) (b := 72) (zby_w zwX9_passNumbers_1 19 rfl) (zby_w zwX9_passNumbers_1 20 rfl) (zby_w zwX9_passNumbers_1 21 rfl) (by decide)
theorem d_X9_passNumbers_54 : decode cX9_passNumbers 54 = .ok (.invokevirtual 309, 3) := zo_182 (a := 1) (b := 53) (zby_w zwX9_passNumbers_1 22 rfl) (zby_w zwX9_passNumbers_1 23 rfl) (zby_w zwX9_passNumbers_1 24 rfl) (by decide)
theorem d_X9_passNumbers_57 : decode cX9_passNumbers 57 = .ok (.putfield 72, 3) := zo_181 (a := 0) (b := 72) (zby_w zwX9_passNumbers_1 25 rfl) (zby_w zwX9_passNumbers_1 26 rfl) (zby_w zwX9_passNumbers_1 27 rfl) (by decide)
theorem d_X9_passNumbers_60 : decode cX9_passNumbers 60 = .ok (.aload_n 0, 1) := zo_42 (zby_w zwX9_passNumbers_1 28 rfl)
theorem d_X9_passNumbers_61 : decode cX9_passNumbers 61 = .ok (.aload_n 0, 1) := zo_42 (zby_w zwX9_passNumbers_1 29 rfl)
theorem d_X9_passNumbers_62 : decode cX9_passNumbers 62 = .ok (.aload_n 0, 1) := zo_42 (zby_w zwX9_passNumbers_1 30 rfl)
theorem d_X9_passNumbers_63 : decode cX9_passNumbers 63 = .ok (.getfield 75, 3) := zo_180 (a := 0) (b := 75) (zby_w zwX9_passNumbers_1 31 rfl) (zby_w zwX9_passNumbers_1 32 rfl) (zby_w zwX9_passNumbers_1 33 rfl) (by decide)
theorem d_X9_passNumbers_66 : decode cX9_passNumbers 66 = .ok (.invokevirtual 309, 3) := zo_182 (a := 1) (b := 53) (zby_w zwX9_passNumbers_2 2 rfl) (zby_w zwX9_passNumbers_2 3 rfl) (zby_w zwX9_passNumbers_2 4 rfl) (by decide)
theorem d_X9_passNumbers_69 : decode cX9_passNumbers 69 = .ok (.putfield 75, 3) := zo_181 (a := 0) (b := 75) (zby_w zwX9_passNumbers_2 5 rfl) (zby_w zwX9_passNumbers_2 6 rfl) (zby_w zwX9_passNumbers_2 7 rfl) (by decide)
theorem d_X9_passNumbers_72 : decode cX9_passNumbers 72 = .ok (.aload_n 0, 1) := zo_42 (zby_w zwX9_passNumbers_2 8 rfl)
theorem d_X9_passNumbers_73 : decode cX9_passNumbers 73 = .ok (.aload_n 0, 1) := zo_42 (zby_w zwX9_passNumbers_2 9 rfl)
theorem d_X9_passNumbers_74 : decode cX9_passNumbers 74 = .ok (.aload_n 0, 1) := zo_42 (zby_w zwX9_passNumbers_2 10 rfl)
theorem d_X9_passNumbers_75 : decode cX9_passNumbers 75 = .ok (.getfield 78, 3) := zo_180 (a := 0) (b := 78) (zby_w zwX9_passNumbers_2 11 rfl) (zby_w zwX9_passNumbers_2 12 rfl) (zby_w zwX9_passNumbers_2 13 rfl) (by decide)
theorem d_X9_passNumbers_78 : decode cX9_passNumbers 78 = .ok (.invokevirtual 309, 3) := zo_182 (a := 1) (b := 53) (zby_w zwX9_passNumbers_2 14 rfl) (zby_w zwX9_passNumbers_2 15 rfl) (zby_w zwX9_passNumbers_2 16 rfl) (by decide)
theorem d_X9_passNumbers_81 : decode cX9_passNumbers 81 = .ok (.putfield 78, 3) := zo_181 (a := 0) (b := 78) (zby_w zwX9_passNumbers_2 17 rfl) (zby_w zwX9_passNumbers_2 18 rfl) (zby_w zwX9_passNumbers_2 19 rfl) (by decide)
theorem d_X9_passNumbers_84 : decode cX9_passNumbers 84 = .ok (.aload_n 0, 1) := zo_42 (zby_w zwX9_passNumbers_2 20 rfl)
theorem d_X9_passNumbers_85 : decode cX9_passNumbers 85 = .ok (.aload_n 0, 1) := zo_42 (zby_w zwX9_passNumbers_2 21 rfl)
theorem d_X9_passNumbers_86 : decode cX9_passNumbers 86 = .ok (.aload_n 0, 1) := zo_42 (zby_w zwX9_passNumbers_2 22 rfl)
theorem d_X9_passNumbers_87 : decode cX9_passNumbers 87 = .ok (.getfield 115, 3) := zo_180 (a := 0) (b := 115) (zby_w zwX9_passNumbers_2 23 rfl) (zby_w zwX9_passNumbers_2 24 rfl) (zby_w zwX9_passNumbers_2 25 rfl) (by decide)
theorem d_X9_passNumbers_90 : decode cX9_passNumbers 90 = .ok (.invokevirtual 309, 3) := zo_182 (a := 1) (b := 53) (zby_w zwX9_passNumbers_2 26 rfl) (zby_w zwX9_passNumbers_2 27 rfl) (zby_w zwX9_passNumbers_2 28 rfl) (by decide)
theorem d_X9_passNumbers_93 : decode cX9_passNumbers 93 = .ok (.putfield 115, 3) := zo_181 (a := 0) (b := 115) (zby_w zwX9_passNumbers_2 29 rfl) (zby_w zwX9_passNumbers_2 30 rfl) (zby_w zwX9_passNumbers_2 31 rfl) (by decide)
theorem d_X9_passNumbers_96 : decode cX9_passNumbers 96 = .ok (.aload_n 0, 1) := zo_42 (zby_w zwX9_passNumbers_3 0 rfl)
theorem d_X9_passNumbers_97 : decode cX9_passNumbers 97 = .ok (.aload_n 0, 1) := zo_42 (zby_w zwX9_passNumbers_3 1 rfl)
theorem d_X9_passNumbers_98 : decode cX9_passNumbers 98 = .ok (.aload_n 0, 1) := zo_42 (zby_w zwX9_passNumbers_3 2 rfl)
theorem d_X9_passNumbers_99 : decode cX9_passNumbers 99 = .ok (.getfield 81, 3) := zo_180 (a := 0) (b := 81) (zby_w zwX9_passNumbers_3 3 rfl) (zby_w zwX9_passNumbers_3 4 rfl) (zby_w zwX9_passNumbers_3 5 rfl) (by decide)
theorem d_X9_passNumbers_102 : decode cX9_passNumbers 102 = .ok (.invokevirtual 309, 3) := zo_182 (a := 1) (b := 53) (zby_w zwX9_passNumbers_3 6 rfl) (zby_w zwX9_passNumbers_3 7 rfl) (zby_w zwX9_passNumbers_3 8 rfl) (by decide)
theorem d_X9_passNumbers_105 : decode cX9_passNumbers 105 = .ok (.putfield 81, 3) := zo_181 (a := 0) (b := 81) (zby_w zwX9_passNumbers_3 9 rfl) (zby_w zwX9_passNumbers_3 10 rfl) (zby_w zwX9_passNumbers_3 11 rfl) (by decide)
theorem d_X9_passNumbers_108 : decode cX9_passNumbers 108 = .ok (.aload_n 0, 1) := zo_42 (zby_w zwX9_passNumbers_3 12 rfl)
theorem d_X9_passNumbers_109 : decode cX9_passNumbers 109 = .ok (.aload_n 0, 1) := zo_42 (zby_w zwX9_passNumbers_3 13 rfl)
theorem d_X9_passNumbers_110 : decode cX9_passNumbers 110 = .ok (.aload_n 0, 1) := zo_42 (zby_w zwX9_passNumbers_3 14 rfl)
theorem d_X9_passNumbers_111 : decode cX9_passNumbers 111 = .ok (.getfield 84, 3) := zo_180 (a := 0) (b := 84) (zby_w zwX9_passNumbers_3 15 rfl) (zby_w zwX9_passNumbers_3 16 rfl) (zby_w zwX9_passNumbers_3 17 rfl) (by decide)
theorem d_X9_passNumbers_114 : decode cX9_passNumbers 114 = .ok (.invokevirtual 309, 3) := zo_182 (a := 1) (b := 53) (zby_w zwX9_passNumbers_3 18 rfl) (zby_w zwX9_passNumbers_3 19 rfl) (zby_w zwX9_passNumbers_3 20 rfl) (by decide)
theorem d_X9_passNumbers_117 : decode cX9_passNumbers 117 = .ok (.putfield 84, 3) := zo_181 (a := 0) (b := 84) (zby_w zwX9_passNumbers_3 21 rfl) (zby_w zwX9_passNumbers_3 22 rfl) (zby_w zwX9_passNumbers_3 23 rfl) (by decide)
theorem d_X9_passNumbers_120 : decode cX9_passNumbers 120 = .ok (.aload_n 0, 1) := zo_42 (zby_w zwX9_passNumbers_3 24 rfl)
theorem d_X9_passNumbers_121 : decode cX9_passNumbers 121 = .ok (.aload_n 0, 1) := zo_42 (zby_w zwX9_passNumbers_3 25 rfl)
theorem d_X9_passNumbers_122 : decode cX9_passNumbers 122 = .ok (.aload_n 0, 1) := zo_42 (zby_w zwX9_passNumbers_3 26 rfl)
theorem d_X9_passNumbers_123 : decode cX9_passNumbers 123 = .ok (.getfield 151, 3) := zo_180 (a := 0) (b := 151) (zby_w zwX9_passNumbers_3 27 rfl) (zby_w zwX9_passNumbers_3 28 rfl) (zby_w zwX9_passNumbers_3 29 rfl) (by decide)
theorem d_X9_passNumbers_126 : decode cX9_passNumbers 126 = .ok (.invokevirtual 309, 3) := zo_182 (a := 1) (b := 53) (zby_w zwX9_passNumbers_3 30 rfl) (zby_w zwX9_passNumbers_3 31 rfl) (zby_w zwX9_passNumbers_3 32 rfl) (by decide)
theorem d_X9_passNumbers_129 : decode cX9_passNumbers 129 = .ok (.putfield 151, 3) := zo_181 (a := 0) (b := 151) (zby_w zwX9_passNumbers_4 1 rfl) (zby_w zwX9_passNumbers_4 2 rfl) (zby_w zwX9_passNumbers_4 3 rfl) (by decide)
theorem d_X9_passNumbers_132 : decode cX9_passNumbers 132 = .ok (.aload_n 0, 1) := zo_42 (zby_w zwX9_passNumbers_4 4 rfl)
theorem d_X9_passNumbers_133 : decode cX9_passNumbers 133 = .ok (.aload_n 0, 1) := zo_42 (zby_w zwX9_passNumbers_4 5 rfl)
theorem d_X9_passNumbers_134 : decode cX9_passNumbers 134 = .ok (.aload_n 0, 1) := zo_42 (zby_w zwX9_passNumbers_4 6 rfl)
theorem d_X9_passNumbers_135 : decode cX9_passNumbers 135 = .ok (.getfield 154, 3) := zo_180 (a := 0) (b := 154) (zby_w zwX9_passNumbers_4 7 rfl) (zby_w zwX9_passNumbers_4 8 rfl) (zby_w zwX9_passNumbers_4 9 rfl) (by decide)
theorem d_X9_passNumbers_138 : decode cX9_passNumbers 138 = .ok (.invokevirtual 309, 3) := zo_182 (a := 1) (b := 53) (zby_w zwX9_passNumbers_4 10 rfl) (zby_w zwX9_passNumbers_4 11 rfl) (zby_w zwX9_passNumbers_4 12 rfl) (by decide)
theorem d_X9_passNumbers_141 : decode cX9_passNumbers 141 = .ok (.putfield 154, 3) := zo_181 (a := 0) (b := 154) (zby_w zwX9_passNumbers_4 13 rfl) (zby_w zwX9_passNumbers_4 14 rfl) (zby_w zwX9_passNumbers_4 15 rfl) (by decide)
theorem d_X9_passNumbers_144 : decode cX9_passNumbers 144 = .ok (.aload_n 0, 1) := zo_42 (zby_w zwX9_passNumbers_4 16 rfl)
theorem d_X9_passNumbers_145 : decode cX9_passNumbers 145 = .ok (.aload_n 0, 1) := zo_42 (zby_w zwX9_passNumbers_4 17 rfl)
theorem d_X9_passNumbers_146 : decode cX9_passNumbers 146 = .ok (.aload_n 0, 1) := zo_42 (zby_w zwX9_passNumbers_4 18 rfl)
theorem d_X9_passNumbers_147 : decode cX9_passNumbers 147 = .ok (.getfield 166, 3) := zo_180 (a := 0) (b := 166) (zby_w zwX9_passNumbers_4 19 rfl) (zby_w zwX9_passNumbers_4 20 rfl) (zby_w zwX9_passNumbers_4 21 rfl) (by decide)
theorem d_X9_passNumbers_150 : decode cX9_passNumbers 150 = .ok (.invokevirtual 309, 3) := zo_182 (a := 1) (b := 53) (zby_w zwX9_passNumbers_4 22 rfl) (zby_w zwX9_passNumbers_4 23 rfl) (zby_w zwX9_passNumbers_4 24 rfl) (by decide)
theorem d_X9_passNumbers_153 : decode cX9_passNumbers 153 = .ok (.putfield 166, 3) := zo_181 (a := 0) (b := 166) (zby_w zwX9_passNumbers_4 25 rfl) (zby_w zwX9_passNumbers_4 26 rfl) (zby_w zwX9_passNumbers_4 27 rfl) (by decide)
theorem d_X9_passNumbers_156 : decode cX9_passNumbers 156 = .ok (.aload_n 0, 1) := zo_42 (zby_w zwX9_passNumbers_4 28 rfl)
theorem d_X9_passNumbers_157 : decode cX9_passNumbers 157 = .ok (.aload_n 0, 1) := zo_42 (zby_w zwX9_passNumbers_4 29 rfl)
theorem d_X9_passNumbers_158 : decode cX9_passNumbers 158 = .ok (.aload_n 0, 1) := zo_42 (zby_w zwX9_passNumbers_4 30 rfl)
theorem d_X9_passNumbers_159 : decode cX9_passNumbers 159 = .ok (.getfield 262, 3) := zo_180 (a := 1) (b := 6) (zby_w zwX9_passNumbers_4 31 rfl) (zby_w zwX9_passNumbers_4 32 rfl) (zby_w zwX9_passNumbers_4 33 rfl) (by decide)
theorem d_X9_passNumbers_162 : decode cX9_passNumbers 162 = .ok (.invokevirtual 309, 3) := zo_182 (a := 1) (b := 53) (zby_w zwX9_passNumbers_5 2 rfl) (zby_w zwX9_passNumbers_5 3 rfl) (zby_w zwX9_passNumbers_5 4 rfl) (by decide)
theorem d_X9_passNumbers_165 : decode cX9_passNumbers 165 = .ok (.putfield 262, 3) := zo_181 (a := 1) (b := 6) (zby_w zwX9_passNumbers_5 5 rfl) (zby_w zwX9_passNumbers_5 6 rfl) (zby_w zwX9_passNumbers_5 7 rfl) (by decide)
theorem d_X9_passNumbers_168 : decode cX9_passNumbers 168 = .ok (.aload_n 0, 1) := zo_42 (zby_w zwX9_passNumbers_5 8 rfl)
theorem d_X9_passNumbers_169 : decode cX9_passNumbers 169 = .ok (.aload_n 0, 1) := zo_42 (zby_w zwX9_passNumbers_5 9 rfl)
theorem d_X9_passNumbers_170 : decode cX9_passNumbers 170 = .ok (.aload_n 0, 1) := zo_42 (zby_w zwX9_passNumbers_5 10 rfl)
theorem d_X9_passNumbers_171 : decode cX9_passNumbers 171 = .ok (.getfield 272, 3) := zo_180 (a := 1) (b := 16) (zby_w zwX9_passNumbers_5 11 rfl) (zby_w zwX9_passNumbers_5 12 rfl) (zby_w zwX9_passNumbers_5 13 rfl) (by decide)
theorem d_X9_passNumbers_174 : decode cX9_passNumbers 174 = .ok (.invokevirtual 309, 3) := zo_182 (a := 1) (b := 53) (zby_w zwX9_passNumbers_5 14 rfl) (zby_w zwX9_passNumbers_5 15 rfl) (zby_w zwX9_passNumbers_5 16 rfl) (by decide)
theorem d_X9_passNumbers_177 : decode cX9_passNumbers 177 = .ok (.putfield 272, 3) := zo_181 (a := 1) (b := 16) (zby_w zwX9_passNumbers_5 17 rfl) (zby_w zwX9_passNumbers_5 18 rfl) (zby_w zwX9_passNumbers_5 19 rfl) (by decide)
theorem d_X9_passNumbers_180 : decode cX9_passNumbers 180 = .ok (.aload_n 0, 1) := zo_42 (zby_w zwX9_passNumbers_5 20 rfl)
theorem d_X9_passNumbers_181 : decode cX9_passNumbers 181 = .ok (.aload_n 0, 1) := zo_42 (zby_w zwX9_passNumbers_5 21 rfl)
theorem d_X9_passNumbers_182 : decode cX9_passNumbers 182 = .ok (.aload_n 0, 1) := zo_42 (zby_w zwX9_passNumbers_5 22 rfl)
theorem d_X9_passNumbers_183 : decode cX9_passNumbers 183 = .ok (.getfield 297, 3) := zo_180 (a := 1) (b := 41) (zby_w zwX9_passNumbers_5 23 rfl) (zby_w zwX9_passNumbers_5 24 rfl) (zby_w zwX9_passNumbers_5 25 rfl) (by decide)
theorem d_X9_passNumbers_186 : decode cX9_passNumbers 186 = .ok (.invokevirtual 309, 3) := zo_182 (a := 1) (b := 53) (zby_w zwX9_passNumbers_5 26 rfl) (zby_w zwX9_passNumbers_5 27 rfl) (zby_w zwX9_passNumbers_5 28 rfl) (by decide)
theorem d_X9_passNumbers_189 : decode cX9_passNumbers 189 = .ok (.putfield 297, 3) := zo_181 (a := 1) (b := 41) (zby_w zwX9_passNumbers_5 29 rfl) (zby_w zwX9_passNumbers_5 30 rfl) (zby_w zwX9_passNumbers_5 31 rfl) (by decide)
theorem d_X9_passNumbers_192 : decode cX9_passNumbers 192 = .ok (.return_, 1) := zo_177 (zby_w zwX9_passNumbers_6 0 rfl)
theorem d_X9_persuaded_0 : decode cX9_persuaded 0 = .ok (.aload_n 0, 1) := zo_42 (zby_w zwX9_persuaded_0 0 rfl)
theorem d_X9_persuaded_1 : decode cX9_persuaded 1 = .ok (.iload_n 1, 1) := zo_27 (zby_w zwX9_persuaded_0 1 rfl)
theorem d_X9_persuaded_2 : decode cX9_persuaded 2 = .ok (.invokevirtual 112, 3) := zo_182 (a := 0) (b := 112) (zby_w zwX9_persuaded_0 2 rfl) (zby_w zwX9_persuaded_0 3 rfl) (zby_w zwX9_persuaded_0 4 rfl) (by decide)
theorem d_X9_persuaded_5 : decode cX9_persuaded 5 = .ok (.ifCond .ne 5, 3) := zo_154 (a := 0) (b := 5) (zby_w zwX9_persuaded_0 5 rfl) (zby_w zwX9_persuaded_0 6 rfl) (zby_w zwX9_persuaded_0 7 rfl) (by decide)
theorem d_X9_persuaded_8 : decode cX9_persuaded 8 = .ok (.iconst (-1), 1) := zo_2 (zby_w zwX9_persuaded_0 8 rfl)
theorem d_X9_persuaded_9 : decode cX9_persuaded 9 = .ok (.ireturn, 1) := zo_172 (zby_w zwX9_persuaded_0 9 rfl)
theorem d_X9_persuaded_10 : decode cX9_persuaded 10 = .ok (.iload_n 2, 1) := zo_28 (zby_w zwX9_persuaded_0 10 rfl)
theorem d_X9_persuaded_11 : decode cX9_persuaded 11 = .ok (.invokestatic 219, 3) := zo_184 (a := 0) (b := 219) (zby_w zwX9_persuaded_0 11 rfl) (zby_w zwX9_persuaded_0 12 rfl) (zby_w zwX9_persuaded_0 13 rfl) (by decide)
theorem d_X9_persuaded_14 : decode cX9_persuaded 14 = .ok (.ifCond .ne 6, 3) := zo_154 (a := 0) (b := 6) (zby_w zwX9_persuaded_0 14 rfl) (zby_w zwX9_persuaded_0 15 rfl) (zby_w zwX9_persuaded_0 16 rfl) (by decide)
theorem d_X9_persuaded_17 : decode cX9_persuaded 17 = .ok (.bipush (-2), 2) := zo_16 (a := 254) (zby_w zwX9_persuaded_0 17 rfl) (zby_w zwX9_persuaded_0 18 rfl) (by decide)
theorem d_X9_persuaded_19 : decode cX9_persuaded 19 = .ok (.ireturn, 1) := zo_172 (zby_w zwX9_persuaded_0 19 rfl)
theorem d_X9_persuaded_20 : decode cX9_persuaded 20 = .ok (.aload_n 0, 1) := zo_42 (zby_w zwX9_persuaded_0 20 rfl)
theorem d_X9_persuaded_21 : decode cX9_persuaded 21 = .ok (.iload_n 1, 1) := zo_27 (zby_w zwX9_persuaded_0 21 rfl)
theorem d_X9_persuaded_22 : decode cX9_persuaded 22 = .ok (.iload_n 2, 1) := zo_28 (zby_w zwX9_persuaded_0 22 rfl)
theorem d_X9_persuaded_23 : decode cX9_persuaded 23 = .ok (.invokevirtual 225, 3) := zo_182 (a := 0) (b := 225) (zby_w zwX9_persuaded_0 23 rfl) (zby_w zwX9_persuaded_0 24 rfl) (zby_w zwX9_persuaded_0 25 rfl) (by decide)
theorem d_X9_persuaded_26 : decode cX9_persuaded 26 = .ok (.istore_n 3, 1) := zo_62 (zby_w zwX9_persuaded_0 26 rfl)
theorem d_X9_persuaded_27 : decode cX9_persuaded 27 = .ok (.iconst 0, 1) := zo_3 (zby_w zwX9_persuaded_0 27 rfl)
theorem d_X9_persuaded_28 : decode cX9_persuaded 28 = .ok (.istore 4, 2) := zo_54 (a := 4) (zby_w zwX9_persuaded_0 28 rfl) (zby_w zwX9_persuaded_0 29 rfl) (by decide)
theorem d_X9_persuaded_30 : decode cX9_persuaded 30 = .ok (.iload 4, 2) := zo_21 (a := 4) (zby_w zwX9_persuaded_0 30 rfl) (zby_w zwX9_persuaded_0 31 rfl) (by decide)
theorem d_X9_persuaded_32 : decode cX9_persuaded 32 = .ok (.bipush 100, 2) := zo_16 (a := 100) (zby_w zwX9_persuaded_1 0 rfl) (zby_w zwX9_persuaded_1 1 rfl) (by decide)
theorem d_X9_persuaded_34 : decode cX9_persuaded 34 = .ok (.if_icmp .ge 24, 3) := zo_162 (a := 0) (b := 24) (zby_w zwX9_persuaded_1 2 rfl) (zby_w zwX9_persuaded_1 3 rfl) (zby_w zwX9_persuaded_1 4 rfl) (by decide)
theorem d_X9_persuaded_37 : decode cX9_persuaded 37 = .ok (.aload_n 0, 1) := zo_42 (zby_w zwX9_persuaded_1 5 rfl)
theorem d_X9_persuaded_38 : decode cX9_persuaded 38 = .ok (.iload_n 1, 1) := zo_27 (zby_w zwX9_persuaded_1 6 rfl)
theorem d_X9_persuaded_39 : decode cX9_persuaded 39 = .ok (.iload_n 2, 1) := zo_28 (zby_w zwX9_persuaded_1 7 rfl)
theorem d_X9_persuaded_40 : decode cX9_persuaded 40 = .ok (.iload 4, 2) := zo_21 (a := 4) (zby_w zwX9_persuaded_1 8 rfl) (zby_w zwX9_persuaded_1 9 rfl) (by decide)
theorem d_X9_persuaded_42 : decode cX9_persuaded 42 = .ok (.invokevirtual 255, 3) := zo_182 (a := 0) (b := 255) (zby_w zwX9_persuaded_1 10 rfl) (zby_w zwX9_persuaded_1 11 rfl) (zby_w zwX9_persuaded_1 12 rfl) (by decide)
theorem d_X9_persuaded_45 : decode cX9_persuaded 45 = .ok (.iload_n 3, 1) := zo_29 (zby_w zwX9_persuaded_1 13 rfl)
theorem d_X9_persuaded_46 : decode cX9_persuaded 46 = .ok (.if_icmp .ne 6, 3) := zo_160 (a := 0) (b := 6) (zby_w zwX9_persuaded_1 14 rfl) (zby_w zwX9_persuaded_1 15 rfl) (zby_w zwX9_persuaded_1 16 rfl) (by decide)
theorem d_X9_persuaded_49 : decode cX9_persuaded 49 = .ok (.iload 4, 2) := zo_21 (a := 4) (zby_w zwX9_persuaded_1 17 rfl) (zby_w zwX9_persuaded_1 18 rfl) (by decide)
theorem d_X9_persuaded_51 : decode cX9_persuaded 51 = .ok (.ireturn, 1) := zo_172 (zby_w zwX9_persuaded_1 19 rfl)
theorem d_X9_persuaded_52 : decode cX9_persuaded 52 = .ok (.iinc 4 1, 3) := by decide +kernel
theorem d_X9_persuaded_55 : decode cX9_persuaded 55 = .ok (.goto (-25), 3) := zo_167 (a := 255) (b := 231) (zby_w zwX9_persuaded_1 23 rfl) (zby_w zwX9_persuaded_1 24 rfl) (zby_w zwX9_persuaded_1 25 rfl) (by decide)
theorem d_X9_persuaded_58 : decode cX9_persuaded 58 = .ok (.bipush (-6), 2) := zo_16 (a := 250) (zby_w zwX9_persuaded_1 26 rfl) (zby_w zwX9_persuaded_1 27 rfl) (by decide)
theorem d_X9_persuaded_60 : decode cX9_persuaded 60 = .ok (.ireturn, 1) := zo_172 (zby_w zwX9_persuaded_1 28 rfl)
theorem d_X9_power_0 : decode cX9_power 0 = .ok (.lconst 1, 1) := zo_10 (zby_w zwX9_power_0 0 rfl)
theorem d_X9_power_1 : decode cX9_power 1 = .ok (.lstore_n 2, 1) := zo_65 (zby_w zwX9_power_0 1 rfl)
theorem d_X9_power_2 : decode cX9_power 2 = .ok (.iconst 0, 1) := zo_3 (zby_w zwX9_power_0 2 rfl)
theorem d_X9_power_3 : decode cX9_power 3 = .ok (.istore 4, 2) := zo_54 (a := 4) (zby_w zwX9_power_0 3 rfl) (zby_w zwX9_power_0 4 rfl) (by decide)
theorem d_X9_power_5 : decode cX9_power 5 = .ok (.iload 4, 2) := zo_21 (a := 4) (zby_w zwX9_power_0 5 rfl) (zby_w zwX9_power_0 6 rfl) (by decide)
theorem d_X9_power_7 : decode cX9_power 7 = .ok (.iload_n 1, 1) := zo_27 (zby_w zwX9_power_0 7 rfl)
theorem d_X9_power_8 : decode cX9_power 8 = .ok (.if_icmp .ge 14, 3) := zo_162 (a := 0) (b := 14) (zby_w zwX9_power_0 8 rfl) (zby_w zwX9_power_0 9 rfl) (zby_w zwX9_power_0 10 rfl) (by decide)
theorem d_X9_power_11 : decode cX9_power 11 = .ok (.lload_n 2, 1) := zo_32 (zby_w zwX9_power_0 11 rfl)
theorem d_X9_power_12 : decode cX9_power 12 = .ok (.iload_n 0, 1) := zo_26 (zby_w zwX9_power_0 12 rfl)
theorem d_X9_power_13 : decode cX9_power 13 = .ok (.i2l, 1) := zo_133 (zby_w zwX9_power_0 13 rfl)
theorem d_X9_power_14 : decode cX9_power 14 = .ok (.lmul, 1) := zo_105 (zby_w zwX9_power_0 14 rfl)
theorem d_X9_power_15 : decode cX9_power 15 = .ok (.lstore_n 2, 1) := zo_65 (zby_w zwX9_power_0 15 rfl)
theorem d_X9_power_16 : decode cX9_power 16 = .ok (.iinc 4 1, 3) := by decide +kernel
theorem d_X9_power_19 : decode cX9_power 19 = .ok (.goto (-14), 3) := zo_167 (a := 255) (b := 242) (zby_w zwX9_power_0 19 rfl) (zby_w zwX9_power_0 20 rfl) (zby_w zwX9_power_0 21 rfl) (by decide)
theorem d_X9_power_22 : decode cX9_power 22 = .ok (.lload_n 2, 1) := zo_32 (zby_w zwX9_power_0 22 rfl)
theorem d_X9_power_23 : decode cX9_power 23 = .ok (.lreturn, 1) := zo_173 (zby_w zwX9_power_0 23 rfl)
theorem d_X9_premiums_0 : decode cX9_premiums 0 = .ok (.iconst 0, 1) := zo_3 (zby_w zwX9_premiums_0 0 rfl)
theorem d_X9_premiums_1 : decode cX9_premiums 1 = .ok (.istore_n 2, 1) := zo_61 (zby_w zwX9_premiums_0 1 rfl)
theorem d_X9_premiums_2 : decode cX9_premiums 2 = .ok (.iconst 0, 1) := zo_3 (zby_w zwX9_premiums_0 2 rfl)
theorem d_X9_premiums_3 : decode cX9_premiums 3 = .ok (.istore_n 3, 1) := zo_62 (zby_w zwX9_premiums_0 3 rfl)
theorem d_X9_premiums_4 : decode cX9_premiums 4 = .ok (.iload_n 3, 1) := zo_29 (zby_w zwX9_premiums_0 4 rfl)
theorem d_X9_premiums_5 : decode cX9_premiums 5 = .ok (.iconst 4, 1) := zo_7 (zby_w zwX9_premiums_0 5 rfl)
theorem d_X9_premiums_6 : decode cX9_premiums 6 = .ok (.if_icmp .ge 31, 3) := zo_162 (a := 0) (b := 31) (zby_w zwX9_premiums_0 6 rfl) (zby_w zwX9_premiums_0 7 rfl) (zby_w zwX9_premiums_0 8 rfl) (by decide)
theorem d_X9_premiums_9 : decode cX9_premiums 9 = .ok (.iload_n 2, 1) := zo_28 (zby_w zwX9_premiums_0 9 rfl)
theorem d_X9_premiums_10 : decode cX9_premiums 10 = .ok (.iload_n 1, 1) := zo_27 (zby_w zwX9_premiums_0 10 rfl)
theorem d_X9_premiums_11 : decode cX9_premiums 11 = .ok (.iload_n 3, 1) := zo_29 (zby_w zwX9_premiums_0 11 rfl)
theorem d_X9_premiums_12 : decode cX9_premiums 12 = .ok (.ishr, 1) := zo_122 (zby_w zwX9_premiums_0 12 rfl)
theorem d_X9_premiums_13 : decode cX9_premiums 13 = .ok (.iconst 1, 1) := zo_4 (zby_w zwX9_premiums_0 13 rfl)
theorem d_X9_premiums_14 : decode cX9_premiums 14 = .ok (.iand, 1) := zo_126 (zby_w zwX9_premiums_0 14 rfl)
theorem d_X9_premiums_15 : decode cX9_premiums 15 = .ok (.iconst 1, 1) := zo_4 (zby_w zwX9_premiums_0 15 rfl)
theorem d_X9_premiums_16 : decode cX9_premiums 16 = .ok (.if_icmp .ne 12, 3) := zo_160 (a := 0) (b := 12) (zby_w zwX9_premiums_0 16 rfl) (zby_w zwX9_premiums_0 17 rfl) (zby_w zwX9_premiums_0 18 rfl) (by decide)
theorem d_X9_premiums_19 : decode cX9_premiums 19 = .ok (.aload_n 0, 1) := zo_42 (zby_w zwX9_premiums_0 19 rfl)
theorem d_X9_premiums_20 : decode cX9_premiums 20 = .ok (.getfield 25, 3) := zo_180 (a := 0) (b := 25) (zby_w zwX9_premiums_0 20 rfl) (zby_w zwX9_premiums_0 21 rfl) (zby_w zwX9_premiums_0 22 rfl) (by decide)
theorem d_X9_premiums_23 : decode cX9_premiums 23 = .ok (.iload_n 3, 1) := zo_29 (zby_w zwX9_premiums_0 23 rfl)
theorem d_X9_premiums_24 : decode cX9_premiums 24 = .ok (.iaload, 1) := zo_46 (zby_w zwX9_premiums_0 24 rfl)
theorem d_X9_premiums_25 : decode cX9_premiums 25 = .ok (.goto 4, 3) := zo_167 (a := 0) (b := 4) (zby_w zwX9_premiums_0 25 rfl) (zby_w zwX9_premiums_0 26 rfl) (zby_w zwX9_premiums_0 27 rfl) (by decide)
theorem d_X9_premiums_28 : decode cX9_premiums 28 = .ok (.iconst 0, 1) := zo_3 (zby_w zwX9_premiums_0 28 rfl)
theorem d_X9_premiums_29 : decode cX9_premiums 29 = .ok (.iadd, 1) := zo_96 (zby_w zwX9_premiums_0 29 rfl)
theorem d_X9_premiums_30 : decode cX9_premiums 30 = .ok (.istore_n 2, 1) := zo_61 (zby_w zwX9_premiums_0 30 rfl)
theorem d_X9_premiums_31 : decode cX9_premiums 31 = .ok (.iinc 3 1, 3) := by decide +kernel
theorem d_X9_premiums_34 : decode cX9_premiums 34 = .ok (.goto (-30), 3) := zo_167 (a := 255) (b := 226) (zby_w zwX9_premiums_1 2 rfl) (zby_w zwX9_premiums_1 3 rfl) (zby_w zwX9_premiums_1 4 rfl) (by decide)
theorem d_X9_premiums_37 : decode cX9_premiums 37 = .ok (.iload_n 2, 1) := zo_28 (zby_w zwX9_premiums_1 5 rfl)
theorem d_X9_premiums_38 : decode cX9_premiums 38 = .ok (.ireturn, 1) := zo_172 (zby_w zwX9_premiums_1 6 rfl)
theorem d_X9_putBack_0 : decode cX9_putBack 0 = .ok (.iconst 0, 1) := zo_3 (zby_w zwX9_putBack_0 0 rfl)
theorem d_X9_putBack_1 : decode cX9_putBack 1 = .ok (.istore_n 1, 1) := zo_60 (zby_w zwX9_putBack_0 1 rfl)
theorem d_X9_putBack_2 : decode cX9_putBack 2 = .ok (.iload_n 1, 1) := zo_27 (zby_w zwX9_putBack_0 2 rfl)
theorem d_X9_putBack_3 : decode cX9_putBack 3 = .ok (.bipush 6, 2) := zo_16 (a := 6) (zby_w zwX9_putBack_0 3 rfl) (zby_w zwX9_putBack_0 4 rfl) (by decide)
theorem d_X9_putBack_5 : decode cX9_putBack 5 = .ok (.if_icmp .ge 66, 3) := zo_162 (a := 0) (b := 66) (zby_w zwX9_putBack_0 5 rfl) (zby_w zwX9_putBack_0 6 rfl) (zby_w zwX9_putBack_0 7 rfl) (by decide)
theorem d_X9_putBack_8 : decode cX9_putBack 8 = .ok (.aload_n 0, 1) := zo_42 (zby_w zwX9_putBack_0 8 rfl)
theorem d_X9_putBack_9 : decode cX9_putBack 9 = .ok (.getfield 7, 3) := zo_180 (a := 0) (b := 7) (zby_w zwX9_putBack_0 9 rfl) (zby_w zwX9_putBack_0 10 rfl) (zby_w zwX9_putBack_0 11 rfl) (by decide)
theorem d_X9_putBack_12 : decode cX9_putBack 12 = .ok (.iload_n 1, 1) := zo_27 (zby_w zwX9_putBack_0 12 rfl)
theorem d_X9_putBack_13 : decode cX9_putBack 13 = .ok (.aload_n 0, 1) := zo_42 (zby_w zwX9_putBack_0 13 rfl)
theorem d_X9_putBack_14 : decode cX9_putBack 14 = .ok (.getfield 43, 3) := zo_180 (a := 0) (b := 43) (zby_w zwX9_putBack_0 14 rfl) (zby_w zwX9_putBack_0 15 rfl) (zby_w zwX9_putBack_0 16 rfl) (by decide)
theorem d_X9_putBack_17 : decode cX9_putBack 17 = .ok (.iload_n 1, 1) := zo_27 (zby_w zwX9_putBack_0 17 rfl)
theorem d_X9_putBack_18 : decode cX9_putBack 18 = .ok (.iaload, 1) := zo_46 (zby_w zwX9_putBack_0 18 rfl)
theorem d_X9_putBack_19 : decode cX9_putBack 19 = .ok (.iastore, 1) := zo_79 (zby_w zwX9_putBack_0 19 rfl)
theorem d_X9_putBack_20 : decode cX9_putBack 20 = .ok (.aload_n 0, 1) := zo_42 (zby_w zwX9_putBack_0 20 rfl)
theorem d_X9_putBack_21 : decode cX9_putBack 21 = .ok (.getfield 13, 3) := zo_180 (a := 0) (b := 13) (zby_w zwX9_putBack_0 21 rfl) (zby_w zwX9_putBack_0 22 rfl) (zby_w zwX9_putBack_0 23 rfl) (by decide)
theorem d_X9_putBack_24 : decode cX9_putBack 24 = .ok (.iload_n 1, 1) := zo_27 (zby_w zwX9_putBack_0 24 rfl)
theorem d_X9_putBack_25 : decode cX9_putBack 25 = .ok (.aload_n 0, 1) := zo_42 (zby_w zwX9_putBack_0 25 rfl)
theorem d_X9_putBack_26 : decode cX9_putBack 26 = .ok (.getfield 43, 3) := zo_180 (a := 0) (b := 43) (zby_w zwX9_putBack_0 26 rfl) (zby_w zwX9_putBack_0 27 rfl) (zby_w zwX9_putBack_0 28 rfl) (by decide)
theorem d_X9_putBack_29 : decode cX9_putBack 29 = .ok (.bipush 6, 2) := zo_16 (a := 6) (zby_w zwX9_putBack_0 29 rfl) (zby_w zwX9_putBack_0 30 rfl) (by decide)
theorem d_X9_putBack_31 : decode cX9_putBack 31 = .ok (.iload_n 1, 1) := zo_27 (zby_w zwX9_putBack_0 31 rfl)
theorem d_X9_putBack_32 : decode cX9_putBack 32 = .ok (.iadd, 1) := zo_96 (zby_w zwX9_putBack_1 0 rfl)
theorem d_X9_putBack_33 : decode cX9_putBack 33 = .ok (.iaload, 1) := zo_46 (zby_w zwX9_putBack_1 1 rfl)
theorem d_X9_putBack_34 : decode cX9_putBack 34 = .ok (.iastore, 1) := zo_79 (zby_w zwX9_putBack_1 2 rfl)
theorem d_X9_putBack_35 : decode cX9_putBack 35 = .ok (.aload_n 0, 1) := zo_42 (zby_w zwX9_putBack_1 3 rfl)
theorem d_X9_putBack_36 : decode cX9_putBack 36 = .ok (.getfield 16, 3) := zo_180 (a := 0) (b := 16) (zby_w zwX9_putBack_1 4 rfl) (zby_w zwX9_putBack_1 5 rfl) (zby_w zwX9_putBack_1 6 rfl) (by decide)
theorem d_X9_putBack_39 : decode cX9_putBack 39 = .ok (.iload_n 1, 1) := zo_27 (zby_w zwX9_putBack_1 7 rfl)
theorem d_X9_putBack_40 : decode cX9_putBack 40 = .ok (.aload_n 0, 1) := zo_42 (zby_w zwX9_putBack_1 8 rfl)
theorem d_X9_putBack_41 : decode cX9_putBack 41 = .ok (.getfield 43, 3) := zo_180 (a := 0) (b := 43) (zby_w zwX9_putBack_1 9 rfl) (zby_w zwX9_putBack_1 10 rfl) (zby_w zwX9_putBack_1 11 rfl) (by decide)
theorem d_X9_putBack_44 : decode cX9_putBack 44 = .ok (.bipush 12, 2) := zo_16 (a := 12) (zby_w zwX9_putBack_1 12 rfl) (zby_w zwX9_putBack_1 13 rfl) (by decide)
theorem d_X9_putBack_46 : decode cX9_putBack 46 = .ok (.iload_n 1, 1) := zo_27 (zby_w zwX9_putBack_1 14 rfl)
theorem d_X9_putBack_47 : decode cX9_putBack 47 = .ok (.iadd, 1) := zo_96 (zby_w zwX9_putBack_1 15 rfl)
theorem d_X9_putBack_48 : decode cX9_putBack 48 = .ok (.iaload, 1) := zo_46 (zby_w zwX9_putBack_1 16 rfl)
theorem d_X9_putBack_49 : decode cX9_putBack 49 = .ok (.iastore, 1) := zo_79 (zby_w zwX9_putBack_1 17 rfl)
theorem d_X9_putBack_50 : decode cX9_putBack 50 = .ok (.aload_n 0, 1) := zo_42 (zby_w zwX9_putBack_1 18 rfl)
theorem d_X9_putBack_51 : decode cX9_putBack 51 = .ok (.getfield 19, 3) := zo_180 (a := 0) (b := 19) (zby_w zwX9_putBack_1 19 rfl) (zby_w zwX9_putBack_1 20 rfl) (zby_w zwX9_putBack_1 21 rfl) (by decide)
theorem d_X9_putBack_54 : decode cX9_putBack 54 = .ok (.iload_n 1, 1) := zo_27 (zby_w zwX9_putBack_1 22 rfl)
theorem d_X9_putBack_55 : decode cX9_putBack 55 = .ok (.aload_n 0, 1) := zo_42 (zby_w zwX9_putBack_1 23 rfl)
theorem d_X9_putBack_56 : decode cX9_putBack 56 = .ok (.getfield 43, 3) := zo_180 (a := 0) (b := 43) (zby_w zwX9_putBack_1 24 rfl) (zby_w zwX9_putBack_1 25 rfl) (zby_w zwX9_putBack_1 26 rfl) (by decide)
theorem d_X9_putBack_59 : decode cX9_putBack 59 = .ok (.bipush 18, 2) := zo_16 (a := 18) (zby_w zwX9_putBack_1 27 rfl) (zby_w zwX9_putBack_1 28 rfl) (by decide)
theorem d_X9_putBack_61 : decode cX9_putBack 61 = .ok (.iload_n 1, 1) := zo_27 (zby_w zwX9_putBack_1 29 rfl)
theorem d_X9_putBack_62 : decode cX9_putBack 62 = .ok (.iadd, 1) := zo_96 (zby_w zwX9_putBack_1 30 rfl)
theorem d_X9_putBack_63 : decode cX9_putBack 63 = .ok (.iaload, 1) := zo_46 (zby_w zwX9_putBack_1 31 rfl)
theorem d_X9_putBack_64 : decode cX9_putBack 64 = .ok (.iastore, 1) := zo_79 (zby_w zwX9_putBack_2 0 rfl)
theorem d_X9_putBack_65 : decode cX9_putBack 65 = .ok (.iinc 1 1, 3) := by decide +kernel
theorem d_X9_putBack_68 : decode cX9_putBack 68 = .ok (.goto (-66), 3) := zo_167 (a := 255) (b := 190) (zby_w zwX9_putBack_2 4 rfl) (zby_w zwX9_putBack_2 5 rfl) (zby_w zwX9_putBack_2 6 rfl) (by decide)
theorem d_X9_putBack_71 : decode cX9_putBack 71 = .ok (.aload_n 0, 1) := zo_42 (zby_w zwX9_putBack_2 7 rfl)
theorem d_X9_putBack_72 : decode cX9_putBack 72 = .ok (.aload_n 0, 1) := zo_42 (zby_w zwX9_putBack_2 8 rfl)
theorem d_X9_putBack_73 : decode cX9_putBack 73 = .ok (.getfield 43, 3) := zo_180 (a := 0) (b := 43) (zby_w zwX9_putBack_2 9 rfl) (zby_w zwX9_putBack_2 10 rfl) (zby_w zwX9_putBack_2 11 rfl) (by decide)
theorem d_X9_putBack_76 : decode cX9_putBack 76 = .ok (.bipush 24, 2) := zo_16 (a := 24) (zby_w zwX9_putBack_2 12 rfl) (zby_w zwX9_putBack_2 13 rfl) (by decide)
theorem d_X9_putBack_78 : decode cX9_putBack 78 = .ok (.iaload, 1) := zo_46 (zby_w zwX9_putBack_2 14 rfl)
theorem d_X9_putBack_79 : decode cX9_putBack 79 = .ok (.putfield 81, 3) := zo_181 (a := 0) (b := 81) (zby_w zwX9_putBack_2 15 rfl) (zby_w zwX9_putBack_2 16 rfl) (zby_w zwX9_putBack_2 17 rfl) (by decide)
theorem d_X9_putBack_82 : decode cX9_putBack 82 = .ok (.aload_n 0, 1) := zo_42 (zby_w zwX9_putBack_2 18 rfl)
theorem d_X9_putBack_83 : decode cX9_putBack 83 = .ok (.aload_n 0, 1) := zo_42 (zby_w zwX9_putBack_2 19 rfl)
theorem d_X9_putBack_84 : decode cX9_putBack 84 = .ok (.getfield 43, 3) := zo_180 (a := 0) (b := 43) (zby_w zwX9_putBack_2 20 rfl) (zby_w zwX9_putBack_2 21 rfl) (zby_w zwX9_putBack_2 22 rfl) (by decide)
theorem d_X9_putBack_87 : decode cX9_putBack 87 = .ok (.bipush 25, 2) := zo_16 (a := 25) (zby_w zwX9_putBack_2 23 rfl) (zby_w zwX9_putBack_2 24 rfl) (by decide)
theorem d_X9_putBack_89 : decode cX9_putBack 89 = .ok (.iaload, 1) := zo_46 (zby_w zwX9_putBack_2 25 rfl)
theorem d_X9_putBack_90 : decode cX9_putBack 90 = .ok (.putfield 151, 3) := zo_181 (a := 0) (b := 151) (zby_w zwX9_putBack_2 26 rfl) (zby_w zwX9_putBack_2 27 rfl) (zby_w zwX9_putBack_2 28 rfl) (by decide)
theorem d_X9_putBack_93 : decode cX9_putBack 93 = .ok (.aload_n 0, 1) := zo_42 (zby_w zwX9_putBack_2 29 rfl)
theorem d_X9_putBack_94 : decode cX9_putBack 94 = .ok (.aload_n 0, 1) := zo_42 (zby_w zwX9_putBack_2 30 rfl)
theorem d_X9_putBack_95 : decode cX9_putBack 95 = .ok (.getfield 43, 3) := zo_180 (a := 0) (b := 43) (zby_w zwX9_putBack_2 31 rfl) (zby_w zwX9_putBack_2 32 rfl) (zby_w zwX9_putBack_2 33 rfl) (by decide)
theorem d_X9_putBack_98 : decode cX9_putBack 98 = .ok (.bipush 26, 2) := zo_16 (a := 26) (zby_w zwX9_putBack_3 2 rfl) (zby_w zwX9_putBack_3 3 rfl) (by decide)
theorem d_X9_putBack_100 : decode cX9_putBack 100 = .ok (.iaload, 1) := zo_46 (zby_w zwX9_putBack_3 4 rfl)
theorem d_X9_putBack_101 : decode cX9_putBack 101 = .ok (.putfield 154, 3) := zo_181 (a := 0) (b := 154) (zby_w zwX9_putBack_3 5 rfl) (zby_w zwX9_putBack_3 6 rfl) (zby_w zwX9_putBack_3 7 rfl) (by decide)
theorem d_X9_putBack_104 : decode cX9_putBack 104 = .ok (.aload_n 0, 1) := zo_42 (zby_w zwX9_putBack_3 8 rfl)
theorem d_X9_putBack_105 : decode cX9_putBack 105 = .ok (.aload_n 0, 1) := zo_42 (zby_w zwX9_putBack_3 9 rfl)
theorem d_X9_putBack_106 : decode cX9_putBack 106 = .ok (.getfield 43, 3) := zo_180 (a := 0) (b := 43) (zby_w zwX9_putBack_3 10 rfl) (zby_w zwX9_putBack_3 11 rfl) (zby_w zwX9_putBack_3 12 rfl) (by decide)
theorem d_X9_putBack_109 : decode cX9_putBack 109 = .ok (.bipush 27, 2) := zo_16 (a := 27) (zby_w zwX9_putBack_3 13 rfl) (zby_w zwX9_putBack_3 14 rfl) (by decide)
theorem d_X9_putBack_111 : decode cX9_putBack 111 = .ok (.iaload, 1) := zo_46 (zby_w zwX9_putBack_3 15 rfl)
theorem d_X9_putBack_112 : decode cX9_putBack 112 = .ok (.putfield 166, 3) := zo_181 (a := 0) (b := 166) (zby_w zwX9_putBack_3 16 rfl) (zby_w zwX9_putBack_3 17 rfl) (zby_w zwX9_putBack_3 18 rfl) (by decide)
theorem d_X9_putBack_115 : decode cX9_putBack 115 = .ok (.return_, 1) := zo_177 (zby_w zwX9_putBack_3 19 rfl)
theorem d_X9_restore_0 : decode cX9_restore 0 = .ok (.iload_n 1, 1) := zo_27 (zby_w zwX9_restore_0 0 rfl)
theorem d_X9_restore_1 : decode cX9_restore 1 = .ok (.i2l, 1) := zo_133 (zby_w zwX9_restore_0 1 rfl)
theorem d_X9_restore_2 : decode cX9_restore 2 = .ok (.lconst 0, 1) := zo_9 (zby_w zwX9_restore_0 2 rfl)
theorem d_X9_restore_3 : decode cX9_restore 3 = .ok (.lconst 1, 1) := zo_10 (zby_w zwX9_restore_0 3 rfl)
theorem d_X9_restore_4 : decode cX9_restore 4 = .ok (.invokestatic 89, 3) := zo_184 (a := 0) (b := 89) (zby_w zwX9_restore_0 4 rfl) (zby_w zwX9_restore_0 5 rfl) (zby_w zwX9_restore_0 6 rfl) (by decide)
theorem d_X9_restore_7 : decode cX9_restore 7 = .ok (.ifCond .ne 6, 3) := zo_154 (a := 0) (b := 6) (zby_w zwX9_restore_0 7 rfl) (zby_w zwX9_restore_0 8 rfl) (zby_w zwX9_restore_0 9 rfl) (by decide)
theorem d_X9_restore_10 : decode cX9_restore 10 = .ok (.bipush (-2), 2) := zo_16 (a := 254) (zby_w zwX9_restore_0 10 rfl) (zby_w zwX9_restore_0 11 rfl) (by decide)
theorem d_X9_restore_12 : decode cX9_restore 12 = .ok (.ireturn, 1) := zo_172 (zby_w zwX9_restore_0 12 rfl)
theorem d_X9_restore_13 : decode cX9_restore 13 = .ok (.aload_n 0, 1) := zo_42 (zby_w zwX9_restore_0 13 rfl)
theorem d_X9_restore_14 : decode cX9_restore 14 = .ok (.getfield 58, 3) := zo_180 (a := 0) (b := 58) (zby_w zwX9_restore_0 14 rfl) (zby_w zwX9_restore_0 15 rfl) (zby_w zwX9_restore_0 16 rfl) (by decide)
theorem d_X9_restore_17 : decode cX9_restore 17 = .ok (.iload_n 1, 1) := zo_27 (zby_w zwX9_restore_0 17 rfl)
theorem d_X9_restore_18 : decode cX9_restore 18 = .ok (.baload, 1) := zo_51 (zby_w zwX9_restore_0 18 rfl)
theorem d_X9_restore_19 : decode cX9_restore 19 = .ok (.ifCond .ne 6, 3) := zo_154 (a := 0) (b := 6) (zby_w zwX9_restore_0 19 rfl) (zby_w zwX9_restore_0 20 rfl) (zby_w zwX9_restore_0 21 rfl) (by decide)
theorem d_X9_restore_22 : decode cX9_restore 22 = .ok (.bipush (-3), 2) := zo_16 (a := 253) (zby_w zwX9_restore_0 22 rfl) (zby_w zwX9_restore_0 23 rfl) (by decide)
theorem d_X9_restore_24 : decode cX9_restore 24 = .ok (.ireturn, 1) := zo_172 (zby_w zwX9_restore_0 24 rfl)
theorem d_X9_restore_25 : decode cX9_restore 25 = .ok (.aload_n 0, 1) := zo_42 (zby_w zwX9_restore_0 25 rfl)
theorem d_X9_restore_26 : decode cX9_restore 26 = .ok (.bipush 120, 2) := zo_16 (a := 120) (zby_w zwX9_restore_0 26 rfl) (zby_w zwX9_restore_0 27 rfl) (by decide)
theorem d_X9_restore_28 : decode cX9_restore 28 = .ok (.iload_n 1, 1) := zo_27 (zby_w zwX9_restore_0 28 rfl)
theorem d_X9_restore_29 : decode cX9_restore 29 = .ok (.imul, 1) := zo_104 (zby_w zwX9_restore_0 29 rfl)
theorem d_X9_restore_30 : decode cX9_restore 30 = .ok (.putfield 306, 3) := zo_181 (a := 1) (b := 50) (zby_w zwX9_restore_0 30 rfl) (zby_w zwX9_restore_0 31 rfl) (zby_w zwX9_restore_0 32 rfl) (by decide)
theorem d_X9_restore_33 : decode cX9_restore 33 = .ok (.aload_n 0, 1) := zo_42 (zby_w zwX9_restore_1 1 rfl)
theorem d_X9_restore_34 : decode cX9_restore 34 = .ok (.iconst 0, 1) := zo_3 (zby_w zwX9_restore_1 2 rfl)
theorem d_X9_restore_35 : decode cX9_restore 35 = .ok (.putfield 302, 3) := zo_181 (a := 1) (b := 46) (zby_w zwX9_restore_1 3 rfl) (zby_w zwX9_restore_1 4 rfl) (zby_w zwX9_restore_1 5 rfl) (by decide)
theorem d_X9_restore_38 : decode cX9_restore 38 = .ok (.aload_n 0, 1) := zo_42 (zby_w zwX9_restore_1 6 rfl)
theorem d_X9_restore_39 : decode cX9_restore 39 = .ok (.invokevirtual 315, 3) := zo_182 (a := 1) (b := 59) (zby_w zwX9_restore_1 7 rfl) (zby_w zwX9_restore_1 8 rfl) (zby_w zwX9_restore_1 9 rfl) (by decide)
theorem d_X9_restore_42 : decode cX9_restore 42 = .ok (.iconst 1, 1) := zo_4 (zby_w zwX9_restore_1 10 rfl)
theorem d_X9_restore_43 : decode cX9_restore 43 = .ok (.ireturn, 1) := zo_172 (zby_w zwX9_restore_1 11 rfl)
theorem d_X9_roll_0 : decode cX9_roll 0 = .ok (.iload_n 1, 1) := zo_27 (zby_w zwX9_roll_0 0 rfl)
theorem d_X9_roll_1 : decode cX9_roll 1 = .ok (.i2l, 1) := zo_133 (zby_w zwX9_roll_0 1 rfl)
theorem d_X9_roll_2 : decode cX9_roll 2 = .ok (.lconst 0, 1) := zo_9 (zby_w zwX9_roll_0 2 rfl)
theorem d_X9_roll_3 : decode cX9_roll 3 = .ok (.ldc2_w 295, 3) := zo_20 (a := 1) (b := 39) (zby_w zwX9_roll_0 3 rfl) (zby_w zwX9_roll_0 4 rfl) (zby_w zwX9_roll_0 5 rfl) (by decide)
theorem d_X9_roll_6 : decode cX9_roll 6 = .ok (.invokestatic 89, 3) := zo_184 (a := 0) (b := 89) (zby_w zwX9_roll_0 6 rfl) (zby_w zwX9_roll_0 7 rfl) (zby_w zwX9_roll_0 8 rfl) (by decide)
theorem d_X9_roll_9 : decode cX9_roll 9 = .ok (.ifCond .eq 19, 3) := zo_153 (a := 0) (b := 19) (zby_w zwX9_roll_0 9 rfl) (zby_w zwX9_roll_0 10 rfl) (zby_w zwX9_roll_0 11 rfl) (by decide)
theorem d_X9_roll_12 : decode cX9_roll 12 = .ok (.iload_n 2, 1) := zo_28 (zby_w zwX9_roll_0 12 rfl)
theorem d_X9_roll_13 : decode cX9_roll 13 = .ok (.i2l, 1) := zo_133 (zby_w zwX9_roll_0 13 rfl)
theorem d_X9_roll_14 : decode cX9_roll 14 = .ok (.iload_n 1, 1) := zo_27 (zby_w zwX9_roll_0 14 rfl)
theorem d_X9_roll_15 : decode cX9_roll 15 = .ok (.invokestatic 108, 3) := zo_184 (a := 0) (b := 108) (zby_w zwX9_roll_0 15 rfl) (zby_w zwX9_roll_0 16 rfl) (zby_w zwX9_roll_0 17 rfl) (by decide)
theorem d_X9_roll_18 : decode cX9_roll 18 = .ok (.i2l, 1) := zo_133 (zby_w zwX9_roll_0 18 rfl)
theorem d_X9_roll_19 : decode cX9_roll 19 = .ok (.ldc2_w 286, 3) := zo_20 (a := 1) (b := 30) (zby_w zwX9_roll_0 19 rfl) (zby_w zwX9_roll_0 20 rfl) (zby_w zwX9_roll_0 21 rfl) (by decide)
theorem d_X9_roll_22 : decode cX9_roll 22 = .ok (.invokestatic 89, 3) := zo_184 (a := 0) (b := 89) (zby_w zwX9_roll_0 22 rfl) (zby_w zwX9_roll_0 23 rfl) (zby_w zwX9_roll_0 24 rfl) (by decide)
theorem d_X9_roll_25 : decode cX9_roll 25 = .ok (.ifCond .ne 6, 3) := zo_154 (a := 0) (b := 6) (zby_w zwX9_roll_0 25 rfl) (zby_w zwX9_roll_0 26 rfl) (zby_w zwX9_roll_0 27 rfl) (by decide)
theorem d_X9_roll_28 : decode cX9_roll 28 = .ok (.bipush (-2), 2) := zo_16 (a := 254) (zby_w zwX9_roll_0 28 rfl) (zby_w zwX9_roll_0 29 rfl) (by decide)
theorem d_X9_roll_30 : decode cX9_roll 30 = .ok (.ireturn, 1) := zo_172 (zby_w zwX9_roll_0 30 rfl)
theorem d_X9_roll_31 : decode cX9_roll 31 = .ok (.aload_n 0, 1) := zo_42 (zby_w zwX9_roll_0 31 rfl)
theorem d_X9_roll_32 : decode cX9_roll 32 = .ok (.getfield 297, 3) := zo_180 (a := 1) (b := 41) (zby_w zwX9_roll_1 0 rfl) (zby_w zwX9_roll_1 1 rfl) (zby_w zwX9_roll_1 2 rfl) (by decide)
theorem d_X9_roll_35 : decode cX9_roll 35 = .ok (.bipush 6, 2) := zo_16 (a := 6) (zby_w zwX9_roll_1 3 rfl) (zby_w zwX9_roll_1 4 rfl) (by decide)
theorem d_X9_roll_37 : decode cX9_roll 37 = .ok (.if_icmp .ne 6, 3) := zo_160 (a := 0) (b := 6) (zby_w zwX9_roll_1 5 rfl) (zby_w zwX9_roll_1 6 rfl) (zby_w zwX9_roll_1 7 rfl) (by decide)
theorem d_X9_roll_40 : decode cX9_roll 40 = .ok (.bipush (-4), 2) := zo_16 (a := 252) (zby_w zwX9_roll_1 8 rfl) (zby_w zwX9_roll_1 9 rfl) (by decide)
theorem d_X9_roll_42 : decode cX9_roll 42 = .ok (.ireturn, 1) := zo_172 (zby_w zwX9_roll_1 10 rfl)
theorem d_X9_roll_43 : decode cX9_roll 43 = .ok (.aload_n 0, 1) := zo_42 (zby_w zwX9_roll_1 11 rfl)
theorem d_X9_roll_44 : decode cX9_roll 44 = .ok (.getfield 34, 3) := zo_180 (a := 0) (b := 34) (zby_w zwX9_roll_1 12 rfl) (zby_w zwX9_roll_1 13 rfl) (zby_w zwX9_roll_1 14 rfl) (by decide)
theorem d_X9_roll_47 : decode cX9_roll 47 = .ok (.aload_n 0, 1) := zo_42 (zby_w zwX9_roll_1 15 rfl)
theorem d_X9_roll_48 : decode cX9_roll 48 = .ok (.getfield 297, 3) := zo_180 (a := 1) (b := 41) (zby_w zwX9_roll_1 16 rfl) (zby_w zwX9_roll_1 17 rfl) (zby_w zwX9_roll_1 18 rfl) (by decide)
theorem d_X9_roll_51 : decode cX9_roll 51 = .ok (.iload_n 1, 1) := zo_27 (zby_w zwX9_roll_1 19 rfl)
theorem d_X9_roll_52 : decode cX9_roll 52 = .ok (.iastore, 1) := zo_79 (zby_w zwX9_roll_1 20 rfl)
theorem d_X9_roll_53 : decode cX9_roll 53 = .ok (.aload_n 0, 1) := zo_42 (zby_w zwX9_roll_1 21 rfl)
theorem d_X9_roll_54 : decode cX9_roll 54 = .ok (.getfield 37, 3) := zo_180 (a := 0) (b := 37) (zby_w zwX9_roll_1 22 rfl) (zby_w zwX9_roll_1 23 rfl) (zby_w zwX9_roll_1 24 rfl) (by decide)
theorem d_X9_roll_57 : decode cX9_roll 57 = .ok (.aload_n 0, 1) := zo_42 (zby_w zwX9_roll_1 25 rfl)
theorem d_X9_roll_58 : decode cX9_roll 58 = .ok (.getfield 297, 3) := zo_180 (a := 1) (b := 41) (zby_w zwX9_roll_1 26 rfl) (zby_w zwX9_roll_1 27 rfl) (zby_w zwX9_roll_1 28 rfl) (by decide)
theorem d_X9_roll_61 : decode cX9_roll 61 = .ok (.iload_n 2, 1) := zo_28 (zby_w zwX9_roll_1 29 rfl)
theorem d_X9_roll_62 : decode cX9_roll 62 = .ok (.iastore, 1) := zo_79 (zby_w zwX9_roll_1 30 rfl)
theorem d_X9_roll_63 : decode cX9_roll 63 = .ok (.aload_n 0, 1) := zo_42 (zby_w zwX9_roll_1 31 rfl)
theorem d_X9_roll_64 : decode cX9_roll 64 = .ok (.dup, 1) := zo_89 (zby_w zwX9_roll_2 0 rfl)
theorem d_X9_roll_65 : decode cX9_roll 65 = .ok (.getfield 297, 3) := zo_180 (a := 1) (b := 41) (zby_w zwX9_roll_2 1 rfl) (zby_w zwX9_roll_2 2 rfl) (zby_w zwX9_roll_2 3 rfl) (by decide)
theorem d_X9_roll_68 : decode cX9_roll 68 = .ok (.iconst 1, 1) := zo_4 (zby_w zwX9_roll_2 4 rfl)
theorem d_X9_roll_69 : decode cX9_roll 69 = .ok (.iadd, 1) := zo_96 (zby_w zwX9_roll_2 5 rfl)
theorem d_X9_roll_70 : decode cX9_roll 70 = .ok (.putfield 297, 3) := zo_181 (a := 1) (b := 41) (zby_w zwX9_roll_2 6 rfl) (zby_w zwX9_roll_2 7 rfl) (zby_w zwX9_roll_2 8 rfl) (by decide)
theorem d_X9_roll_73 : decode cX9_roll 73 = .ok (.aload_n 0, 1) := zo_42 (zby_w zwX9_roll_2 9 rfl)
theorem d_X9_roll_74 : decode cX9_roll 74 = .ok (.getfield 297, 3) := zo_180 (a := 1) (b := 41) (zby_w zwX9_roll_2 10 rfl) (zby_w zwX9_roll_2 11 rfl) (zby_w zwX9_roll_2 12 rfl) (by decide)
theorem d_X9_roll_77 : decode cX9_roll 77 = .ok (.ireturn, 1) := zo_172 (zby_w zwX9_roll_2 13 rfl)
theorem d_X9_say_0 : decode cX9_say 0 = .ok (.iload_n 1, 1) := zo_27 (zby_w zwX9_say_0 0 rfl)
theorem d_X9_say_1 : decode cX9_say 1 = .ok (.i2l, 1) := zo_133 (zby_w zwX9_say_0 1 rfl)
theorem d_X9_say_2 : decode cX9_say 2 = .ok (.ldc2_w 126, 3) := zo_20 (a := 0) (b := 126) (zby_w zwX9_say_0 2 rfl) (zby_w zwX9_say_0 3 rfl) (zby_w zwX9_say_0 4 rfl) (by decide)
theorem d_X9_say_5 : decode cX9_say 5 = .ok (.ldc2_w 128, 3) := zo_20 (a := 0) (b := 128) (zby_w zwX9_say_0 5 rfl) (zby_w zwX9_say_0 6 rfl) (zby_w zwX9_say_0 7 rfl) (by decide)
theorem d_X9_say_8 : decode cX9_say 8 = .ok (.invokestatic 89, 3) := zo_184 (a := 0) (b := 89) (zby_w zwX9_say_0 8 rfl) (zby_w zwX9_say_0 9 rfl) (zby_w zwX9_say_0 10 rfl) (by decide)
theorem d_X9_say_11 : decode cX9_say 11 = .ok (.ifCond .ne 6, 3) := zo_154 (a := 0) (b := 6) (zby_w zwX9_say_0 11 rfl) (zby_w zwX9_say_0 12 rfl) (zby_w zwX9_say_0 13 rfl) (by decide)
theorem d_X9_say_14 : decode cX9_say 14 = .ok (.bipush (-2), 2) := zo_16 (a := 254) (zby_w zwX9_say_0 14 rfl) (zby_w zwX9_say_0 15 rfl) (by decide)
theorem d_X9_say_16 : decode cX9_say 16 = .ok (.ireturn, 1) := zo_172 (zby_w zwX9_say_0 16 rfl)
theorem d_X9_say_17 : decode cX9_say 17 = .ok (.aload_n 0, 1) := zo_42 (zby_w zwX9_say_0 17 rfl)
theorem d_X9_say_18 : decode cX9_say 18 = .ok (.getfield 130, 3) := zo_180 (a := 0) (b := 130) (zby_w zwX9_say_0 18 rfl) (zby_w zwX9_say_0 19 rfl) (zby_w zwX9_say_0 20 rfl) (by decide)
theorem d_X9_say_21 : decode cX9_say 21 = .ok (.bipush 60, 2) := zo_16 (a := 60) (zby_w zwX9_say_0 21 rfl) (zby_w zwX9_say_0 22 rfl) (by decide)
theorem d_X9_say_23 : decode cX9_say 23 = .ok (.if_icmp .ne 6, 3) := zo_160 (a := 0) (b := 6) (zby_w zwX9_say_0 23 rfl) (zby_w zwX9_say_0 24 rfl) (zby_w zwX9_say_0 25 rfl) (by decide)
theorem d_X9_say_26 : decode cX9_say 26 = .ok (.bipush (-4), 2) := zo_16 (a := 252) (zby_w zwX9_say_0 26 rfl) (zby_w zwX9_say_0 27 rfl) (by decide)
theorem d_X9_say_28 : decode cX9_say 28 = .ok (.ireturn, 1) := zo_172 (zby_w zwX9_say_0 28 rfl)
theorem d_X9_say_29 : decode cX9_say 29 = .ok (.aload_n 0, 1) := zo_42 (zby_w zwX9_say_0 29 rfl)
theorem d_X9_say_30 : decode cX9_say 30 = .ok (.getfield 40, 3) := zo_180 (a := 0) (b := 40) (zby_w zwX9_say_0 30 rfl) (zby_w zwX9_say_0 31 rfl) (zby_w zwX9_say_0 32 rfl) (by decide)
theorem d_X9_say_33 : decode cX9_say 33 = .ok (.aload_n 0, 1) := zo_42 (zby_w zwX9_say_1 1 rfl)
theorem d_X9_say_34 : decode cX9_say 34 = .ok (.getfield 130, 3) := zo_180 (a := 0) (b := 130) (zby_w zwX9_say_1 2 rfl) (zby_w zwX9_say_1 3 rfl) (zby_w zwX9_say_1 4 rfl) (by decide)
theorem d_X9_say_37 : decode cX9_say 37 = .ok (.iload_n 1, 1) := zo_27 (zby_w zwX9_say_1 5 rfl)
theorem d_X9_say_38 : decode cX9_say 38 = .ok (.iastore, 1) := zo_79 (zby_w zwX9_say_1 6 rfl)
theorem d_X9_say_39 : decode cX9_say 39 = .ok (.aload_n 0, 1) := zo_42 (zby_w zwX9_say_1 7 rfl)
theorem d_X9_say_40 : decode cX9_say 40 = .ok (.dup, 1) := zo_89 (zby_w zwX9_say_1 8 rfl)
theorem d_X9_say_41 : decode cX9_say 41 = .ok (.getfield 130, 3) := zo_180 (a := 0) (b := 130) (zby_w zwX9_say_1 9 rfl) (zby_w zwX9_say_1 10 rfl) (zby_w zwX9_say_1 11 rfl) (by decide)
theorem d_X9_say_44 : decode cX9_say 44 = .ok (.iconst 1, 1) := zo_4 (zby_w zwX9_say_1 12 rfl)
theorem d_X9_say_45 : decode cX9_say 45 = .ok (.iadd, 1) := zo_96 (zby_w zwX9_say_1 13 rfl)
theorem d_X9_say_46 : decode cX9_say 46 = .ok (.putfield 130, 3) := zo_181 (a := 0) (b := 130) (zby_w zwX9_say_1 14 rfl) (zby_w zwX9_say_1 15 rfl) (zby_w zwX9_say_1 16 rfl) (by decide)
theorem d_X9_say_49 : decode cX9_say 49 = .ok (.aload_n 0, 1) := zo_42 (zby_w zwX9_say_1 17 rfl)
theorem d_X9_say_50 : decode cX9_say 50 = .ok (.getfield 130, 3) := zo_180 (a := 0) (b := 130) (zby_w zwX9_say_1 18 rfl) (zby_w zwX9_say_1 19 rfl) (zby_w zwX9_say_1 20 rfl) (by decide)
theorem d_X9_say_53 : decode cX9_say 53 = .ok (.ireturn, 1) := zo_172 (zby_w zwX9_say_1 21 rfl)
theorem d_X9_scrap_0 : decode cX9_scrap 0 = .ok (.aload_n 0, 1) := zo_42 (zby_w zwX9_scrap_0 0 rfl)
theorem d_X9_scrap_1 : decode cX9_scrap 1 = .ok (.iload_n 1, 1) := zo_27 (zby_w zwX9_scrap_0 1 rfl)
theorem d_X9_scrap_2 : decode cX9_scrap 2 = .ok (.invokevirtual 112, 3) := zo_182 (a := 0) (b := 112) (zby_w zwX9_scrap_0 2 rfl) (zby_w zwX9_scrap_0 3 rfl) (zby_w zwX9_scrap_0 4 rfl) (by decide)
theorem d_X9_scrap_5 : decode cX9_scrap 5 = .ok (.ifCond .ne 5, 3) := zo_154 (a := 0) (b := 5) (zby_w zwX9_scrap_0 5 rfl) (zby_w zwX9_scrap_0 6 rfl) (zby_w zwX9_scrap_0 7 rfl) (by decide)
theorem d_X9_scrap_8 : decode cX9_scrap 8 = .ok (.iconst (-1), 1) := zo_2 (zby_w zwX9_scrap_0 8 rfl)
theorem d_X9_scrap_9 : decode cX9_scrap 9 = .ok (.ireturn, 1) := zo_172 (zby_w zwX9_scrap_0 9 rfl)
theorem d_X9_scrap_10 : decode cX9_scrap 10 = .ok (.aload_n 0, 1) := zo_42 (zby_w zwX9_scrap_0 10 rfl)
theorem d_X9_scrap_11 : decode cX9_scrap 11 = .ok (.dup, 1) := zo_89 (zby_w zwX9_scrap_0 11 rfl)
theorem d_X9_scrap_12 : decode cX9_scrap 12 = .ok (.getfield 97, 3) := zo_180 (a := 0) (b := 97) (zby_w zwX9_scrap_0 12 rfl) (zby_w zwX9_scrap_0 13 rfl) (zby_w zwX9_scrap_0 14 rfl) (by decide)
theorem d_X9_scrap_15 : decode cX9_scrap 15 = .ok (.iconst 1, 1) := zo_4 (zby_w zwX9_scrap_0 15 rfl)
theorem d_X9_scrap_16 : decode cX9_scrap 16 = .ok (.iload_n 1, 1) := zo_27 (zby_w zwX9_scrap_0 16 rfl)
theorem d_X9_scrap_17 : decode cX9_scrap 17 = .ok (.ishl, 1) := zo_120 (zby_w zwX9_scrap_0 17 rfl)
theorem d_X9_scrap_18 : decode cX9_scrap 18 = .ok (.iconst (-1), 1) := zo_2 (zby_w zwX9_scrap_0 18 rfl)
theorem d_X9_scrap_19 : decode cX9_scrap 19 = .ok (.ixor, 1) := zo_130 (zby_w zwX9_scrap_0 19 rfl)
theorem d_X9_scrap_20 : decode cX9_scrap 20 = .ok (.iand, 1) := zo_126 (zby_w zwX9_scrap_0 20 rfl)
theorem d_X9_scrap_21 : decode cX9_scrap 21 = .ok (.putfield 97, 3) := zo_181 (a := 0) (b := 97) (zby_w zwX9_scrap_0 21 rfl) (zby_w zwX9_scrap_0 22 rfl) (zby_w zwX9_scrap_0 23 rfl) (by decide)
theorem d_X9_scrap_24 : decode cX9_scrap 24 = .ok (.aload_n 0, 1) := zo_42 (zby_w zwX9_scrap_0 24 rfl)
theorem d_X9_scrap_25 : decode cX9_scrap 25 = .ok (.getfield 97, 3) := zo_180 (a := 0) (b := 97) (zby_w zwX9_scrap_0 25 rfl) (zby_w zwX9_scrap_0 26 rfl) (zby_w zwX9_scrap_0 27 rfl) (by decide)
theorem d_X9_scrap_28 : decode cX9_scrap 28 = .ok (.invokestatic 108, 3) := zo_184 (a := 0) (b := 108) (zby_w zwX9_scrap_0 28 rfl) (zby_w zwX9_scrap_0 29 rfl) (zby_w zwX9_scrap_0 30 rfl) (by decide)
theorem d_X9_scrap_31 : decode cX9_scrap 31 = .ok (.ireturn, 1) := zo_172 (zby_w zwX9_scrap_0 31 rfl)
theorem d_X9_set_0 : decode cX9_set 0 = .ok (.iload_n 1, 1) := zo_27 (zby_w zwX9_set_0 0 rfl)
theorem d_X9_set_1 : decode cX9_set 1 = .ok (.i2l, 1) := zo_133 (zby_w zwX9_set_0 1 rfl)
theorem d_X9_set_2 : decode cX9_set 2 = .ok (.lconst 0, 1) := zo_9 (zby_w zwX9_set_0 2 rfl)
theorem d_X9_set_3 : decode cX9_set 3 = .ok (.ldc2_w 118, 3) := zo_20 (a := 0) (b := 118) (zby_w zwX9_set_0 3 rfl) (zby_w zwX9_set_0 4 rfl) (zby_w zwX9_set_0 5 rfl) (by decide)
theorem d_X9_set_6 : decode cX9_set 6 = .ok (.invokestatic 89, 3) := zo_184 (a := 0) (b := 89) (zby_w zwX9_set_0 6 rfl) (zby_w zwX9_set_0 7 rfl) (zby_w zwX9_set_0 8 rfl) (by decide)
theorem d_X9_set_9 : decode cX9_set 9 = .ok (.ifCond .eq 25, 3) := zo_153 (a := 0) (b := 25) (zby_w zwX9_set_0 9 rfl) (zby_w zwX9_set_0 10 rfl) (zby_w zwX9_set_0 11 rfl) (by decide)
theorem d_X9_set_12 : decode cX9_set 12 = .ok (.iload_n 2, 1) := zo_28 (zby_w zwX9_set_0 12 rfl)
theorem d_X9_set_13 : decode cX9_set 13 = .ok (.i2l, 1) := zo_133 (zby_w zwX9_set_0 13 rfl)
theorem d_X9_set_14 : decode cX9_set 14 = .ok (.iload_n 1, 1) := zo_27 (zby_w zwX9_set_0 14 rfl)
theorem d_X9_set_15 : decode cX9_set 15 = .ok (.ifCond .ne 7, 3) := zo_154 (a := 0) (b := 7) (zby_w zwX9_set_0 15 rfl) (zby_w zwX9_set_0 16 rfl) (zby_w zwX9_set_0 17 rfl) (by decide)
theorem d_X9_set_18 : decode cX9_set 18 = .ok (.lconst 1, 1) := zo_10 (zby_w zwX9_set_0 18 rfl)
theorem d_X9_set_19 : decode cX9_set 19 = .ok (.goto 4, 3) := zo_167 (a := 0) (b := 4) (zby_w zwX9_set_0 19 rfl) (zby_w zwX9_set_0 20 rfl) (zby_w zwX9_set_0 21 rfl) (by decide)
theorem d_X9_set_22 : decode cX9_set 22 = .ok (.lconst 0, 1) := zo_9 (zby_w zwX9_set_0 22 rfl)
theorem d_X9_set_23 : decode cX9_set 23 = .ok (.iload_n 1, 1) := zo_27 (zby_w zwX9_set_0 23 rfl)
theorem d_X9_set_24 : decode cX9_set 24 = .ok (.invokestatic 120, 3) := zo_184 (a := 0) (b := 120) (zby_w zwX9_set_0 24 rfl) (zby_w zwX9_set_0 25 rfl) (zby_w zwX9_set_0 26 rfl) (by decide)
theorem d_X9_set_27 : decode cX9_set 27 = .ok (.i2l, 1) := zo_133 (zby_w zwX9_set_0 27 rfl)
theorem d_X9_set_28 : decode cX9_set 28 = .ok (.invokestatic 89, 3) := zo_184 (a := 0) (b := 89) (zby_w zwX9_set_0 28 rfl) (zby_w zwX9_set_0 29 rfl) (zby_w zwX9_set_0 30 rfl) (by decide)
theorem d_X9_set_31 : decode cX9_set 31 = .ok (.ifCond .ne 6, 3) := zo_154 (a := 0) (b := 6) (zby_w zwX9_set_0 31 rfl) (zby_w zwX9_set_0 32 rfl) (zby_w zwX9_set_0 33 rfl) (by decide)
theorem d_X9_set_34 : decode cX9_set 34 = .ok (.bipush (-2), 2) := zo_16 (a := 254) (zby_w zwX9_set_1 2 rfl) (zby_w zwX9_set_1 3 rfl) (by decide)
theorem d_X9_set_36 : decode cX9_set 36 = .ok (.ireturn, 1) := zo_172 (zby_w zwX9_set_1 4 rfl)
theorem d_X9_set_37 : decode cX9_set 37 = .ok (.aload_n 0, 1) := zo_42 (zby_w zwX9_set_1 5 rfl)
theorem d_X9_set_38 : decode cX9_set 38 = .ok (.iload_n 1, 1) := zo_27 (zby_w zwX9_set_1 6 rfl)
theorem d_X9_set_39 : decode cX9_set 39 = .ok (.invokevirtual 123, 3) := zo_182 (a := 0) (b := 123) (zby_w zwX9_set_1 7 rfl) (zby_w zwX9_set_1 8 rfl) (zby_w zwX9_set_1 9 rfl) (by decide)
theorem d_X9_set_42 : decode cX9_set 42 = .ok (.istore_n 3, 1) := zo_62 (zby_w zwX9_set_1 10 rfl)
theorem d_X9_set_43 : decode cX9_set 43 = .ok (.aload_n 0, 1) := zo_42 (zby_w zwX9_set_1 11 rfl)
theorem d_X9_set_44 : decode cX9_set 44 = .ok (.iload_n 1, 1) := zo_27 (zby_w zwX9_set_1 12 rfl)
theorem d_X9_set_45 : decode cX9_set 45 = .ok (.ifCond .ne 7, 3) := zo_154 (a := 0) (b := 7) (zby_w zwX9_set_1 13 rfl) (zby_w zwX9_set_1 14 rfl) (zby_w zwX9_set_1 15 rfl) (by decide)
theorem d_X9_set_48 : decode cX9_set 48 = .ok (.iload_n 2, 1) := zo_28 (zby_w zwX9_set_1 16 rfl)
theorem d_X9_set_49 : decode cX9_set 49 = .ok (.goto 7, 3) := zo_167 (a := 0) (b := 7) (zby_w zwX9_set_1 17 rfl) (zby_w zwX9_set_1 18 rfl) (zby_w zwX9_set_1 19 rfl) (by decide)
theorem d_X9_set_52 : decode cX9_set 52 = .ok (.aload_n 0, 1) := zo_42 (zby_w zwX9_set_1 20 rfl)
theorem d_X9_set_53 : decode cX9_set 53 = .ok (.getfield 62, 3) := zo_180 (a := 0) (b := 62) (zby_w zwX9_set_1 21 rfl) (zby_w zwX9_set_1 22 rfl) (zby_w zwX9_set_1 23 rfl) (by decide)
theorem d_X9_set_56 : decode cX9_set 56 = .ok (.putfield 62, 3) := zo_181 (a := 0) (b := 62) (zby_w zwX9_set_1 24 rfl) (zby_w zwX9_set_1 25 rfl) (zby_w zwX9_set_1 26 rfl) (by decide)
theorem d_X9_set_59 : decode cX9_set 59 = .ok (.aload_n 0, 1) := zo_42 (zby_w zwX9_set_1 27 rfl)
theorem d_X9_set_60 : decode cX9_set 60 = .ok (.iload_n 1, 1) := zo_27 (zby_w zwX9_set_1 28 rfl)
theorem d_X9_set_61 : decode cX9_set 61 = .ok (.iconst 1, 1) := zo_4 (zby_w zwX9_set_1 29 rfl)
theorem d_X9_set_62 : decode cX9_set 62 = .ok (.if_icmp .ne 7, 3) := zo_160 (a := 0) (b := 7) (zby_w zwX9_set_1 30 rfl) (zby_w zwX9_set_1 31 rfl) (zby_w zwX9_set_1 32 rfl) (by decide)
theorem d_X9_set_65 : decode cX9_set 65 = .ok (.iload_n 2, 1) := zo_28 (zby_w zwX9_set_2 1 rfl)
theorem d_X9_set_66 : decode cX9_set 66 = .ok (.goto 7, 3) := zo_167 (a := 0) (b := 7) (zby_w zwX9_set_2 2 rfl) (zby_w zwX9_set_2 3 rfl) (zby_w zwX9_set_2 4 rfl) (by decide)
theorem d_X9_set_69 : decode cX9_set 69 = .ok (.aload_n 0, 1) := zo_42 (zby_w zwX9_set_2 5 rfl)
theorem d_X9_set_70 : decode cX9_set 70 = .ok (.getfield 66, 3) := zo_180 (a := 0) (b := 66) (zby_w zwX9_set_2 6 rfl) (zby_w zwX9_set_2 7 rfl) (zby_w zwX9_set_2 8 rfl) (by decide)
theorem d_X9_set_73 : decode cX9_set 73 = .ok (.putfield 66, 3) := zo_181 (a := 0) (b := 66) (zby_w zwX9_set_2 9 rfl) (zby_w zwX9_set_2 10 rfl) (zby_w zwX9_set_2 11 rfl) (by decide)
theorem d_X9_set_76 : decode cX9_set 76 = .ok (.aload_n 0, 1) := zo_42 (zby_w zwX9_set_2 12 rfl)
theorem d_X9_set_77 : decode cX9_set 77 = .ok (.iload_n 1, 1) := zo_27 (zby_w zwX9_set_2 13 rfl)
theorem d_X9_set_78 : decode cX9_set 78 = .ok (.iconst 2, 1) := zo_5 (zby_w zwX9_set_2 14 rfl)
theorem d_X9_set_79 : decode cX9_set 79 = .ok (.if_icmp .ne 7, 3) := zo_160 (a := 0) (b := 7) (zby_w zwX9_set_2 15 rfl) (zby_w zwX9_set_2 16 rfl) (zby_w zwX9_set_2 17 rfl) (by decide)
theorem d_X9_set_82 : decode cX9_set 82 = .ok (.iload_n 2, 1) := zo_28 (zby_w zwX9_set_2 18 rfl)
theorem d_X9_set_83 : decode cX9_set 83 = .ok (.goto 7, 3) := zo_167 (a := 0) (b := 7) (zby_w zwX9_set_2 19 rfl) (zby_w zwX9_set_2 20 rfl) (zby_w zwX9_set_2 21 rfl) (by decide)
theorem d_X9_set_86 : decode cX9_set 86 = .ok (.aload_n 0, 1) := zo_42 (zby_w zwX9_set_2 22 rfl)
theorem d_X9_set_87 : decode cX9_set 87 = .ok (.getfield 69, 3) := zo_180 (a := 0) (b := 69) (zby_w zwX9_set_2 23 rfl) (zby_w zwX9_set_2 24 rfl) (zby_w zwX9_set_2 25 rfl) (by decide)
theorem d_X9_set_90 : decode cX9_set 90 = .ok (.putfield 69, 3) := zo_181 (a := 0) (b := 69) (zby_w zwX9_set_2 26 rfl) (zby_w zwX9_set_2 27 rfl) (zby_w zwX9_set_2 28 rfl) (by decide)
theorem d_X9_set_93 : decode cX9_set 93 = .ok (.aload_n 0, 1) := zo_42 (zby_w zwX9_set_2 29 rfl)
theorem d_X9_set_94 : decode cX9_set 94 = .ok (.iload_n 1, 1) := zo_27 (zby_w zwX9_set_2 30 rfl)
theorem d_X9_set_95 : decode cX9_set 95 = .ok (.iconst 3, 1) := zo_6 (zby_w zwX9_set_2 31 rfl)
theorem d_X9_set_96 : decode cX9_set 96 = .ok (.if_icmp .ne 7, 3) := zo_160 (a := 0) (b := 7) (zby_w zwX9_set_3 0 rfl) (zby_w zwX9_set_3 1 rfl) (zby_w zwX9_set_3 2 rfl) (by decide)
theorem d_X9_set_99 : decode cX9_set 99 = .ok (.iload_n 2, 1) := zo_28 (zby_w zwX9_set_3 3 rfl)
theorem d_X9_set_100 : decode cX9_set 100 = .ok (.goto 7, 3) := zo_167 (a := 0) (b := 7) (zby_w zwX9_set_3 4 rfl) (zby_w zwX9_set_3 5 rfl) (zby_w zwX9_set_3 6 rfl) (by decide)
theorem d_X9_set_103 : decode cX9_set 103 = .ok (.aload_n 0, 1) := zo_42 (zby_w zwX9_set_3 7 rfl)
theorem d_X9_set_104 : decode cX9_set 104 = .ok (.getfield 72, 3) := zo_180 (a := 0) (b := 72) (zby_w zwX9_set_3 8 rfl) (zby_w zwX9_set_3 9 rfl) (zby_w zwX9_set_3 10 rfl) (by decide)
theorem d_X9_set_107 : decode cX9_set 107 = .ok (.putfield 72, 3) := zo_181 (a := 0) (b := 72) (zby_w zwX9_set_3 11 rfl) (zby_w zwX9_set_3 12 rfl) (zby_w zwX9_set_3 13 rfl) (by decide)
theorem d_X9_set_110 : decode cX9_set 110 = .ok (.aload_n 0, 1) := zo_42 (zby_w zwX9_set_3 14 rfl)
theorem d_X9_set_111 : decode cX9_set 111 = .ok (.iload_n 1, 1) := zo_27 (zby_w zwX9_set_3 15 rfl)
theorem d_X9_set_112 : decode cX9_set 112 = .ok (.iconst 4, 1) := zo_7 (zby_w zwX9_set_3 16 rfl)
theorem d_X9_set_113 : decode cX9_set 113 = .ok (.if_icmp .ne 7, 3) := zo_160 (a := 0) (b := 7) (zby_w zwX9_set_3 17 rfl) (zby_w zwX9_set_3 18 rfl) (zby_w zwX9_set_3 19 rfl) (by decide)
theorem d_X9_set_116 : decode cX9_set 116 = .ok (.iload_n 2, 1) := zo_28 (zby_w zwX9_set_3 20 rfl)
theorem d_X9_set_117 : decode cX9_set 117 = .ok (.goto 7, 3) := zo_167 (a := 0) (b := 7) (zby_w zwX9_set_3 21 rfl) (zby_w zwX9_set_3 22 rfl) (zby_w zwX9_set_3 23 rfl) (by decide)
theorem d_X9_set_120 : decode cX9_set 120 = .ok (.aload_n 0, 1) := zo_42 (zby_w zwX9_set_3 24 rfl)
theorem d_X9_set_121 : decode cX9_set 121 = .ok (.getfield 75, 3) := zo_180 (a := 0) (b := 75) (zby_w zwX9_set_3 25 rfl) (zby_w zwX9_set_3 26 rfl) (zby_w zwX9_set_3 27 rfl) (by decide)
theorem d_X9_set_124 : decode cX9_set 124 = .ok (.putfield 75, 3) := zo_181 (a := 0) (b := 75) (zby_w zwX9_set_3 28 rfl) (zby_w zwX9_set_3 29 rfl) (zby_w zwX9_set_3 30 rfl) (by decide)
theorem d_X9_set_127 : decode cX9_set 127 = .ok (.aload_n 0, 1) := zo_42 (zby_w zwX9_set_3 31 rfl)
theorem d_X9_set_128 : decode cX9_set 128 = .ok (.iload_n 1, 1) := zo_27 (zby_w zwX9_set_4 0 rfl)
theorem d_X9_set_129 : decode cX9_set 129 = .ok (.iconst 5, 1) := zo_8 (zby_w zwX9_set_4 1 rfl)
theorem d_X9_set_130 : decode cX9_set 130 = .ok (.if_icmp .ne 7, 3) := zo_160 (a := 0) (b := 7) (zby_w zwX9_set_4 2 rfl) (zby_w zwX9_set_4 3 rfl) (zby_w zwX9_set_4 4 rfl) (by decide)
theorem d_X9_set_133 : decode cX9_set 133 = .ok (.iload_n 2, 1) := zo_28 (zby_w zwX9_set_4 5 rfl)
theorem d_X9_set_134 : decode cX9_set 134 = .ok (.goto 7, 3) := zo_167 (a := 0) (b := 7) (zby_w zwX9_set_4 6 rfl) (zby_w zwX9_set_4 7 rfl) (zby_w zwX9_set_4 8 rfl) (by decide)
theorem d_X9_set_137 : decode cX9_set 137 = .ok (.aload_n 0, 1) := zo_42 (zby_w zwX9_set_4 9 rfl)
theorem d_X9_set_138 : decode cX9_set 138 = .ok (.getfield 78, 3) := zo_180 (a := 0) (b := 78) (zby_w zwX9_set_4 10 rfl) (zby_w zwX9_set_4 11 rfl) (zby_w zwX9_set_4 12 rfl) (by decide)
theorem d_X9_set_141 : decode cX9_set 141 = .ok (.putfield 78, 3) := zo_181 (a := 0) (b := 78) (zby_w zwX9_set_4 13 rfl) (zby_w zwX9_set_4 14 rfl) (zby_w zwX9_set_4 15 rfl) (by decide)
theorem d_X9_set_144 : decode cX9_set 144 = .ok (.aload_n 0, 1) := zo_42 (zby_w zwX9_set_4 16 rfl)
theorem d_X9_set_145 : decode cX9_set 145 = .ok (.iload_n 1, 1) := zo_27 (zby_w zwX9_set_4 17 rfl)
theorem d_X9_set_146 : decode cX9_set 146 = .ok (.bipush 6, 2) := zo_16 (a := 6) (zby_w zwX9_set_4 18 rfl) (zby_w zwX9_set_4 19 rfl) (by decide)
theorem d_X9_set_148 : decode cX9_set 148 = .ok (.if_icmp .ne 7, 3) := zo_160 (a := 0) (b := 7) (zby_w zwX9_set_4 20 rfl) (zby_w zwX9_set_4 21 rfl) (zby_w zwX9_set_4 22 rfl) (by decide)
theorem d_X9_set_151 : decode cX9_set 151 = .ok (.iload_n 2, 1) := zo_28 (zby_w zwX9_set_4 23 rfl)
theorem d_X9_set_152 : decode cX9_set 152 = .ok (.goto 7, 3) := zo_167 (a := 0) (b := 7) (zby_w zwX9_set_4 24 rfl) (zby_w zwX9_set_4 25 rfl) (zby_w zwX9_set_4 26 rfl) (by decide)
theorem d_X9_set_155 : decode cX9_set 155 = .ok (.aload_n 0, 1) := zo_42 (zby_w zwX9_set_4 27 rfl)
theorem d_X9_set_156 : decode cX9_set 156 = .ok (.getfield 115, 3) := zo_180 (a := 0) (b := 115) (zby_w zwX9_set_4 28 rfl) (zby_w zwX9_set_4 29 rfl) (zby_w zwX9_set_4 30 rfl) (by decide)
theorem d_X9_set_159 : decode cX9_set 159 = .ok (.putfield 115, 3) := zo_181 (a := 0) (b := 115) (zby_w zwX9_set_4 31 rfl) (zby_w zwX9_set_4 32 rfl) (zby_w zwX9_set_4 33 rfl) (by decide)
theorem d_X9_set_162 : decode cX9_set 162 = .ok (.aload_n 0, 1) := zo_42 (zby_w zwX9_set_5 2 rfl)
theorem d_X9_set_163 : decode cX9_set 163 = .ok (.iload_n 1, 1) := zo_27 (zby_w zwX9_set_5 3 rfl)
theorem d_X9_set_164 : decode cX9_set 164 = .ok (.bipush 7, 2) := zo_16 (a := 7) (zby_w zwX9_set_5 4 rfl) (zby_w zwX9_set_5 5 rfl) (by decide)
theorem d_X9_set_166 : decode cX9_set 166 = .ok (.if_icmp .ne 7, 3) := zo_160 (a := 0) (b := 7) (zby_w zwX9_set_5 6 rfl) (zby_w zwX9_set_5 7 rfl) (zby_w zwX9_set_5 8 rfl) (by decide)
theorem d_X9_set_169 : decode cX9_set 169 = .ok (.iload_n 2, 1) := zo_28 (zby_w zwX9_set_5 9 rfl)
theorem d_X9_set_170 : decode cX9_set 170 = .ok (.goto 7, 3) := zo_167 (a := 0) (b := 7) (zby_w zwX9_set_5 10 rfl) (zby_w zwX9_set_5 11 rfl) (zby_w zwX9_set_5 12 rfl) (by decide)
theorem d_X9_set_173 : decode cX9_set 173 = .ok (.aload_n 0, 1) := zo_42 (zby_w zwX9_set_5 13 rfl)
theorem d_X9_set_174 : decode cX9_set 174 = .ok (.getfield 81, 3) := zo_180 (a := 0) (b := 81) (zby_w zwX9_set_5 14 rfl) (zby_w zwX9_set_5 15 rfl) (zby_w zwX9_set_5 16 rfl) (by decide)
theorem d_X9_set_177 : decode cX9_set 177 = .ok (.putfield 81, 3) := zo_181 (a := 0) (b := 81) (zby_w zwX9_set_5 17 rfl) (zby_w zwX9_set_5 18 rfl) (zby_w zwX9_set_5 19 rfl) (by decide)
theorem d_X9_set_180 : decode cX9_set 180 = .ok (.iload_n 3, 1) := zo_29 (zby_w zwX9_set_5 20 rfl)
theorem d_X9_set_181 : decode cX9_set 181 = .ok (.ireturn, 1) := zo_172 (zby_w zwX9_set_5 21 rfl)
theorem d_X9_ship_0 : decode cX9_ship 0 = .ok (.iload_n 1, 1) := zo_27 (zby_w zwX9_ship_0 0 rfl)
theorem d_X9_ship_1 : decode cX9_ship 1 = .ok (.invokestatic 93, 3) := zo_184 (a := 0) (b := 93) (zby_w zwX9_ship_0 1 rfl) (zby_w zwX9_ship_0 2 rfl) (zby_w zwX9_ship_0 3 rfl) (by decide)
theorem d_X9_ship_4 : decode cX9_ship 4 = .ok (.ifCond .ne 5, 3) := zo_154 (a := 0) (b := 5) (zby_w zwX9_ship_0 4 rfl) (zby_w zwX9_ship_0 5 rfl) (zby_w zwX9_ship_0 6 rfl) (by decide)
theorem d_X9_ship_7 : decode cX9_ship 7 = .ok (.iconst (-1), 1) := zo_2 (zby_w zwX9_ship_0 7 rfl)
theorem d_X9_ship_8 : decode cX9_ship 8 = .ok (.ireturn, 1) := zo_172 (zby_w zwX9_ship_0 8 rfl)
theorem d_X9_ship_9 : decode cX9_ship 9 = .ok (.iload_n 2, 1) := zo_28 (zby_w zwX9_ship_0 9 rfl)
theorem d_X9_ship_10 : decode cX9_ship 10 = .ok (.i2l, 1) := zo_133 (zby_w zwX9_ship_0 10 rfl)
theorem d_X9_ship_11 : decode cX9_ship 11 = .ok (.lconst 1, 1) := zo_10 (zby_w zwX9_ship_0 11 rfl)
theorem d_X9_ship_12 : decode cX9_ship 12 = .ok (.ldc2_w 104, 3) := zo_20 (a := 0) (b := 104) (zby_w zwX9_ship_0 12 rfl) (zby_w zwX9_ship_0 13 rfl) (zby_w zwX9_ship_0 14 rfl) (by decide)
theorem d_X9_ship_15 : decode cX9_ship 15 = .ok (.invokestatic 89, 3) := zo_184 (a := 0) (b := 89) (zby_w zwX9_ship_0 15 rfl) (zby_w zwX9_ship_0 16 rfl) (zby_w zwX9_ship_0 17 rfl) (by decide)
theorem d_X9_ship_18 : decode cX9_ship 18 = .ok (.ifCond .eq 28, 3) := zo_153 (a := 0) (b := 28) (zby_w zwX9_ship_0 18 rfl) (zby_w zwX9_ship_0 19 rfl) (zby_w zwX9_ship_0 20 rfl) (by decide)
theorem d_X9_ship_21 : decode cX9_ship 21 = .ok (.iload_n 3, 1) := zo_29 (zby_w zwX9_ship_0 21 rfl)
theorem d_X9_ship_22 : decode cX9_ship 22 = .ok (.i2l, 1) := zo_133 (zby_w zwX9_ship_0 22 rfl)
theorem d_X9_ship_23 : decode cX9_ship 23 = .ok (.lconst 0, 1) := zo_9 (zby_w zwX9_ship_0 23 rfl)
theorem d_X9_ship_24 : decode cX9_ship 24 = .ok (.ldc2_w 106, 3) := zo_20 (a := 0) (b := 106) (zby_w zwX9_ship_0 24 rfl) (zby_w zwX9_ship_0 25 rfl) (zby_w zwX9_ship_0 26 rfl) (by decide)
theorem d_X9_ship_27 : decode cX9_ship 27 = .ok (.invokestatic 89, 3) := zo_184 (a := 0) (b := 89) (zby_w zwX9_ship_0 27 rfl) (zby_w zwX9_ship_0 28 rfl) (zby_w zwX9_ship_0 29 rfl) (by decide)
theorem d_X9_ship_30 : decode cX9_ship 30 = .ok (.ifCond .eq 16, 3) := zo_153 (a := 0) (b := 16) (zby_w zwX9_ship_0 30 rfl) (zby_w zwX9_ship_0 31 rfl) (zby_w zwX9_ship_0 32 rfl) (by decide)
theorem d_X9_ship_33 : decode cX9_ship 33 = .ok (.iload 4, 2) := zo_21 (a := 4) (zby_w zwX9_ship_1 1 rfl) (zby_w zwX9_ship_1 2 rfl) (by decide)
theorem d_X9_ship_35 : decode cX9_ship 35 = .ok (.i2l, 1) := zo_133 (zby_w zwX9_ship_1 3 rfl)
theorem d_X9_ship_36 : decode cX9_ship 36 = .ok (.lconst 0, 1) := zo_9 (zby_w zwX9_ship_1 4 rfl)
theorem d_X9_ship_37 : decode cX9_ship 37 = .ok (.ldc2_w 100, 3) := zo_20 (a := 0) (b := 100) (zby_w zwX9_ship_1 5 rfl) (zby_w zwX9_ship_1 6 rfl) (zby_w zwX9_ship_1 7 rfl) (by decide)
theorem d_X9_ship_40 : decode cX9_ship 40 = .ok (.invokestatic 89, 3) := zo_184 (a := 0) (b := 89) (zby_w zwX9_ship_1 8 rfl) (zby_w zwX9_ship_1 9 rfl) (zby_w zwX9_ship_1 10 rfl) (by decide)
theorem d_X9_ship_43 : decode cX9_ship 43 = .ok (.ifCond .ne 6, 3) := zo_154 (a := 0) (b := 6) (zby_w zwX9_ship_1 11 rfl) (zby_w zwX9_ship_1 12 rfl) (zby_w zwX9_ship_1 13 rfl) (by decide)
theorem d_X9_ship_46 : decode cX9_ship 46 = .ok (.bipush (-2), 2) := zo_16 (a := 254) (zby_w zwX9_ship_1 14 rfl) (zby_w zwX9_ship_1 15 rfl) (by decide)
theorem d_X9_ship_48 : decode cX9_ship 48 = .ok (.ireturn, 1) := zo_172 (zby_w zwX9_ship_1 16 rfl)
theorem d_X9_ship_49 : decode cX9_ship 49 = .ok (.aload_n 0, 1) := zo_42 (zby_w zwX9_ship_1 17 rfl)
theorem d_X9_ship_50 : decode cX9_ship 50 = .ok (.getfield 7, 3) := zo_180 (a := 0) (b := 7) (zby_w zwX9_ship_1 18 rfl) (zby_w zwX9_ship_1 19 rfl) (zby_w zwX9_ship_1 20 rfl) (by decide)
theorem d_X9_ship_53 : decode cX9_ship 53 = .ok (.iload_n 1, 1) := zo_27 (zby_w zwX9_ship_1 21 rfl)
theorem d_X9_ship_54 : decode cX9_ship 54 = .ok (.iload_n 2, 1) := zo_28 (zby_w zwX9_ship_1 22 rfl)
theorem d_X9_ship_55 : decode cX9_ship 55 = .ok (.iastore, 1) := zo_79 (zby_w zwX9_ship_1 23 rfl)
theorem d_X9_ship_56 : decode cX9_ship 56 = .ok (.aload_n 0, 1) := zo_42 (zby_w zwX9_ship_1 24 rfl)
theorem d_X9_ship_57 : decode cX9_ship 57 = .ok (.getfield 13, 3) := zo_180 (a := 0) (b := 13) (zby_w zwX9_ship_1 25 rfl) (zby_w zwX9_ship_1 26 rfl) (zby_w zwX9_ship_1 27 rfl) (by decide)
theorem d_X9_ship_60 : decode cX9_ship 60 = .ok (.iload_n 1, 1) := zo_27 (zby_w zwX9_ship_1 28 rfl)
theorem d_X9_ship_61 : decode cX9_ship 61 = .ok (.iload_n 3, 1) := zo_29 (zby_w zwX9_ship_1 29 rfl)
theorem d_X9_ship_62 : decode cX9_ship 62 = .ok (.iastore, 1) := zo_79 (zby_w zwX9_ship_1 30 rfl)
theorem d_X9_ship_63 : decode cX9_ship 63 = .ok (.aload_n 0, 1) := zo_42 (zby_w zwX9_ship_1 31 rfl)
theorem d_X9_ship_64 : decode cX9_ship 64 = .ok (.getfield 16, 3) := zo_180 (a := 0) (b := 16) (zby_w zwX9_ship_2 0 rfl) (zby_w zwX9_ship_2 1 rfl) (zby_w zwX9_ship_2 2 rfl) (by decide)
theorem d_X9_ship_67 : decode cX9_ship 67 = .ok (.iload_n 1, 1) := zo_27 (zby_w zwX9_ship_2 3 rfl)
theorem d_X9_ship_68 : decode cX9_ship 68 = .ok (.iload 4, 2) := zo_21 (a := 4) (zby_w zwX9_ship_2 4 rfl) (zby_w zwX9_ship_2 5 rfl) (by decide)
theorem d_X9_ship_70 : decode cX9_ship 70 = .ok (.iastore, 1) := zo_79 (zby_w zwX9_ship_2 6 rfl)
theorem d_X9_ship_71 : decode cX9_ship 71 = .ok (.aload_n 0, 1) := zo_42 (zby_w zwX9_ship_2 7 rfl)
theorem d_X9_ship_72 : decode cX9_ship 72 = .ok (.getfield 19, 3) := zo_180 (a := 0) (b := 19) (zby_w zwX9_ship_2 8 rfl) (zby_w zwX9_ship_2 9 rfl) (zby_w zwX9_ship_2 10 rfl) (by decide)
theorem d_X9_ship_75 : decode cX9_ship 75 = .ok (.iload_n 1, 1) := zo_27 (zby_w zwX9_ship_2 11 rfl)
theorem d_X9_ship_76 : decode cX9_ship 76 = .ok (.iconst 0, 1) := zo_3 (zby_w zwX9_ship_2 12 rfl)
theorem d_X9_ship_77 : decode cX9_ship 77 = .ok (.iastore, 1) := zo_79 (zby_w zwX9_ship_2 13 rfl)
theorem d_X9_ship_78 : decode cX9_ship 78 = .ok (.aload_n 0, 1) := zo_42 (zby_w zwX9_ship_2 14 rfl)
theorem d_X9_ship_79 : decode cX9_ship 79 = .ok (.dup, 1) := zo_89 (zby_w zwX9_ship_2 15 rfl)
theorem d_X9_ship_80 : decode cX9_ship 80 = .ok (.getfield 97, 3) := zo_180 (a := 0) (b := 97) (zby_w zwX9_ship_2 16 rfl) (zby_w zwX9_ship_2 17 rfl) (zby_w zwX9_ship_2 18 rfl) (by decide)
theorem d_X9_ship_83 : decode cX9_ship 83 = .ok (.iconst 1, 1) := zo_4 (zby_w zwX9_ship_2 19 rfl)
theorem d_X9_ship_84 : decode cX9_ship 84 = .ok (.iload_n 1, 1) := zo_27 (zby_w zwX9_ship_2 20 rfl)
theorem d_X9_ship_85 : decode cX9_ship 85 = .ok (.ishl, 1) := zo_120 (zby_w zwX9_ship_2 21 rfl)
theorem d_X9_ship_86 : decode cX9_ship 86 = .ok (.ior, 1) := zo_128 (zby_w zwX9_ship_2 22 rfl)
theorem d_X9_ship_87 : decode cX9_ship 87 = .ok (.putfield 97, 3) := zo_181 (a := 0) (b := 97) (zby_w zwX9_ship_2 23 rfl) (zby_w zwX9_ship_2 24 rfl) (zby_w zwX9_ship_2 25 rfl) (by decide)
theorem d_X9_ship_90 : decode cX9_ship 90 = .ok (.aload_n 0, 1) := zo_42 (zby_w zwX9_ship_2 26 rfl)
theorem d_X9_ship_91 : decode cX9_ship 91 = .ok (.getfield 97, 3) := zo_180 (a := 0) (b := 97) (zby_w zwX9_ship_2 27 rfl) (zby_w zwX9_ship_2 28 rfl) (zby_w zwX9_ship_2 29 rfl) (by decide)
theorem d_X9_ship_94 : decode cX9_ship 94 = .ok (.invokestatic 108, 3) := zo_184 (a := 0) (b := 108) (zby_w zwX9_ship_2 30 rfl) (zby_w zwX9_ship_2 31 rfl) (zby_w zwX9_ship_2 32 rfl) (by decide)
theorem d_X9_ship_97 : decode cX9_ship 97 = .ok (.ireturn, 1) := zo_172 (zby_w zwX9_ship_3 1 rfl)
theorem d_X9_state_0 : decode cX9_state 0 = .ok (.aload_n 0, 1) := zo_42 (zby_w zwX9_state_0 0 rfl)
theorem d_X9_state_1 : decode cX9_state 1 = .ok (.iload_n 1, 1) := zo_27 (zby_w zwX9_state_0 1 rfl)
theorem d_X9_state_2 : decode cX9_state 2 = .ok (.invokevirtual 112, 3) := zo_182 (a := 0) (b := 112) (zby_w zwX9_state_0 2 rfl) (zby_w zwX9_state_0 3 rfl) (zby_w zwX9_state_0 4 rfl) (by decide)
theorem d_X9_state_5 : decode cX9_state 5 = .ok (.ifCond .ne 5, 3) := zo_154 (a := 0) (b := 5) (zby_w zwX9_state_0 5 rfl) (zby_w zwX9_state_0 6 rfl) (zby_w zwX9_state_0 7 rfl) (by decide)
theorem d_X9_state_8 : decode cX9_state 8 = .ok (.iconst (-1), 1) := zo_2 (zby_w zwX9_state_0 8 rfl)
theorem d_X9_state_9 : decode cX9_state 9 = .ok (.ireturn, 1) := zo_172 (zby_w zwX9_state_0 9 rfl)
theorem d_X9_state_10 : decode cX9_state 10 = .ok (.iload_n 2, 1) := zo_28 (zby_w zwX9_state_0 10 rfl)
theorem d_X9_state_11 : decode cX9_state 11 = .ok (.i2l, 1) := zo_133 (zby_w zwX9_state_0 11 rfl)
theorem d_X9_state_12 : decode cX9_state 12 = .ok (.lconst 0, 1) := zo_9 (zby_w zwX9_state_0 12 rfl)
theorem d_X9_state_13 : decode cX9_state 13 = .ok (.ldc2_w 102, 3) := zo_20 (a := 0) (b := 102) (zby_w zwX9_state_0 13 rfl) (zby_w zwX9_state_0 14 rfl) (zby_w zwX9_state_0 15 rfl) (by decide)
theorem d_X9_state_16 : decode cX9_state 16 = .ok (.invokestatic 89, 3) := zo_184 (a := 0) (b := 89) (zby_w zwX9_state_0 16 rfl) (zby_w zwX9_state_0 17 rfl) (zby_w zwX9_state_0 18 rfl) (by decide)
theorem d_X9_state_19 : decode cX9_state 19 = .ok (.ifCond .eq 12, 3) := zo_153 (a := 0) (b := 12) (zby_w zwX9_state_0 19 rfl) (zby_w zwX9_state_0 20 rfl) (zby_w zwX9_state_0 21 rfl) (by decide)
theorem d_X9_state_22 : decode cX9_state 22 = .ok (.aload_n 0, 1) := zo_42 (zby_w zwX9_state_0 22 rfl)
theorem d_X9_state_23 : decode cX9_state 23 = .ok (.iload_n 1, 1) := zo_27 (zby_w zwX9_state_0 23 rfl)
theorem d_X9_state_24 : decode cX9_state 24 = .ok (.iload_n 2, 1) := zo_28 (zby_w zwX9_state_0 24 rfl)
theorem d_X9_state_25 : decode cX9_state 25 = .ok (.invokevirtual 202, 3) := zo_182 (a := 0) (b := 202) (zby_w zwX9_state_0 25 rfl) (zby_w zwX9_state_0 26 rfl) (zby_w zwX9_state_0 27 rfl) (by decide)
theorem d_X9_state_28 : decode cX9_state 28 = .ok (.goto 5, 3) := zo_167 (a := 0) (b := 5) (zby_w zwX9_state_0 28 rfl) (zby_w zwX9_state_0 29 rfl) (zby_w zwX9_state_0 30 rfl) (by decide)
theorem d_X9_state_31 : decode cX9_state 31 = .ok (.bipush (-2), 2) := zo_16 (a := 254) (zby_w zwX9_state_0 31 rfl) (zby_w zwX9_state_0 32 rfl) (by decide)
theorem d_X9_state_33 : decode cX9_state 33 = .ok (.ireturn, 1) := zo_172 (zby_w zwX9_state_1 1 rfl)
theorem d_X9_stateOf_0 : decode cX9_stateOf 0 = .ok (.iload_n 2, 1) := zo_28 (zby_w zwX9_stateOf_0 0 rfl)
theorem d_X9_stateOf_1 : decode cX9_stateOf 1 = .ok (.ifCond .ne 12, 3) := zo_154 (a := 0) (b := 12) (zby_w zwX9_stateOf_0 1 rfl) (zby_w zwX9_stateOf_0 2 rfl) (zby_w zwX9_stateOf_0 3 rfl) (by decide)
theorem d_X9_stateOf_4 : decode cX9_stateOf 4 = .ok (.aload_n 0, 1) := zo_42 (zby_w zwX9_stateOf_0 4 rfl)
theorem d_X9_stateOf_5 : decode cX9_stateOf 5 = .ok (.getfield 19, 3) := zo_180 (a := 0) (b := 19) (zby_w zwX9_stateOf_0 5 rfl) (zby_w zwX9_stateOf_0 6 rfl) (zby_w zwX9_stateOf_0 7 rfl) (by decide)
theorem d_X9_stateOf_8 : decode cX9_stateOf 8 = .ok (.iload_n 1, 1) := zo_27 (zby_w zwX9_stateOf_0 8 rfl)
theorem d_X9_stateOf_9 : decode cX9_stateOf 9 = .ok (.iaload, 1) := zo_46 (zby_w zwX9_stateOf_0 9 rfl)
theorem d_X9_stateOf_10 : decode cX9_stateOf 10 = .ok (.goto 23, 3) := zo_167 (a := 0) (b := 23) (zby_w zwX9_stateOf_0 10 rfl) (zby_w zwX9_stateOf_0 11 rfl) (zby_w zwX9_stateOf_0 12 rfl) (by decide)
theorem d_X9_stateOf_13 : decode cX9_stateOf 13 = .ok (.iload_n 2, 1) := zo_28 (zby_w zwX9_stateOf_0 13 rfl)
theorem d_X9_stateOf_14 : decode cX9_stateOf 14 = .ok (.iconst 1, 1) := zo_4 (zby_w zwX9_stateOf_0 14 rfl)
theorem d_X9_stateOf_15 : decode cX9_stateOf 15 = .ok (.if_icmp .ne 12, 3) := zo_160 (a := 0) (b := 12) (zby_w zwX9_stateOf_0 15 rfl) (zby_w zwX9_stateOf_0 16 rfl) (zby_w zwX9_stateOf_0 17 rfl) (by decide)
theorem d_X9_stateOf_18 : decode cX9_stateOf 18 = .ok (.aload_n 0, 1) := zo_42 (zby_w zwX9_stateOf_0 18 rfl)
theorem d_X9_stateOf_19 : decode cX9_stateOf 19 = .ok (.getfield 7, 3) := zo_180 (a := 0) (b := 7) (zby_w zwX9_stateOf_0 19 rfl) (zby_w zwX9_stateOf_0 20 rfl) (zby_w zwX9_stateOf_0 21 rfl) (by decide)
theorem d_X9_stateOf_22 : decode cX9_stateOf 22 = .ok (.iload_n 1, 1) := zo_27 (zby_w zwX9_stateOf_0 22 rfl)
theorem d_X9_stateOf_23 : decode cX9_stateOf 23 = .ok (.iaload, 1) := zo_46 (zby_w zwX9_stateOf_0 23 rfl)
theorem d_X9_stateOf_24 : decode cX9_stateOf 24 = .ok (.goto 9, 3) := zo_167 (a := 0) (b := 9) (zby_w zwX9_stateOf_0 24 rfl) (zby_w zwX9_stateOf_0 25 rfl) (zby_w zwX9_stateOf_0 26 rfl) (by decide)
theorem d_X9_stateOf_27 : decode cX9_stateOf 27 = .ok (.aload_n 0, 1) := zo_42 (zby_w zwX9_stateOf_0 27 rfl)
theorem d_X9_stateOf_28 : decode cX9_stateOf 28 = .ok (.getfield 13, 3) := zo_180 (a := 0) (b := 13) (zby_w zwX9_stateOf_0 28 rfl) (zby_w zwX9_stateOf_0 29 rfl) (zby_w zwX9_stateOf_0 30 rfl) (by decide)
theorem d_X9_stateOf_31 : decode cX9_stateOf 31 = .ok (.iload_n 1, 1) := zo_27 (zby_w zwX9_stateOf_0 31 rfl)
theorem d_X9_stateOf_32 : decode cX9_stateOf 32 = .ok (.iaload, 1) := zo_46 (zby_w zwX9_stateOf_1 0 rfl)
theorem d_X9_stateOf_33 : decode cX9_stateOf 33 = .ok (.ireturn, 1) := zo_172 (zby_w zwX9_stateOf_1 1 rfl)
theorem d_X9_sum_0 : decode cX9_sum 0 = .ok (.iload_n 1, 1) := zo_27 (zby_w zwX9_sum_0 0 rfl)
theorem d_X9_sum_1 : decode cX9_sum 1 = .ok (.ifCond .ne 10, 3) := zo_154 (a := 0) (b := 10) (zby_w zwX9_sum_0 1 rfl) (zby_w zwX9_sum_0 2 rfl) (zby_w zwX9_sum_0 3 rfl) (by decide)
theorem d_X9_sum_4 : decode cX9_sum 4 = .ok (.aload_n 0, 1) := zo_42 (zby_w zwX9_sum_0 4 rfl)
theorem d_X9_sum_5 : decode cX9_sum 5 = .ok (.getfield 151, 3) := zo_180 (a := 0) (b := 151) (zby_w zwX9_sum_0 5 rfl) (zby_w zwX9_sum_0 6 rfl) (zby_w zwX9_sum_0 7 rfl) (by decide)
theorem d_X9_sum_8 : decode cX9_sum 8 = .ok (.goto 29, 3) := zo_167 (a := 0) (b := 29) (zby_w zwX9_sum_0 8 rfl) (zby_w zwX9_sum_0 9 rfl) (zby_w zwX9_sum_0 10 rfl) (by decide)
theorem d_X9_sum_11 : decode cX9_sum 11 = .ok (.iload_n 1, 1) := zo_27 (zby_w zwX9_sum_0 11 rfl)
theorem d_X9_sum_12 : decode cX9_sum 12 = .ok (.iconst 1, 1) := zo_4 (zby_w zwX9_sum_0 12 rfl)
theorem d_X9_sum_13 : decode cX9_sum 13 = .ok (.if_icmp .ne 10, 3) := zo_160 (a := 0) (b := 10) (zby_w zwX9_sum_0 13 rfl) (zby_w zwX9_sum_0 14 rfl) (zby_w zwX9_sum_0 15 rfl) (by decide)
theorem d_X9_sum_16 : decode cX9_sum 16 = .ok (.aload_n 0, 1) := zo_42 (zby_w zwX9_sum_0 16 rfl)
theorem d_X9_sum_17 : decode cX9_sum 17 = .ok (.getfield 154, 3) := zo_180 (a := 0) (b := 154) (zby_w zwX9_sum_0 17 rfl) (zby_w zwX9_sum_0 18 rfl) (zby_w zwX9_sum_0 19 rfl) (by decide)
theorem d_X9_sum_20 : decode cX9_sum 20 = .ok (.goto 17, 3) := zo_167 (a := 0) (b := 17) (zby_w zwX9_sum_0 20 rfl) (zby_w zwX9_sum_0 21 rfl) (zby_w zwX9_sum_0 22 rfl) (by decide)
theorem d_X9_sum_23 : decode cX9_sum 23 = .ok (.iload_n 1, 1) := zo_27 (zby_w zwX9_sum_0 23 rfl)
theorem d_X9_sum_24 : decode cX9_sum 24 = .ok (.iconst 2, 1) := zo_5 (zby_w zwX9_sum_0 24 rfl)
theorem d_X9_sum_25 : decode cX9_sum 25 = .ok (.if_icmp .ne 10, 3) := zo_160 (a := 0) (b := 10) (zby_w zwX9_sum_0 25 rfl) (zby_w zwX9_sum_0 26 rfl) (zby_w zwX9_sum_0 27 rfl) (by decide)
theorem d_X9_sum_28 : decode cX9_sum 28 = .ok (.aload_n 0, 1) := zo_42 (zby_w zwX9_sum_0 28 rfl)
theorem d_X9_sum_29 : decode cX9_sum 29 = .ok (.getfield 166, 3) := zo_180 (a := 0) (b := 166) (zby_w zwX9_sum_0 29 rfl) (zby_w zwX9_sum_0 30 rfl) (zby_w zwX9_sum_0 31 rfl) (by decide)
theorem d_X9_sum_32 : decode cX9_sum 32 = .ok (.goto 5, 3) := zo_167 (a := 0) (b := 5) (zby_w zwX9_sum_1 0 rfl) (zby_w zwX9_sum_1 1 rfl) (zby_w zwX9_sum_1 2 rfl) (by decide)
theorem d_X9_sum_35 : decode cX9_sum 35 = .ok (.bipush (-2), 2) := zo_16 (a := 254) (zby_w zwX9_sum_1 3 rfl) (zby_w zwX9_sum_1 4 rfl) (by decide)
theorem d_X9_sum_37 : decode cX9_sum 37 = .ok (.ireturn, 1) := zo_172 (zby_w zwX9_sum_1 5 rfl)
theorem d_X9_teethTake_0 : decode cX9_teethTake 0 = .ok (.aload_n 0, 1) := zo_42 (zby_w zwX9_teethTake_0 0 rfl)
theorem d_X9_teethTake_1 : decode cX9_teethTake 1 = .ok (.iload_n 1, 1) := zo_27 (zby_w zwX9_teethTake_0 1 rfl)
theorem d_X9_teethTake_2 : decode cX9_teethTake 2 = .ok (.invokevirtual 148, 3) := zo_182 (a := 0) (b := 148) (zby_w zwX9_teethTake_0 2 rfl) (zby_w zwX9_teethTake_0 3 rfl) (zby_w zwX9_teethTake_0 4 rfl) (by decide)
theorem d_X9_teethTake_5 : decode cX9_teethTake 5 = .ok (.istore_n 2, 1) := zo_61 (zby_w zwX9_teethTake_0 5 rfl)
theorem d_X9_teethTake_6 : decode cX9_teethTake 6 = .ok (.aload_n 0, 1) := zo_42 (zby_w zwX9_teethTake_0 6 rfl)
theorem d_X9_teethTake_7 : decode cX9_teethTake 7 = .ok (.getfield 66, 3) := zo_180 (a := 0) (b := 66) (zby_w zwX9_teethTake_0 7 rfl) (zby_w zwX9_teethTake_0 8 rfl) (zby_w zwX9_teethTake_0 9 rfl) (by decide)
theorem d_X9_teethTake_10 : decode cX9_teethTake 10 = .ok (.iload_n 2, 1) := zo_28 (zby_w zwX9_teethTake_0 10 rfl)
theorem d_X9_teethTake_11 : decode cX9_teethTake 11 = .ok (.imul, 1) := zo_104 (zby_w zwX9_teethTake_0 11 rfl)
theorem d_X9_teethTake_12 : decode cX9_teethTake 12 = .ok (.iload_n 2, 1) := zo_28 (zby_w zwX9_teethTake_0 12 rfl)
theorem d_X9_teethTake_13 : decode cX9_teethTake 13 = .ok (.aload_n 0, 1) := zo_42 (zby_w zwX9_teethTake_0 13 rfl)
theorem d_X9_teethTake_14 : decode cX9_teethTake 14 = .ok (.getfield 7, 3) := zo_180 (a := 0) (b := 7) (zby_w zwX9_teethTake_0 14 rfl) (zby_w zwX9_teethTake_0 15 rfl) (zby_w zwX9_teethTake_0 16 rfl) (by decide)
theorem d_X9_teethTake_17 : decode cX9_teethTake 17 = .ok (.iload_n 1, 1) := zo_27 (zby_w zwX9_teethTake_0 17 rfl)
theorem d_X9_teethTake_18 : decode cX9_teethTake 18 = .ok (.iaload, 1) := zo_46 (zby_w zwX9_teethTake_0 18 rfl)
theorem d_X9_teethTake_19 : decode cX9_teethTake 19 = .ok (.if_icmp .ne 12, 3) := zo_160 (a := 0) (b := 12) (zby_w zwX9_teethTake_0 19 rfl) (zby_w zwX9_teethTake_0 20 rfl) (zby_w zwX9_teethTake_0 21 rfl) (by decide)
theorem d_X9_teethTake_22 : decode cX9_teethTake 22 = .ok (.aload_n 0, 1) := zo_42 (zby_w zwX9_teethTake_0 22 rfl)
theorem d_X9_teethTake_23 : decode cX9_teethTake 23 = .ok (.getfield 16, 3) := zo_180 (a := 0) (b := 16) (zby_w zwX9_teethTake_0 23 rfl) (zby_w zwX9_teethTake_0 24 rfl) (zby_w zwX9_teethTake_0 25 rfl) (by decide)
theorem d_X9_teethTake_26 : decode cX9_teethTake 26 = .ok (.iload_n 1, 1) := zo_27 (zby_w zwX9_teethTake_0 26 rfl)
theorem d_X9_teethTake_27 : decode cX9_teethTake 27 = .ok (.iaload, 1) := zo_46 (zby_w zwX9_teethTake_0 27 rfl)
theorem d_X9_teethTake_28 : decode cX9_teethTake 28 = .ok (.goto 4, 3) := zo_167 (a := 0) (b := 4) (zby_w zwX9_teethTake_0 28 rfl) (zby_w zwX9_teethTake_0 29 rfl) (zby_w zwX9_teethTake_0 30 rfl) (by decide)
theorem d_X9_teethTake_31 : decode cX9_teethTake 31 = .ok (.iconst 0, 1) := zo_3 (zby_w zwX9_teethTake_0 31 rfl)
theorem d_X9_teethTake_32 : decode cX9_teethTake 32 = .ok (.iadd, 1) := zo_96 (zby_w zwX9_teethTake_1 0 rfl)
theorem d_X9_teethTake_33 : decode cX9_teethTake 33 = .ok (.ireturn, 1) := zo_172 (zby_w zwX9_teethTake_1 1 rfl)
theorem d_X9_tenths_0 : decode cX9_tenths 0 = .ok (.aload_n 0, 1) := zo_42 (zby_w zwX9_tenths_0 0 rfl)
theorem d_X9_tenths_1 : decode cX9_tenths 1 = .ok (.getfield 22, 3) := zo_180 (a := 0) (b := 22) (zby_w zwX9_tenths_0 1 rfl) (zby_w zwX9_tenths_0 2 rfl) (zby_w zwX9_tenths_0 3 rfl) (by decide)
theorem d_X9_tenths_4 : decode cX9_tenths 4 = .ok (.iload_n 1, 1) := zo_27 (zby_w zwX9_tenths_0 4 rfl)
theorem d_X9_tenths_5 : decode cX9_tenths 5 = .ok (.aload_n 0, 1) := zo_42 (zby_w zwX9_tenths_0 5 rfl)
theorem d_X9_tenths_6 : decode cX9_tenths 6 = .ok (.getfield 84, 3) := zo_180 (a := 0) (b := 84) (zby_w zwX9_tenths_0 6 rfl) (zby_w zwX9_tenths_0 7 rfl) (zby_w zwX9_tenths_0 8 rfl) (by decide)
theorem d_X9_tenths_9 : decode cX9_tenths 9 = .ok (.irem, 1) := zo_112 (zby_w zwX9_tenths_0 9 rfl)
theorem d_X9_tenths_10 : decode cX9_tenths 10 = .ok (.iaload, 1) := zo_46 (zby_w zwX9_tenths_0 10 rfl)
theorem d_X9_tenths_11 : decode cX9_tenths 11 = .ok (.ireturn, 1) := zo_172 (zby_w zwX9_tenths_0 11 rfl)
theorem d_X9_tide_0 : decode cX9_tide 0 = .ok (.aload_n 0, 1) := zo_42 (zby_w zwX9_tide_0 0 rfl)
theorem d_X9_tide_1 : decode cX9_tide 1 = .ok (.invokevirtual 141, 3) := zo_182 (a := 0) (b := 141) (zby_w zwX9_tide_0 1 rfl) (zby_w zwX9_tide_0 2 rfl) (zby_w zwX9_tide_0 3 rfl) (by decide)
theorem d_X9_tide_4 : decode cX9_tide 4 = .ok (.ifCond .lt 6, 3) := zo_155 (a := 0) (b := 6) (zby_w zwX9_tide_0 4 rfl) (zby_w zwX9_tide_0 5 rfl) (zby_w zwX9_tide_0 6 rfl) (by decide)
theorem d_X9_tide_7 : decode cX9_tide 7 = .ok (.bipush (-5), 2) := zo_16 (a := 251) (zby_w zwX9_tide_0 7 rfl) (zby_w zwX9_tide_0 8 rfl) (by decide)
theorem d_X9_tide_9 : decode cX9_tide 9 = .ok (.ireturn, 1) := zo_172 (zby_w zwX9_tide_0 9 rfl)
theorem d_X9_tide_10 : decode cX9_tide 10 = .ok (.iconst 0, 1) := zo_3 (zby_w zwX9_tide_0 10 rfl)
theorem d_X9_tide_11 : decode cX9_tide 11 = .ok (.istore_n 1, 1) := zo_60 (zby_w zwX9_tide_0 11 rfl)
theorem d_X9_tide_12 : decode cX9_tide 12 = .ok (.iload_n 1, 1) := zo_27 (zby_w zwX9_tide_0 12 rfl)
theorem d_X9_tide_13 : decode cX9_tide 13 = .ok (.aload_n 0, 1) := zo_42 (zby_w zwX9_tide_0 13 rfl)
theorem d_X9_tide_14 : decode cX9_tide 14 = .ok (.getfield 130, 3) := zo_180 (a := 0) (b := 130) (zby_w zwX9_tide_0 14 rfl) (zby_w zwX9_tide_0 15 rfl) (zby_w zwX9_tide_0 16 rfl) (by decide)
theorem d_X9_tide_17 : decode cX9_tide 17 = .ok (.if_icmp .ge 24, 3) := zo_162 (a := 0) (b := 24) (zby_w zwX9_tide_0 17 rfl) (zby_w zwX9_tide_0 18 rfl) (zby_w zwX9_tide_0 19 rfl) (by decide)
theorem d_X9_tide_20 : decode cX9_tide 20 = .ok (.aload_n 0, 1) := zo_42 (zby_w zwX9_tide_0 20 rfl)
theorem d_X9_tide_21 : decode cX9_tide 21 = .ok (.getfield 22, 3) := zo_180 (a := 0) (b := 22) (zby_w zwX9_tide_0 21 rfl) (zby_w zwX9_tide_0 22 rfl) (zby_w zwX9_tide_0 23 rfl) (by decide)
theorem d_X9_tide_24 : decode cX9_tide 24 = .ok (.iload_n 1, 1) := zo_27 (zby_w zwX9_tide_0 24 rfl)
theorem d_X9_tide_25 : decode cX9_tide 25 = .ok (.aload_n 0, 1) := zo_42 (zby_w zwX9_tide_0 25 rfl)
theorem d_X9_tide_26 : decode cX9_tide 26 = .ok (.getfield 40, 3) := zo_180 (a := 0) (b := 40) (zby_w zwX9_tide_0 26 rfl) (zby_w zwX9_tide_0 27 rfl) (zby_w zwX9_tide_0 28 rfl) (by decide)
theorem d_X9_tide_29 : decode cX9_tide 29 = .ok (.iload_n 1, 1) := zo_27 (zby_w zwX9_tide_0 29 rfl)
theorem d_X9_tide_30 : decode cX9_tide 30 = .ok (.iaload, 1) := zo_46 (zby_w zwX9_tide_0 30 rfl)
theorem d_X9_tide_31 : decode cX9_tide 31 = .ok (.bipush 48, 2) := zo_16 (a := 48) (zby_w zwX9_tide_0 31 rfl) (zby_w zwX9_tide_0 32 rfl) (by decide)
theorem d_X9_tide_33 : decode cX9_tide 33 = .ok (.isub, 1) := zo_100 (zby_w zwX9_tide_1 1 rfl)
theorem d_X9_tide_34 : decode cX9_tide 34 = .ok (.iastore, 1) := zo_79 (zby_w zwX9_tide_1 2 rfl)
theorem d_X9_tide_35 : decode cX9_tide 35 = .ok (.iinc 1 1, 3) := by decide +kernel
theorem d_X9_tide_38 : decode cX9_tide 38 = .ok (.goto (-26), 3) := zo_167 (a := 255) (b := 230) (zby_w zwX9_tide_1 6 rfl) (zby_w zwX9_tide_1 7 rfl) (zby_w zwX9_tide_1 8 rfl) (by decide)
theorem d_X9_tide_41 : decode cX9_tide 41 = .ok (.aload_n 0, 1) := zo_42 (zby_w zwX9_tide_1 9 rfl)
theorem d_X9_tide_42 : decode cX9_tide 42 = .ok (.aload_n 0, 1) := zo_42 (zby_w zwX9_tide_1 10 rfl)
theorem d_X9_tide_43 : decode cX9_tide 43 = .ok (.getfield 130, 3) := zo_180 (a := 0) (b := 130) (zby_w zwX9_tide_1 11 rfl) (zby_w zwX9_tide_1 12 rfl) (zby_w zwX9_tide_1 13 rfl) (by decide)
theorem d_X9_tide_46 : decode cX9_tide 46 = .ok (.putfield 84, 3) := zo_181 (a := 0) (b := 84) (zby_w zwX9_tide_1 14 rfl) (zby_w zwX9_tide_1 15 rfl) (zby_w zwX9_tide_1 16 rfl) (by decide)
theorem d_X9_tide_49 : decode cX9_tide 49 = .ok (.aload_n 0, 1) := zo_42 (zby_w zwX9_tide_1 17 rfl)
theorem d_X9_tide_50 : decode cX9_tide 50 = .ok (.iconst 0, 1) := zo_3 (zby_w zwX9_tide_1 18 rfl)
theorem d_X9_tide_51 : decode cX9_tide 51 = .ok (.putfield 130, 3) := zo_181 (a := 0) (b := 130) (zby_w zwX9_tide_1 19 rfl) (zby_w zwX9_tide_1 20 rfl) (zby_w zwX9_tide_1 21 rfl) (by decide)
theorem d_X9_tide_54 : decode cX9_tide 54 = .ok (.aload_n 0, 1) := zo_42 (zby_w zwX9_tide_1 22 rfl)
theorem d_X9_tide_55 : decode cX9_tide 55 = .ok (.getfield 84, 3) := zo_180 (a := 0) (b := 84) (zby_w zwX9_tide_1 23 rfl) (zby_w zwX9_tide_1 24 rfl) (zby_w zwX9_tide_1 25 rfl) (by decide)
theorem d_X9_tide_58 : decode cX9_tide 58 = .ok (.ireturn, 1) := zo_172 (zby_w zwX9_tide_1 26 rfl)
theorem d_X9_told_0 : decode cX9_told 0 = .ok (.iload_n 1, 1) := zo_27 (zby_w zwX9_told_0 0 rfl)
theorem d_X9_told_1 : decode cX9_told 1 = .ok (.i2l, 1) := zo_133 (zby_w zwX9_told_0 1 rfl)
theorem d_X9_told_2 : decode cX9_told 2 = .ok (.ldc2_w 102, 3) := zo_20 (a := 0) (b := 102) (zby_w zwX9_told_0 2 rfl) (zby_w zwX9_told_0 3 rfl) (zby_w zwX9_told_0 4 rfl) (by decide)
theorem d_X9_told_5 : decode cX9_told 5 = .ok (.ldc2_w 106, 3) := zo_20 (a := 0) (b := 106) (zby_w zwX9_told_0 5 rfl) (zby_w zwX9_told_0 6 rfl) (zby_w zwX9_told_0 7 rfl) (by decide)
theorem d_X9_told_8 : decode cX9_told 8 = .ok (.invokestatic 89, 3) := zo_184 (a := 0) (b := 89) (zby_w zwX9_told_0 8 rfl) (zby_w zwX9_told_0 9 rfl) (zby_w zwX9_told_0 10 rfl) (by decide)
theorem d_X9_told_11 : decode cX9_told 11 = .ok (.ifCond .eq 11, 3) := zo_153 (a := 0) (b := 11) (zby_w zwX9_told_0 11 rfl) (zby_w zwX9_told_0 12 rfl) (zby_w zwX9_told_0 13 rfl) (by decide)
theorem d_X9_told_14 : decode cX9_told 14 = .ok (.aload_n 0, 1) := zo_42 (zby_w zwX9_told_0 14 rfl)
theorem d_X9_told_15 : decode cX9_told 15 = .ok (.iload_n 1, 1) := zo_27 (zby_w zwX9_told_0 15 rfl)
theorem d_X9_told_16 : decode cX9_told 16 = .ok (.iconst 2, 1) := zo_5 (zby_w zwX9_told_0 16 rfl)
theorem d_X9_told_17 : decode cX9_told 17 = .ok (.isub, 1) := zo_100 (zby_w zwX9_told_0 17 rfl)
theorem d_X9_told_18 : decode cX9_told 18 = .ok (.invokevirtual 123, 3) := zo_182 (a := 0) (b := 123) (zby_w zwX9_told_0 18 rfl) (zby_w zwX9_told_0 19 rfl) (zby_w zwX9_told_0 20 rfl) (by decide)
theorem d_X9_told_21 : decode cX9_told 21 = .ok (.ireturn, 1) := zo_172 (zby_w zwX9_told_0 21 rfl)
theorem d_X9_told_22 : decode cX9_told 22 = .ok (.iload_n 1, 1) := zo_27 (zby_w zwX9_told_0 22 rfl)
theorem d_X9_told_23 : decode cX9_told 23 = .ok (.i2l, 1) := zo_133 (zby_w zwX9_told_0 23 rfl)
theorem d_X9_told_24 : decode cX9_told 24 = .ok (.ldc2_w 318, 3) := zo_20 (a := 1) (b := 62) (zby_w zwX9_told_0 24 rfl) (zby_w zwX9_told_0 25 rfl) (zby_w zwX9_told_0 26 rfl) (by decide)
theorem d_X9_told_27 : decode cX9_told 27 = .ok (.ldc2_w 320, 3) := zo_20 (a := 1) (b := 64) (zby_w zwX9_told_0 27 rfl) (zby_w zwX9_told_0 28 rfl) (zby_w zwX9_told_0 29 rfl) (by decide)
theorem d_X9_told_30 : decode cX9_told 30 = .ok (.invokestatic 89, 3) := zo_184 (a := 0) (b := 89) (zby_w zwX9_told_0 30 rfl) (zby_w zwX9_told_0 31 rfl) (zby_w zwX9_told_0 32 rfl) (by decide)
theorem d_X9_told_33 : decode cX9_told 33 = .ok (.ifCond .eq 29, 3) := zo_153 (a := 0) (b := 29) (zby_w zwX9_told_1 1 rfl) (zby_w zwX9_told_1 2 rfl) (zby_w zwX9_told_1 3 rfl) (by decide)
theorem d_X9_told_36 : decode cX9_told 36 = .ok (.aload_n 0, 1) := zo_42 (zby_w zwX9_told_1 4 rfl)
theorem d_X9_told_37 : decode cX9_told 37 = .ok (.iload_n 1, 1) := zo_27 (zby_w zwX9_told_1 5 rfl)
theorem d_X9_told_38 : decode cX9_told 38 = .ok (.bipush 20, 2) := zo_16 (a := 20) (zby_w zwX9_told_1 6 rfl) (zby_w zwX9_told_1 7 rfl) (by decide)
theorem d_X9_told_40 : decode cX9_told 40 = .ok (.isub, 1) := zo_100 (zby_w zwX9_told_1 8 rfl)
theorem d_X9_told_41 : decode cX9_told 41 = .ok (.invokevirtual 275, 3) := zo_182 (a := 1) (b := 19) (zby_w zwX9_told_1 9 rfl) (zby_w zwX9_told_1 10 rfl) (zby_w zwX9_told_1 11 rfl) (by decide)
theorem d_X9_told_44 : decode cX9_told 44 = .ok (.ifCond .eq 15, 3) := zo_153 (a := 0) (b := 15) (zby_w zwX9_told_1 12 rfl) (zby_w zwX9_told_1 13 rfl) (zby_w zwX9_told_1 14 rfl) (by decide)
theorem d_X9_told_47 : decode cX9_told 47 = .ok (.aload_n 0, 1) := zo_42 (zby_w zwX9_told_1 15 rfl)
theorem d_X9_told_48 : decode cX9_told 48 = .ok (.getfield 31, 3) := zo_180 (a := 0) (b := 31) (zby_w zwX9_told_1 16 rfl) (zby_w zwX9_told_1 17 rfl) (zby_w zwX9_told_1 18 rfl) (by decide)
theorem d_X9_told_51 : decode cX9_told 51 = .ok (.iload_n 1, 1) := zo_27 (zby_w zwX9_told_1 19 rfl)
theorem d_X9_told_52 : decode cX9_told 52 = .ok (.bipush 20, 2) := zo_16 (a := 20) (zby_w zwX9_told_1 20 rfl) (zby_w zwX9_told_1 21 rfl) (by decide)
theorem d_X9_told_54 : decode cX9_told 54 = .ok (.isub, 1) := zo_100 (zby_w zwX9_told_1 22 rfl)
theorem d_X9_told_55 : decode cX9_told 55 = .ok (.iaload, 1) := zo_46 (zby_w zwX9_told_1 23 rfl)
theorem d_X9_told_56 : decode cX9_told 56 = .ok (.goto 5, 3) := zo_167 (a := 0) (b := 5) (zby_w zwX9_told_1 24 rfl) (zby_w zwX9_told_1 25 rfl) (zby_w zwX9_told_1 26 rfl) (by decide)
theorem d_X9_told_59 : decode cX9_told 59 = .ok (.bipush (-2), 2) := zo_16 (a := 254) (zby_w zwX9_told_1 27 rfl) (zby_w zwX9_told_1 28 rfl) (by decide)
theorem d_X9_told_61 : decode cX9_told 61 = .ok (.ireturn, 1) := zo_172 (zby_w zwX9_told_1 29 rfl)
theorem d_X9_told_62 : decode cX9_told 62 = .ok (.iload_n 1, 1) := zo_27 (zby_w zwX9_told_1 30 rfl)
theorem d_X9_told_63 : decode cX9_told 63 = .ok (.i2l, 1) := zo_133 (zby_w zwX9_told_1 31 rfl)
theorem d_X9_told_64 : decode cX9_told 64 = .ok (.ldc2_w 104, 3) := zo_20 (a := 0) (b := 104) (zby_w zwX9_told_2 0 rfl) (zby_w zwX9_told_2 1 rfl) (zby_w zwX9_told_2 2 rfl) (by decide)
theorem d_X9_told_67 : decode cX9_told 67 = .ok (.ldc2_w 322, 3) := zo_20 (a := 1) (b := 66) (zby_w zwX9_told_2 3 rfl) (zby_w zwX9_told_2 4 rfl) (zby_w zwX9_told_2 5 rfl) (by decide)
theorem d_X9_told_70 : decode cX9_told 70 = .ok (.invokestatic 89, 3) := zo_184 (a := 0) (b := 89) (zby_w zwX9_told_2 6 rfl) (zby_w zwX9_told_2 7 rfl) (zby_w zwX9_told_2 8 rfl) (by decide)
theorem d_X9_told_73 : decode cX9_told 73 = .ok (.ifCond .eq 29, 3) := zo_153 (a := 0) (b := 29) (zby_w zwX9_told_2 9 rfl) (zby_w zwX9_told_2 10 rfl) (zby_w zwX9_told_2 11 rfl) (by decide)
theorem d_X9_told_76 : decode cX9_told 76 = .ok (.aload_n 0, 1) := zo_42 (zby_w zwX9_told_2 12 rfl)
theorem d_X9_told_77 : decode cX9_told 77 = .ok (.iload_n 1, 1) := zo_27 (zby_w zwX9_told_2 13 rfl)
theorem d_X9_told_78 : decode cX9_told 78 = .ok (.bipush 30, 2) := zo_16 (a := 30) (zby_w zwX9_told_2 14 rfl) (zby_w zwX9_told_2 15 rfl) (by decide)
theorem d_X9_told_80 : decode cX9_told 80 = .ok (.isub, 1) := zo_100 (zby_w zwX9_told_2 16 rfl)
theorem d_X9_told_81 : decode cX9_told 81 = .ok (.invokevirtual 112, 3) := zo_182 (a := 0) (b := 112) (zby_w zwX9_told_2 17 rfl) (zby_w zwX9_told_2 18 rfl) (zby_w zwX9_told_2 19 rfl) (by decide)
theorem d_X9_told_84 : decode cX9_told 84 = .ok (.ifCond .eq 15, 3) := zo_153 (a := 0) (b := 15) (zby_w zwX9_told_2 20 rfl) (zby_w zwX9_told_2 21 rfl) (zby_w zwX9_told_2 22 rfl) (by decide)
theorem d_X9_told_87 : decode cX9_told 87 = .ok (.aload_n 0, 1) := zo_42 (zby_w zwX9_told_2 23 rfl)
theorem d_X9_told_88 : decode cX9_told 88 = .ok (.getfield 16, 3) := zo_180 (a := 0) (b := 16) (zby_w zwX9_told_2 24 rfl) (zby_w zwX9_told_2 25 rfl) (zby_w zwX9_told_2 26 rfl) (by decide)
theorem d_X9_told_91 : decode cX9_told 91 = .ok (.iload_n 1, 1) := zo_27 (zby_w zwX9_told_2 27 rfl)
theorem d_X9_told_92 : decode cX9_told 92 = .ok (.bipush 30, 2) := zo_16 (a := 30) (zby_w zwX9_told_2 28 rfl) (zby_w zwX9_told_2 29 rfl) (by decide)
theorem d_X9_told_94 : decode cX9_told 94 = .ok (.isub, 1) := zo_100 (zby_w zwX9_told_2 30 rfl)
theorem d_X9_told_95 : decode cX9_told 95 = .ok (.iaload, 1) := zo_46 (zby_w zwX9_told_2 31 rfl)
theorem d_X9_told_96 : decode cX9_told 96 = .ok (.goto 5, 3) := zo_167 (a := 0) (b := 5) (zby_w zwX9_told_3 0 rfl) (zby_w zwX9_told_3 1 rfl) (zby_w zwX9_told_3 2 rfl) (by decide)
theorem d_X9_told_99 : decode cX9_told 99 = .ok (.bipush (-2), 2) := zo_16 (a := 254) (zby_w zwX9_told_3 3 rfl) (zby_w zwX9_told_3 4 rfl) (by decide)
theorem d_X9_told_101 : decode cX9_told 101 = .ok (.ireturn, 1) := zo_172 (zby_w zwX9_told_3 5 rfl)
theorem d_X9_told_102 : decode cX9_told 102 = .ok (.iload_n 1, 1) := zo_27 (zby_w zwX9_told_3 6 rfl)
theorem d_X9_told_103 : decode cX9_told 103 = .ok (.i2l, 1) := zo_133 (zby_w zwX9_told_3 7 rfl)
theorem d_X9_told_104 : decode cX9_told 104 = .ok (.ldc2_w 324, 3) := zo_20 (a := 1) (b := 68) (zby_w zwX9_told_3 8 rfl) (zby_w zwX9_told_3 9 rfl) (zby_w zwX9_told_3 10 rfl) (by decide)
theorem d_X9_told_107 : decode cX9_told 107 = .ok (.ldc2_w 326, 3) := zo_20 (a := 1) (b := 70) (zby_w zwX9_told_3 11 rfl) (zby_w zwX9_told_3 12 rfl) (zby_w zwX9_told_3 13 rfl) (by decide)
theorem d_X9_told_110 : decode cX9_told 110 = .ok (.invokestatic 89, 3) := zo_184 (a := 0) (b := 89) (zby_w zwX9_told_3 14 rfl) (zby_w zwX9_told_3 15 rfl) (zby_w zwX9_told_3 16 rfl) (by decide)
theorem d_X9_told_113 : decode cX9_told 113 = .ok (.ifCond .eq 14, 3) := zo_153 (a := 0) (b := 14) (zby_w zwX9_told_3 17 rfl) (zby_w zwX9_told_3 18 rfl) (zby_w zwX9_told_3 19 rfl) (by decide)
theorem d_X9_told_116 : decode cX9_told 116 = .ok (.aload_n 0, 1) := zo_42 (zby_w zwX9_told_3 20 rfl)
theorem d_X9_told_117 : decode cX9_told 117 = .ok (.iload_n 1, 1) := zo_27 (zby_w zwX9_told_3 21 rfl)
theorem d_X9_told_118 : decode cX9_told 118 = .ok (.bipush 100, 2) := zo_16 (a := 100) (zby_w zwX9_told_3 22 rfl) (zby_w zwX9_told_3 23 rfl) (by decide)
theorem d_X9_told_120 : decode cX9_told 120 = .ok (.isub, 1) := zo_100 (zby_w zwX9_told_3 24 rfl)
theorem d_X9_told_121 : decode cX9_told 121 = .ok (.invokevirtual 163, 3) := zo_182 (a := 0) (b := 163) (zby_w zwX9_told_3 25 rfl) (zby_w zwX9_told_3 26 rfl) (zby_w zwX9_told_3 27 rfl) (by decide)
theorem d_X9_told_124 : decode cX9_told 124 = .ok (.goto 8, 3) := zo_167 (a := 0) (b := 8) (zby_w zwX9_told_3 28 rfl) (zby_w zwX9_told_3 29 rfl) (zby_w zwX9_told_3 30 rfl) (by decide)
theorem d_X9_told_127 : decode cX9_told 127 = .ok (.aload_n 0, 1) := zo_42 (zby_w zwX9_told_3 31 rfl)
theorem d_X9_told_128 : decode cX9_told 128 = .ok (.iload_n 1, 1) := zo_27 (zby_w zwX9_told_4 0 rfl)
theorem d_X9_told_129 : decode cX9_told 129 = .ok (.invokevirtual 328, 3) := zo_182 (a := 1) (b := 72) (zby_w zwX9_told_4 1 rfl) (zby_w zwX9_told_4 2 rfl) (zby_w zwX9_told_4 3 rfl) (by decide)
theorem d_X9_told_132 : decode cX9_told 132 = .ok (.ireturn, 1) := zo_172 (zby_w zwX9_told_4 4 rfl)
theorem d_X9_toldMany_0 : decode cX9_toldMany 0 = .ok (.iload_n 1, 1) := zo_27 (zby_w zwX9_toldMany_0 0 rfl)
theorem d_X9_toldMany_1 : decode cX9_toldMany 1 = .ok (.ifCond .ne 10, 3) := zo_154 (a := 0) (b := 10) (zby_w zwX9_toldMany_0 1 rfl) (zby_w zwX9_toldMany_0 2 rfl) (zby_w zwX9_toldMany_0 3 rfl) (by decide)
theorem d_X9_toldMany_4 : decode cX9_toldMany 4 = .ok (.aload_n 0, 1) := zo_42 (zby_w zwX9_toldMany_0 4 rfl)
theorem d_X9_toldMany_5 : decode cX9_toldMany 5 = .ok (.getfield 130, 3) := zo_180 (a := 0) (b := 130) (zby_w zwX9_toldMany_0 5 rfl) (zby_w zwX9_toldMany_0 6 rfl) (zby_w zwX9_toldMany_0 7 rfl) (by decide)
theorem d_X9_toldMany_8 : decode cX9_toldMany 8 = .ok (.goto 69, 3) := zo_167 (a := 0) (b := 69) (zby_w zwX9_toldMany_0 8 rfl) (zby_w zwX9_toldMany_0 9 rfl) (zby_w zwX9_toldMany_0 10 rfl) (by decide)
theorem d_X9_toldMany_11 : decode cX9_toldMany 11 = .ok (.iload_n 1, 1) := zo_27 (zby_w zwX9_toldMany_0 11 rfl)
theorem d_X9_toldMany_12 : decode cX9_toldMany 12 = .ok (.iconst 1, 1) := zo_4 (zby_w zwX9_toldMany_0 12 rfl)
theorem d_X9_toldMany_13 : decode cX9_toldMany 13 = .ok (.if_icmp .ne 10, 3) := zo_160 (a := 0) (b := 10) (zby_w zwX9_toldMany_0 13 rfl) (zby_w zwX9_toldMany_0 14 rfl) (zby_w zwX9_toldMany_0 15 rfl) (by decide)
theorem d_X9_toldMany_16 : decode cX9_toldMany 16 = .ok (.aload_n 0, 1) := zo_42 (zby_w zwX9_toldMany_0 16 rfl)
theorem d_X9_toldMany_17 : decode cX9_toldMany 17 = .ok (.getfield 97, 3) := zo_180 (a := 0) (b := 97) (zby_w zwX9_toldMany_0 17 rfl) (zby_w zwX9_toldMany_0 18 rfl) (zby_w zwX9_toldMany_0 19 rfl) (by decide)
theorem d_X9_toldMany_20 : decode cX9_toldMany 20 = .ok (.goto 57, 3) := zo_167 (a := 0) (b := 57) (zby_w zwX9_toldMany_0 20 rfl) (zby_w zwX9_toldMany_0 21 rfl) (zby_w zwX9_toldMany_0 22 rfl) (by decide)
theorem d_X9_toldMany_23 : decode cX9_toldMany 23 = .ok (.iload_n 1, 1) := zo_27 (zby_w zwX9_toldMany_0 23 rfl)
theorem d_X9_toldMany_24 : decode cX9_toldMany 24 = .ok (.bipush 10, 2) := zo_16 (a := 10) (zby_w zwX9_toldMany_0 24 rfl) (zby_w zwX9_toldMany_0 25 rfl) (by decide)
theorem d_X9_toldMany_26 : decode cX9_toldMany 26 = .ok (.if_icmp .ne 10, 3) := zo_160 (a := 0) (b := 10) (zby_w zwX9_toldMany_0 26 rfl) (zby_w zwX9_toldMany_0 27 rfl) (zby_w zwX9_toldMany_0 28 rfl) (by decide)
theorem d_X9_toldMany_29 : decode cX9_toldMany 29 = .ok (.aload_n 0, 1) := zo_42 (zby_w zwX9_toldMany_0 29 rfl)
theorem d_X9_toldMany_30 : decode cX9_toldMany 30 = .ok (.getfield 84, 3) := zo_180 (a := 0) (b := 84) (zby_w zwX9_toldMany_0 30 rfl) (zby_w zwX9_toldMany_0 31 rfl) (zby_w zwX9_toldMany_0 32 rfl) (by decide)
theorem d_X9_toldMany_33 : decode cX9_toldMany 33 = .ok (.goto 44, 3) := zo_167 (a := 0) (b := 44) (zby_w zwX9_toldMany_1 1 rfl) (zby_w zwX9_toldMany_1 2 rfl) (zby_w zwX9_toldMany_1 3 rfl) (by decide)
theorem d_X9_toldMany_36 : decode cX9_toldMany 36 = .ok (.iload_n 1, 1) := zo_27 (zby_w zwX9_toldMany_1 4 rfl)
theorem d_X9_toldMany_37 : decode cX9_toldMany 37 = .ok (.bipush 11, 2) := zo_16 (a := 11) (zby_w zwX9_toldMany_1 5 rfl) (zby_w zwX9_toldMany_1 6 rfl) (by decide)
theorem d_X9_toldMany_39 : decode cX9_toldMany 39 = .ok (.if_icmp .ne 10, 3) := zo_160 (a := 0) (b := 10) (zby_w zwX9_toldMany_1 7 rfl) (zby_w zwX9_toldMany_1 8 rfl) (zby_w zwX9_toldMany_1 9 rfl) (by decide)
theorem d_X9_toldMany_42 : decode cX9_toldMany 42 = .ok (.aload_n 0, 1) := zo_42 (zby_w zwX9_toldMany_1 10 rfl)
theorem d_X9_toldMany_43 : decode cX9_toldMany 43 = .ok (.getfield 262, 3) := zo_180 (a := 1) (b := 6) (zby_w zwX9_toldMany_1 11 rfl) (zby_w zwX9_toldMany_1 12 rfl) (zby_w zwX9_toldMany_1 13 rfl) (by decide)
theorem d_X9_toldMany_46 : decode cX9_toldMany 46 = .ok (.goto 31, 3) := zo_167 (a := 0) (b := 31) (zby_w zwX9_toldMany_1 14 rfl) (zby_w zwX9_toldMany_1 15 rfl) (zby_w zwX9_toldMany_1 16 rfl) (by decide)
theorem d_X9_toldMany_49 : decode cX9_toldMany 49 = .ok (.iload_n 1, 1) := zo_27 (zby_w zwX9_toldMany_1 17 rfl)
theorem d_X9_toldMany_50 : decode cX9_toldMany 50 = .ok (.bipush 12, 2) := zo_16 (a := 12) (zby_w zwX9_toldMany_1 18 rfl) (zby_w zwX9_toldMany_1 19 rfl) (by decide)
theorem d_X9_toldMany_52 : decode cX9_toldMany 52 = .ok (.if_icmp .ne 10, 3) := zo_160 (a := 0) (b := 10) (zby_w zwX9_toldMany_1 20 rfl) (zby_w zwX9_toldMany_1 21 rfl) (zby_w zwX9_toldMany_1 22 rfl) (by decide)
theorem d_X9_toldMany_55 : decode cX9_toldMany 55 = .ok (.aload_n 0, 1) := zo_42 (zby_w zwX9_toldMany_1 23 rfl)
theorem d_X9_toldMany_56 : decode cX9_toldMany 56 = .ok (.getfield 272, 3) := zo_180 (a := 1) (b := 16) (zby_w zwX9_toldMany_1 24 rfl) (zby_w zwX9_toldMany_1 25 rfl) (zby_w zwX9_toldMany_1 26 rfl) (by decide)
theorem d_X9_toldMany_59 : decode cX9_toldMany 59 = .ok (.goto 18, 3) := zo_167 (a := 0) (b := 18) (zby_w zwX9_toldMany_1 27 rfl) (zby_w zwX9_toldMany_1 28 rfl) (zby_w zwX9_toldMany_1 29 rfl) (by decide)
theorem d_X9_toldMany_62 : decode cX9_toldMany 62 = .ok (.iload_n 1, 1) := zo_27 (zby_w zwX9_toldMany_1 30 rfl)
theorem d_X9_toldMany_63 : decode cX9_toldMany 63 = .ok (.bipush 13, 2) := zo_16 (a := 13) (zby_w zwX9_toldMany_1 31 rfl) (zby_w zwX9_toldMany_1 32 rfl) (by decide)
theorem d_X9_toldMany_65 : decode cX9_toldMany 65 = .ok (.if_icmp .ne 10, 3) := zo_160 (a := 0) (b := 10) (zby_w zwX9_toldMany_2 1 rfl) (zby_w zwX9_toldMany_2 2 rfl) (zby_w zwX9_toldMany_2 3 rfl) (by decide)
theorem d_X9_toldMany_68 : decode cX9_toldMany 68 = .ok (.aload_n 0, 1) := zo_42 (zby_w zwX9_toldMany_2 4 rfl)
theorem d_X9_toldMany_69 : decode cX9_toldMany 69 = .ok (.getfield 297, 3) := zo_180 (a := 1) (b := 41) (zby_w zwX9_toldMany_2 5 rfl) (zby_w zwX9_toldMany_2 6 rfl) (zby_w zwX9_toldMany_2 7 rfl) (by decide)
theorem d_X9_toldMany_72 : decode cX9_toldMany 72 = .ok (.goto 5, 3) := zo_167 (a := 0) (b := 5) (zby_w zwX9_toldMany_2 8 rfl) (zby_w zwX9_toldMany_2 9 rfl) (zby_w zwX9_toldMany_2 10 rfl) (by decide)
theorem d_X9_toldMany_75 : decode cX9_toldMany 75 = .ok (.bipush (-2), 2) := zo_16 (a := 254) (zby_w zwX9_toldMany_2 11 rfl) (zby_w zwX9_toldMany_2 12 rfl) (by decide)
theorem d_X9_toldMany_77 : decode cX9_toldMany 77 = .ok (.ireturn, 1) := zo_172 (zby_w zwX9_toldMany_2 13 rfl)
theorem d_X9_toldSet_0 : decode cX9_toldSet 0 = .ok (.iload_n 1, 1) := zo_27 (zby_w zwX9_toldSet_0 0 rfl)
theorem d_X9_toldSet_1 : decode cX9_toldSet 1 = .ok (.tableswitch 78 0 6 #[43, 48, 53, 58, 63, 68, 73], 43) := by decide +kernel
theorem d_X9_toldSet_44 : decode cX9_toldSet 44 = .ok (.aload_n 0, 1) := zo_42 (zby_w zwX9_toldSet_1 12 rfl)
theorem d_X9_toldSet_45 : decode cX9_toldSet 45 = .ok (.getfield 62, 3) := zo_180 (a := 0) (b := 62) (zby_w zwX9_toldSet_1 13 rfl) (zby_w zwX9_toldSet_1 14 rfl) (zby_w zwX9_toldSet_1 15 rfl) (by decide)
theorem d_X9_toldSet_48 : decode cX9_toldSet 48 = .ok (.ireturn, 1) := zo_172 (zby_w zwX9_toldSet_1 16 rfl)
theorem d_X9_toldSet_49 : decode cX9_toldSet 49 = .ok (.aload_n 0, 1) := zo_42 (zby_w zwX9_toldSet_1 17 rfl)
theorem d_X9_toldSet_50 : decode cX9_toldSet 50 = .ok (.getfield 66, 3) := zo_180 (a := 0) (b := 66) (zby_w zwX9_toldSet_1 18 rfl) (zby_w zwX9_toldSet_1 19 rfl) (zby_w zwX9_toldSet_1 20 rfl) (by decide)
theorem d_X9_toldSet_53 : decode cX9_toldSet 53 = .ok (.ireturn, 1) := zo_172 (zby_w zwX9_toldSet_1 21 rfl)
theorem d_X9_toldSet_54 : decode cX9_toldSet 54 = .ok (.aload_n 0, 1) := zo_42 (zby_w zwX9_toldSet_1 22 rfl)
theorem d_X9_toldSet_55 : decode cX9_toldSet 55 = .ok (.getfield 69, 3) := zo_180 (a := 0) (b := 69) (zby_w zwX9_toldSet_1 23 rfl) (zby_w zwX9_toldSet_1 24 rfl) (zby_w zwX9_toldSet_1 25 rfl) (by decide)
theorem d_X9_toldSet_58 : decode cX9_toldSet 58 = .ok (.ireturn, 1) := zo_172 (zby_w zwX9_toldSet_1 26 rfl)
theorem d_X9_toldSet_59 : decode cX9_toldSet 59 = .ok (.aload_n 0, 1) := zo_42 (zby_w zwX9_toldSet_1 27 rfl)
theorem d_X9_toldSet_60 : decode cX9_toldSet 60 = .ok (.getfield 72, 3) := zo_180 (a := 0) (b := 72) (zby_w zwX9_toldSet_1 28 rfl) (zby_w zwX9_toldSet_1 29 rfl) (zby_w zwX9_toldSet_1 30 rfl) (by decide)
theorem d_X9_toldSet_63 : decode cX9_toldSet 63 = .ok (.ireturn, 1) := zo_172 (zby_w zwX9_toldSet_1 31 rfl)
theorem d_X9_toldSet_64 : decode cX9_toldSet 64 = .ok (.aload_n 0, 1) := zo_42 (zby_w zwX9_toldSet_2 0 rfl)
theorem d_X9_toldSet_65 : decode cX9_toldSet 65 = .ok (.getfield 75, 3) := zo_180 (a := 0) (b := 75) (zby_w zwX9_toldSet_2 1 rfl) (zby_w zwX9_toldSet_2 2 rfl) (zby_w zwX9_toldSet_2 3 rfl) (by decide)
theorem d_X9_toldSet_68 : decode cX9_toldSet 68 = .ok (.ireturn, 1) := zo_172 (zby_w zwX9_toldSet_2 4 rfl)
theorem d_X9_toldSet_69 : decode cX9_toldSet 69 = .ok (.aload_n 0, 1) := zo_42 (zby_w zwX9_toldSet_2 5 rfl)
theorem d_X9_toldSet_70 : decode cX9_toldSet 70 = .ok (.getfield 78, 3) := zo_180 (a := 0) (b := 78) (zby_w zwX9_toldSet_2 6 rfl) (zby_w zwX9_toldSet_2 7 rfl) (zby_w zwX9_toldSet_2 8 rfl) (by decide)
theorem d_X9_toldSet_73 : decode cX9_toldSet 73 = .ok (.ireturn, 1) := zo_172 (zby_w zwX9_toldSet_2 9 rfl)
theorem d_X9_toldSet_74 : decode cX9_toldSet 74 = .ok (.aload_n 0, 1) := zo_42 (zby_w zwX9_toldSet_2 10 rfl)
theorem d_X9_toldSet_75 : decode cX9_toldSet 75 = .ok (.getfield 115, 3) := zo_180 (a := 0) (b := 115) (zby_w zwX9_toldSet_2 11 rfl) (zby_w zwX9_toldSet_2 12 rfl) (zby_w zwX9_toldSet_2 13 rfl) (by decide)
theorem d_X9_toldSet_78 : decode cX9_toldSet 78 = .ok (.ireturn, 1) := zo_172 (zby_w zwX9_toldSet_2 14 rfl)
theorem d_X9_toldSet_79 : decode cX9_toldSet 79 = .ok (.aload_n 0, 1) := zo_42 (zby_w zwX9_toldSet_2 15 rfl)
theorem d_X9_toldSet_80 : decode cX9_toldSet 80 = .ok (.getfield 81, 3) := zo_180 (a := 0) (b := 81) (zby_w zwX9_toldSet_2 16 rfl) (zby_w zwX9_toldSet_2 17 rfl) (zby_w zwX9_toldSet_2 18 rfl) (by decide)
theorem d_X9_toldSet_83 : decode cX9_toldSet 83 = .ok (.ireturn, 1) := zo_172 (zby_w zwX9_toldSet_2 19 rfl)
theorem d_X9_twice_0 : decode cX9_twice 0 = .ok (.iload_n 1, 1) := zo_27 (zby_w zwX9_twice_0 0 rfl)
theorem d_X9_twice_1 : decode cX9_twice 1 = .ok (.i2l, 1) := zo_133 (zby_w zwX9_twice_0 1 rfl)
theorem d_X9_twice_2 : decode cX9_twice 2 = .ok (.lconst 0, 1) := zo_9 (zby_w zwX9_twice_0 2 rfl)
theorem d_X9_twice_3 : decode cX9_twice 3 = .ok (.lconst 1, 1) := zo_10 (zby_w zwX9_twice_0 3 rfl)
theorem d_X9_twice_4 : decode cX9_twice 4 = .ok (.invokestatic 89, 3) := zo_184 (a := 0) (b := 89) (zby_w zwX9_twice_0 4 rfl) (zby_w zwX9_twice_0 5 rfl) (zby_w zwX9_twice_0 6 rfl) (by decide)
theorem d_X9_twice_7 : decode cX9_twice 7 = .ok (.ifCond .ne 6, 3) := zo_154 (a := 0) (b := 6) (zby_w zwX9_twice_0 7 rfl) (zby_w zwX9_twice_0 8 rfl) (zby_w zwX9_twice_0 9 rfl) (by decide)
theorem d_X9_twice_10 : decode cX9_twice 10 = .ok (.bipush (-2), 2) := zo_16 (a := 254) (zby_w zwX9_twice_0 10 rfl) (zby_w zwX9_twice_0 11 rfl) (by decide)
theorem d_X9_twice_12 : decode cX9_twice 12 = .ok (.ireturn, 1) := zo_172 (zby_w zwX9_twice_0 12 rfl)
theorem d_X9_twice_13 : decode cX9_twice 13 = .ok (.iconst 0, 1) := zo_3 (zby_w zwX9_twice_0 13 rfl)
theorem d_X9_twice_14 : decode cX9_twice 14 = .ok (.istore_n 2, 1) := zo_61 (zby_w zwX9_twice_0 14 rfl)
theorem d_X9_twice_15 : decode cX9_twice 15 = .ok (.iconst 0, 1) := zo_3 (zby_w zwX9_twice_0 15 rfl)
theorem d_X9_twice_16 : decode cX9_twice 16 = .ok (.istore_n 3, 1) := zo_62 (zby_w zwX9_twice_0 16 rfl)
theorem d_X9_twice_17 : decode cX9_twice 17 = .ok (.iload_n 3, 1) := zo_29 (zby_w zwX9_twice_0 17 rfl)
theorem d_X9_twice_18 : decode cX9_twice 18 = .ok (.bipush 8, 2) := zo_16 (a := 8) (zby_w zwX9_twice_0 18 rfl) (zby_w zwX9_twice_0 19 rfl) (by decide)
theorem d_X9_twice_20 : decode cX9_twice 20 = .ok (.if_icmp .ge 120, 3) := zo_162 (a := 0) (b := 120) (zby_w zwX9_twice_0 20 rfl) (zby_w zwX9_twice_0 21 rfl) (zby_w zwX9_twice_0 22 rfl) (by decide)
theorem d_X9_twice_23 : decode cX9_twice 23 = .ok (.iconst 0, 1) := zo_3 (zby_w zwX9_twice_0 23 rfl)
theorem d_X9_twice_24 : decode cX9_twice 24 = .ok (.istore 4, 2) := zo_54 (a := 4) (zby_w zwX9_twice_0 24 rfl) (zby_w zwX9_twice_0 25 rfl) (by decide)
theorem d_X9_twice_26 : decode cX9_twice 26 = .ok (.iconst 0, 1) := zo_3 (zby_w zwX9_twice_0 26 rfl)
theorem d_X9_twice_27 : decode cX9_twice 27 = .ok (.istore 5, 2) := zo_54 (a := 5) (zby_w zwX9_twice_0 27 rfl) (zby_w zwX9_twice_0 28 rfl) (by decide)
theorem d_X9_twice_29 : decode cX9_twice 29 = .ok (.iload 5, 2) := zo_21 (a := 5) (zby_w zwX9_twice_0 29 rfl) (zby_w zwX9_twice_0 30 rfl) (by decide)
theorem d_X9_twice_31 : decode cX9_twice 31 = .ok (.aload_n 0, 1) := zo_42 (zby_w zwX9_twice_0 31 rfl)
theorem d_X9_twice_32 : decode cX9_twice 32 = .ok (.getfield 297, 3) := zo_180 (a := 1) (b := 41) (zby_w zwX9_twice_1 0 rfl) (zby_w zwX9_twice_1 1 rfl) (zby_w zwX9_twice_1 2 rfl) (by decide)
theorem d_X9_twice_35 : decode cX9_twice 35 = .ok (.if_icmp .ge 83, 3) := zo_162 (a := 0) (b := 83) (zby_w zwX9_twice_1 3 rfl) (zby_w zwX9_twice_1 4 rfl) (zby_w zwX9_twice_1 5 rfl) (by decide)
theorem d_X9_twice_38 : decode cX9_twice 38 = .ok (.aload_n 0, 1) := zo_42 (zby_w zwX9_twice_1 6 rfl)
theorem d_X9_twice_39 : decode cX9_twice 39 = .ok (.getfield 34, 3) := zo_180 (a := 0) (b := 34) (zby_w zwX9_twice_1 7 rfl) (zby_w zwX9_twice_1 8 rfl) (zby_w zwX9_twice_1 9 rfl) (by decide)
theorem d_X9_twice_42 : decode cX9_twice 42 = .ok (.iload 5, 2) := zo_21 (a := 5) (zby_w zwX9_twice_1 10 rfl) (zby_w zwX9_twice_1 11 rfl) (by decide)
theorem d_X9_twice_44 : decode cX9_twice 44 = .ok (.iaload, 1) := zo_46 (zby_w zwX9_twice_1 12 rfl)
theorem d_X9_twice_45 : decode cX9_twice 45 = .ok (.iload_n 3, 1) := zo_29 (zby_w zwX9_twice_1 13 rfl)
theorem d_X9_twice_46 : decode cX9_twice 46 = .ok (.ishr, 1) := zo_122 (zby_w zwX9_twice_1 14 rfl)
theorem d_X9_twice_47 : decode cX9_twice 47 = .ok (.iconst 1, 1) := zo_4 (zby_w zwX9_twice_1 15 rfl)
theorem d_X9_twice_48 : decode cX9_twice 48 = .ok (.iand, 1) := zo_126 (zby_w zwX9_twice_1 16 rfl)
theorem d_X9_twice_49 : decode cX9_twice 49 = .ok (.iconst 1, 1) := zo_4 (zby_w zwX9_twice_1 17 rfl)
theorem d_X9_twice_50 : decode cX9_twice 50 = .ok (.if_icmp .ne 7, 3) := zo_160 (a := 0) (b := 7) (zby_w zwX9_twice_1 18 rfl) (zby_w zwX9_twice_1 19 rfl) (zby_w zwX9_twice_1 20 rfl) (by decide)
theorem d_X9_twice_53 : decode cX9_twice 53 = .ok (.iconst 1, 1) := zo_4 (zby_w zwX9_twice_1 21 rfl)
theorem d_X9_twice_54 : decode cX9_twice 54 = .ok (.goto 4, 3) := zo_167 (a := 0) (b := 4) (zby_w zwX9_twice_1 22 rfl) (zby_w zwX9_twice_1 23 rfl) (zby_w zwX9_twice_1 24 rfl) (by decide)
theorem d_X9_twice_57 : decode cX9_twice 57 = .ok (.iconst 0, 1) := zo_3 (zby_w zwX9_twice_1 25 rfl)
theorem d_X9_twice_58 : decode cX9_twice 58 = .ok (.istore 6, 2) := zo_54 (a := 6) (zby_w zwX9_twice_1 26 rfl) (zby_w zwX9_twice_1 27 rfl) (by decide)
theorem d_X9_twice_60 : decode cX9_twice 60 = .ok (.iload_n 1, 1) := zo_27 (zby_w zwX9_twice_1 28 rfl)
theorem d_X9_twice_61 : decode cX9_twice 61 = .ok (.iconst 1, 1) := zo_4 (zby_w zwX9_twice_1 29 rfl)
theorem d_X9_twice_62 : decode cX9_twice 62 = .ok (.if_icmp .ne 27, 3) := zo_160 (a := 0) (b := 27) (zby_w zwX9_twice_1 30 rfl) (zby_w zwX9_twice_1 31 rfl) (zby_w zwX9_twice_1 32 rfl) (by decide)
theorem d_X9_twice_65 : decode cX9_twice 65 = .ok (.aload_n 0, 1) := zo_42 (zby_w zwX9_twice_2 1 rfl)
theorem d_X9_twice_66 : decode cX9_twice 66 = .ok (.getfield 37, 3) := zo_180 (a := 0) (b := 37) (zby_w zwX9_twice_2 2 rfl) (zby_w zwX9_twice_2 3 rfl) (zby_w zwX9_twice_2 4 rfl) (by decide)
theorem d_X9_twice_69 : decode cX9_twice 69 = .ok (.iload 5, 2) := zo_21 (a := 5) (zby_w zwX9_twice_2 5 rfl) (zby_w zwX9_twice_2 6 rfl) (by decide)
theorem d_X9_twice_71 : decode cX9_twice 71 = .ok (.iaload, 1) := zo_46 (zby_w zwX9_twice_2 7 rfl)
theorem d_X9_twice_72 : decode cX9_twice 72 = .ok (.aload_n 0, 1) := zo_42 (zby_w zwX9_twice_2 8 rfl)
theorem d_X9_twice_73 : decode cX9_twice 73 = .ok (.getfield 34, 3) := zo_180 (a := 0) (b := 34) (zby_w zwX9_twice_2 9 rfl) (zby_w zwX9_twice_2 10 rfl) (zby_w zwX9_twice_2 11 rfl) (by decide)
theorem d_X9_twice_76 : decode cX9_twice 76 = .ok (.iload 5, 2) := zo_21 (a := 5) (zby_w zwX9_twice_2 12 rfl) (zby_w zwX9_twice_2 13 rfl) (by decide)
theorem d_X9_twice_78 : decode cX9_twice 78 = .ok (.iaload, 1) := zo_46 (zby_w zwX9_twice_2 14 rfl)
theorem d_X9_twice_79 : decode cX9_twice 79 = .ok (.invokestatic 108, 3) := zo_184 (a := 0) (b := 108) (zby_w zwX9_twice_2 15 rfl) (zby_w zwX9_twice_2 16 rfl) (zby_w zwX9_twice_2 17 rfl) (by decide)
theorem d_X9_twice_82 : decode cX9_twice 82 = .ok (.if_icmp .le 7, 3) := zo_164 (a := 0) (b := 7) (zby_w zwX9_twice_2 18 rfl) (zby_w zwX9_twice_2 19 rfl) (zby_w zwX9_twice_2 20 rfl) (by decide)
theorem d_X9_twice_85 : decode cX9_twice 85 = .ok (.iconst 1, 1) := zo_4 (zby_w zwX9_twice_2 21 rfl)
theorem d_X9_twice_86 : decode cX9_twice 86 = .ok (.goto 4, 3) := zo_167 (a := 0) (b := 4) (zby_w zwX9_twice_2 22 rfl) (zby_w zwX9_twice_2 23 rfl) (zby_w zwX9_twice_2 24 rfl) (by decide)
theorem d_X9_twice_89 : decode cX9_twice 89 = .ok (.iconst 0, 1) := zo_3 (zby_w zwX9_twice_2 25 rfl)
theorem d_X9_twice_90 : decode cX9_twice 90 = .ok (.istore 7, 2) := zo_54 (a := 7) (zby_w zwX9_twice_2 26 rfl) (zby_w zwX9_twice_2 27 rfl) (by decide)
theorem d_X9_twice_92 : decode cX9_twice 92 = .ok (.iload 4, 2) := zo_21 (a := 4) (zby_w zwX9_twice_2 28 rfl) (zby_w zwX9_twice_2 29 rfl) (by decide)
theorem d_X9_twice_94 : decode cX9_twice 94 = .ok (.iload 6, 2) := zo_21 (a := 6) (zby_w zwX9_twice_2 30 rfl) (zby_w zwX9_twice_2 31 rfl) (by decide)
theorem d_X9_twice_96 : decode cX9_twice 96 = .ok (.ifCond .ne 8, 3) := zo_154 (a := 0) (b := 8) (zby_w zwX9_twice_3 0 rfl) (zby_w zwX9_twice_3 1 rfl) (zby_w zwX9_twice_3 2 rfl) (by decide)
theorem d_X9_twice_99 : decode cX9_twice 99 = .ok (.iload 7, 2) := zo_21 (a := 7) (zby_w zwX9_twice_3 3 rfl) (zby_w zwX9_twice_3 4 rfl) (by decide)
theorem d_X9_twice_101 : decode cX9_twice 101 = .ok (.ifCond .eq 7, 3) := zo_153 (a := 0) (b := 7) (zby_w zwX9_twice_3 5 rfl) (zby_w zwX9_twice_3 6 rfl) (zby_w zwX9_twice_3 7 rfl) (by decide)
theorem d_X9_twice_104 : decode cX9_twice 104 = .ok (.iconst 1, 1) := zo_4 (zby_w zwX9_twice_3 8 rfl)
theorem d_X9_twice_105 : decode cX9_twice 105 = .ok (.goto 4, 3) := zo_167 (a := 0) (b := 4) (zby_w zwX9_twice_3 9 rfl) (zby_w zwX9_twice_3 10 rfl) (zby_w zwX9_twice_3 11 rfl) (by decide)
theorem d_X9_twice_108 : decode cX9_twice 108 = .ok (.iconst 0, 1) := zo_3 (zby_w zwX9_twice_3 12 rfl)
theorem d_X9_twice_109 : decode cX9_twice 109 = .ok (.iadd, 1) := zo_96 (zby_w zwX9_twice_3 13 rfl)
theorem d_X9_twice_110 : decode cX9_twice 110 = .ok (.istore 4, 2) := zo_54 (a := 4) (zby_w zwX9_twice_3 14 rfl) (zby_w zwX9_twice_3 15 rfl) (by decide)
theorem d_X9_twice_112 : decode cX9_twice 112 = .ok (.iinc 5 1, 3) := by decide +kernel
theorem d_X9_twice_115 : decode cX9_twice 115 = .ok (.goto (-86), 3) := zo_167 (a := 255) (b := 170) (zby_w zwX9_twice_3 19 rfl) (zby_w zwX9_twice_3 20 rfl) (zby_w zwX9_twice_3 21 rfl) (by decide)
theorem d_X9_twice_118 : decode cX9_twice 118 = .ok (.iload_n 2, 1) := zo_28 (zby_w zwX9_twice_3 22 rfl)
theorem d_X9_twice_119 : decode cX9_twice 119 = .ok (.iload 4, 2) := zo_21 (a := 4) (zby_w zwX9_twice_3 23 rfl) (zby_w zwX9_twice_3 24 rfl) (by decide)
theorem d_X9_twice_121 : decode cX9_twice 121 = .ok (.iconst 1, 1) := zo_4 (zby_w zwX9_twice_3 25 rfl)
theorem d_X9_twice_122 : decode cX9_twice 122 = .ok (.if_icmp .le 9, 3) := zo_164 (a := 0) (b := 9) (zby_w zwX9_twice_3 26 rfl) (zby_w zwX9_twice_3 27 rfl) (zby_w zwX9_twice_3 28 rfl) (by decide)
theorem d_X9_twice_125 : decode cX9_twice 125 = .ok (.iconst 1, 1) := zo_4 (zby_w zwX9_twice_3 29 rfl)
theorem d_X9_twice_126 : decode cX9_twice 126 = .ok (.iload_n 3, 1) := zo_29 (zby_w zwX9_twice_3 30 rfl)
theorem d_X9_twice_127 : decode cX9_twice 127 = .ok (.ishl, 1) := zo_120 (zby_w zwX9_twice_3 31 rfl)
theorem d_X9_twice_128 : decode cX9_twice 128 = .ok (.goto 4, 3) := zo_167 (a := 0) (b := 4) (zby_w zwX9_twice_4 0 rfl) (zby_w zwX9_twice_4 1 rfl) (zby_w zwX9_twice_4 2 rfl) (by decide)
theorem d_X9_twice_131 : decode cX9_twice 131 = .ok (.iconst 0, 1) := zo_3 (zby_w zwX9_twice_4 3 rfl)
theorem d_X9_twice_132 : decode cX9_twice 132 = .ok (.ior, 1) := zo_128 (zby_w zwX9_twice_4 4 rfl)
theorem d_X9_twice_133 : decode cX9_twice 133 = .ok (.istore_n 2, 1) := zo_61 (zby_w zwX9_twice_4 5 rfl)
theorem d_X9_twice_134 : decode cX9_twice 134 = .ok (.iinc 3 1, 3) := by decide +kernel
theorem d_X9_twice_137 : decode cX9_twice 137 = .ok (.goto (-120), 3) := zo_167 (a := 255) (b := 136) (zby_w zwX9_twice_4 9 rfl) (zby_w zwX9_twice_4 10 rfl) (zby_w zwX9_twice_4 11 rfl) (by decide)
theorem d_X9_twice_140 : decode cX9_twice 140 = .ok (.iload_n 2, 1) := zo_28 (zby_w zwX9_twice_4 12 rfl)
theorem d_X9_twice_141 : decode cX9_twice 141 = .ok (.ireturn, 1) := zo_172 (zby_w zwX9_twice_4 13 rfl)
theorem d_X9_wipe_0 : decode cX9_wipe 0 = .ok (.aload_n 0, 1) := zo_42 (zby_w zwX9_wipe_0 0 rfl)
theorem d_X9_wipe_1 : decode cX9_wipe 1 = .ok (.getfield 130, 3) := zo_180 (a := 0) (b := 130) (zby_w zwX9_wipe_0 1 rfl) (zby_w zwX9_wipe_0 2 rfl) (zby_w zwX9_wipe_0 3 rfl) (by decide)
theorem d_X9_wipe_4 : decode cX9_wipe 4 = .ok (.istore_n 1, 1) := zo_60 (zby_w zwX9_wipe_0 4 rfl)
theorem d_X9_wipe_5 : decode cX9_wipe 5 = .ok (.aload_n 0, 1) := zo_42 (zby_w zwX9_wipe_0 5 rfl)
theorem d_X9_wipe_6 : decode cX9_wipe 6 = .ok (.iconst 0, 1) := zo_3 (zby_w zwX9_wipe_0 6 rfl)
theorem d_X9_wipe_7 : decode cX9_wipe 7 = .ok (.putfield 130, 3) := zo_181 (a := 0) (b := 130) (zby_w zwX9_wipe_0 7 rfl) (zby_w zwX9_wipe_0 8 rfl) (zby_w zwX9_wipe_0 9 rfl) (by decide)
theorem d_X9_wipe_10 : decode cX9_wipe 10 = .ok (.iload_n 1, 1) := zo_27 (zby_w zwX9_wipe_0 10 rfl)
theorem d_X9_wipe_11 : decode cX9_wipe 11 = .ok (.ireturn, 1) := zo_172 (zby_w zwX9_wipe_0 11 rfl)
theorem d_X9_worst_0 : decode cX9_worst 0 = .ok (.aload_n 0, 1) := zo_42 (zby_w zwX9_worst_0 0 rfl)
theorem d_X9_worst_1 : decode cX9_worst 1 = .ok (.iload_n 1, 1) := zo_27 (zby_w zwX9_worst_0 1 rfl)
theorem d_X9_worst_2 : decode cX9_worst 2 = .ok (.invokevirtual 112, 3) := zo_182 (a := 0) (b := 112) (zby_w zwX9_worst_0 2 rfl) (zby_w zwX9_worst_0 3 rfl) (zby_w zwX9_worst_0 4 rfl) (by decide)
theorem d_X9_worst_5 : decode cX9_worst 5 = .ok (.ifCond .ne 5, 3) := zo_154 (a := 0) (b := 5) (zby_w zwX9_worst_0 5 rfl) (zby_w zwX9_worst_0 6 rfl) (zby_w zwX9_worst_0 7 rfl) (by decide)
theorem d_X9_worst_8 : decode cX9_worst 8 = .ok (.iconst (-1), 1) := zo_2 (zby_w zwX9_worst_0 8 rfl)
theorem d_X9_worst_9 : decode cX9_worst 9 = .ok (.ireturn, 1) := zo_172 (zby_w zwX9_worst_0 9 rfl)
theorem d_X9_worst_10 : decode cX9_worst 10 = .ok (.iload_n 2, 1) := zo_28 (zby_w zwX9_worst_0 10 rfl)
theorem d_X9_worst_11 : decode cX9_worst 11 = .ok (.invokestatic 216, 3) := zo_184 (a := 0) (b := 216) (zby_w zwX9_worst_0 11 rfl) (zby_w zwX9_worst_0 12 rfl) (zby_w zwX9_worst_0 13 rfl) (by decide)
theorem d_X9_worst_14 : decode cX9_worst 14 = .ok (.ifCond .eq 20, 3) := zo_153 (a := 0) (b := 20) (zby_w zwX9_worst_0 14 rfl) (zby_w zwX9_worst_0 15 rfl) (zby_w zwX9_worst_0 16 rfl) (by decide)
theorem d_X9_worst_17 : decode cX9_worst 17 = .ok (.iload_n 3, 1) := zo_29 (zby_w zwX9_worst_0 17 rfl)
theorem d_X9_worst_18 : decode cX9_worst 18 = .ok (.invokestatic 219, 3) := zo_184 (a := 0) (b := 219) (zby_w zwX9_worst_0 18 rfl) (zby_w zwX9_worst_0 19 rfl) (zby_w zwX9_worst_0 20 rfl) (by decide)
theorem d_X9_worst_21 : decode cX9_worst 21 = .ok (.ifCond .eq 13, 3) := zo_153 (a := 0) (b := 13) (zby_w zwX9_worst_0 21 rfl) (zby_w zwX9_worst_0 22 rfl) (zby_w zwX9_worst_0 23 rfl) (by decide)
theorem d_X9_worst_24 : decode cX9_worst 24 = .ok (.aload_n 0, 1) := zo_42 (zby_w zwX9_worst_0 24 rfl)
theorem d_X9_worst_25 : decode cX9_worst 25 = .ok (.iload_n 1, 1) := zo_27 (zby_w zwX9_worst_0 25 rfl)
theorem d_X9_worst_26 : decode cX9_worst 26 = .ok (.iload_n 2, 1) := zo_28 (zby_w zwX9_worst_0 26 rfl)
theorem d_X9_worst_27 : decode cX9_worst 27 = .ok (.iload_n 3, 1) := zo_29 (zby_w zwX9_worst_0 27 rfl)
theorem d_X9_worst_28 : decode cX9_worst 28 = .ok (.invokevirtual 222, 3) := zo_182 (a := 0) (b := 222) (zby_w zwX9_worst_0 28 rfl) (zby_w zwX9_worst_0 29 rfl) (zby_w zwX9_worst_0 30 rfl) (by decide)
theorem d_X9_worst_31 : decode cX9_worst 31 = .ok (.goto 5, 3) := zo_167 (a := 0) (b := 5) (zby_w zwX9_worst_0 31 rfl) (zby_w zwX9_worst_0 32 rfl) (zby_w zwX9_worst_0 33 rfl) (by decide)
theorem d_X9_worst_34 : decode cX9_worst 34 = .ok (.bipush (-2), 2) := zo_16 (a := 254) (zby_w zwX9_worst_1 2 rfl) (zby_w zwX9_worst_1 3 rfl) (by decide)
theorem d_X9_worst_36 : decode cX9_worst 36 = .ok (.ireturn, 1) := zo_172 (zby_w zwX9_worst_1 4 rfl)
theorem d_X9_worstOf_0 : decode cX9_worstOf 0 = .ok (.iload_n 2, 1) := zo_28 (zby_w zwX9_worstOf_0 0 rfl)
theorem d_X9_worstOf_1 : decode cX9_worstOf 1 = .ok (.ifCond .ne 11, 3) := zo_154 (a := 0) (b := 11) (zby_w zwX9_worstOf_0 1 rfl) (zby_w zwX9_worstOf_0 2 rfl) (zby_w zwX9_worstOf_0 3 rfl) (by decide)
theorem d_X9_worstOf_4 : decode cX9_worstOf 4 = .ok (.aload_n 0, 1) := zo_42 (zby_w zwX9_worstOf_0 4 rfl)
theorem d_X9_worstOf_5 : decode cX9_worstOf 5 = .ok (.iload_n 1, 1) := zo_27 (zby_w zwX9_worstOf_0 5 rfl)
theorem d_X9_worstOf_6 : decode cX9_worstOf 6 = .ok (.invokevirtual 206, 3) := zo_182 (a := 0) (b := 206) (zby_w zwX9_worstOf_0 6 rfl) (zby_w zwX9_worstOf_0 7 rfl) (zby_w zwX9_worstOf_0 8 rfl) (by decide)
theorem d_X9_worstOf_9 : decode cX9_worstOf 9 = .ok (.goto 44, 3) := zo_167 (a := 0) (b := 44) (zby_w zwX9_worstOf_0 9 rfl) (zby_w zwX9_worstOf_0 10 rfl) (zby_w zwX9_worstOf_0 11 rfl) (by decide)
theorem d_X9_worstOf_12 : decode cX9_worstOf 12 = .ok (.iload_n 2, 1) := zo_28 (zby_w zwX9_worstOf_0 12 rfl)
theorem d_X9_worstOf_13 : decode cX9_worstOf 13 = .ok (.iconst 1, 1) := zo_4 (zby_w zwX9_worstOf_0 13 rfl)
theorem d_X9_worstOf_14 : decode cX9_worstOf 14 = .ok (.if_icmp .ne 23, 3) := zo_160 (a := 0) (b := 23) (zby_w zwX9_worstOf_0 14 rfl) (zby_w zwX9_worstOf_0 15 rfl) (zby_w zwX9_worstOf_0 16 rfl) (by decide)
theorem d_X9_worstOf_17 : decode cX9_worstOf 17 = .ok (.aload_n 0, 1) := zo_42 (zby_w zwX9_worstOf_0 17 rfl)
theorem d_X9_worstOf_18 : decode cX9_worstOf 18 = .ok (.iload_n 3, 1) := zo_29 (zby_w zwX9_worstOf_0 18 rfl)
theorem d_X9_worstOf_19 : decode cX9_worstOf 19 = .ok (.invokevirtual 163, 3) := zo_182 (a := 0) (b := 163) (zby_w zwX9_worstOf_0 19 rfl) (zby_w zwX9_worstOf_0 20 rfl) (zby_w zwX9_worstOf_0 21 rfl) (by decide)
theorem d_X9_worstOf_22 : decode cX9_worstOf 22 = .ok (.ifCond .le 11, 3) := zo_158 (a := 0) (b := 11) (zby_w zwX9_worstOf_0 22 rfl) (zby_w zwX9_worstOf_0 23 rfl) (zby_w zwX9_worstOf_0 24 rfl) (by decide)
theorem d_X9_worstOf_25 : decode cX9_worstOf 25 = .ok (.aload_n 0, 1) := zo_42 (zby_w zwX9_worstOf_0 25 rfl)
theorem d_X9_worstOf_26 : decode cX9_worstOf 26 = .ok (.iload_n 1, 1) := zo_27 (zby_w zwX9_worstOf_0 26 rfl)
theorem d_X9_worstOf_27 : decode cX9_worstOf 27 = .ok (.invokevirtual 209, 3) := zo_182 (a := 0) (b := 209) (zby_w zwX9_worstOf_0 27 rfl) (zby_w zwX9_worstOf_0 28 rfl) (zby_w zwX9_worstOf_0 29 rfl) (by decide)
theorem d_X9_worstOf_30 : decode cX9_worstOf 30 = .ok (.goto 23, 3) := zo_167 (a := 0) (b := 23) (zby_w zwX9_worstOf_0 30 rfl) (zby_w zwX9_worstOf_0 31 rfl) (zby_w zwX9_worstOf_0 32 rfl) (by decide)
theorem d_X9_worstOf_33 : decode cX9_worstOf 33 = .ok (.iconst 0, 1) := zo_3 (zby_w zwX9_worstOf_1 1 rfl)
theorem d_X9_worstOf_34 : decode cX9_worstOf 34 = .ok (.goto 19, 3) := zo_167 (a := 0) (b := 19) (zby_w zwX9_worstOf_1 2 rfl) (zby_w zwX9_worstOf_1 3 rfl) (zby_w zwX9_worstOf_1 4 rfl) (by decide)
theorem d_X9_worstOf_37 : decode cX9_worstOf 37 = .ok (.aload_n 0, 1) := zo_42 (zby_w zwX9_worstOf_1 5 rfl)
theorem d_X9_worstOf_38 : decode cX9_worstOf 38 = .ok (.getfield 69, 3) := zo_180 (a := 0) (b := 69) (zby_w zwX9_worstOf_1 6 rfl) (zby_w zwX9_worstOf_1 7 rfl) (zby_w zwX9_worstOf_1 8 rfl) (by decide)
theorem d_X9_worstOf_41 : decode cX9_worstOf 41 = .ok (.aload_n 0, 1) := zo_42 (zby_w zwX9_worstOf_1 9 rfl)
theorem d_X9_worstOf_42 : decode cX9_worstOf 42 = .ok (.getfield 72, 3) := zo_180 (a := 0) (b := 72) (zby_w zwX9_worstOf_1 10 rfl) (zby_w zwX9_worstOf_1 11 rfl) (zby_w zwX9_worstOf_1 12 rfl) (by decide)
theorem d_X9_worstOf_45 : decode cX9_worstOf 45 = .ok (.imul, 1) := zo_104 (zby_w zwX9_worstOf_1 13 rfl)
theorem d_X9_worstOf_46 : decode cX9_worstOf 46 = .ok (.aload_n 0, 1) := zo_42 (zby_w zwX9_worstOf_1 14 rfl)
theorem d_X9_worstOf_47 : decode cX9_worstOf 47 = .ok (.getfield 7, 3) := zo_180 (a := 0) (b := 7) (zby_w zwX9_worstOf_1 15 rfl) (zby_w zwX9_worstOf_1 16 rfl) (zby_w zwX9_worstOf_1 17 rfl) (by decide)
theorem d_X9_worstOf_50 : decode cX9_worstOf 50 = .ok (.iload_n 1, 1) := zo_27 (zby_w zwX9_worstOf_1 18 rfl)
theorem d_X9_worstOf_51 : decode cX9_worstOf 51 = .ok (.iaload, 1) := zo_46 (zby_w zwX9_worstOf_1 19 rfl)
theorem d_X9_worstOf_52 : decode cX9_worstOf 52 = .ok (.imul, 1) := zo_104 (zby_w zwX9_worstOf_1 20 rfl)
theorem d_X9_worstOf_53 : decode cX9_worstOf 53 = .ok (.ireturn, 1) := zo_172 (zby_w zwX9_worstOf_1 21 rfl)
theorem d_X9_years_0 : decode cX9_years 0 = .ok (.aload_n 0, 1) := zo_42 (zby_w zwX9_years_0 0 rfl)
theorem d_X9_years_1 : decode cX9_years 1 = .ok (.iload_n 1, 1) := zo_27 (zby_w zwX9_years_0 1 rfl)
theorem d_X9_years_2 : decode cX9_years 2 = .ok (.invokevirtual 112, 3) := zo_182 (a := 0) (b := 112) (zby_w zwX9_years_0 2 rfl) (zby_w zwX9_years_0 3 rfl) (zby_w zwX9_years_0 4 rfl) (by decide)
theorem d_X9_years_5 : decode cX9_years 5 = .ok (.ifCond .ne 5, 3) := zo_154 (a := 0) (b := 5) (zby_w zwX9_years_0 5 rfl) (zby_w zwX9_years_0 6 rfl) (zby_w zwX9_years_0 7 rfl) (by decide)
theorem d_X9_years_8 : decode cX9_years 8 = .ok (.iconst (-1), 1) := zo_2 (zby_w zwX9_years_0 8 rfl)
theorem d_X9_years_9 : decode cX9_years 9 = .ok (.ireturn, 1) := zo_172 (zby_w zwX9_years_0 9 rfl)
theorem d_X9_years_10 : decode cX9_years 10 = .ok (.iload_n 2, 1) := zo_28 (zby_w zwX9_years_0 10 rfl)
theorem d_X9_years_11 : decode cX9_years 11 = .ok (.i2l, 1) := zo_133 (zby_w zwX9_years_0 11 rfl)
theorem d_X9_years_12 : decode cX9_years 12 = .ok (.lconst 0, 1) := zo_9 (zby_w zwX9_years_0 12 rfl)
theorem d_X9_years_13 : decode cX9_years 13 = .ok (.ldc2_w 260, 3) := zo_20 (a := 1) (b := 4) (zby_w zwX9_years_0 13 rfl) (zby_w zwX9_years_0 14 rfl) (zby_w zwX9_years_0 15 rfl) (by decide)
theorem d_X9_years_16 : decode cX9_years 16 = .ok (.invokestatic 89, 3) := zo_184 (a := 0) (b := 89) (zby_w zwX9_years_0 16 rfl) (zby_w zwX9_years_0 17 rfl) (zby_w zwX9_years_0 18 rfl) (by decide)
theorem d_X9_years_19 : decode cX9_years 19 = .ok (.ifCond .eq 28, 3) := zo_153 (a := 0) (b := 28) (zby_w zwX9_years_0 19 rfl) (zby_w zwX9_years_0 20 rfl) (zby_w zwX9_years_0 21 rfl) (by decide)
theorem d_X9_years_22 : decode cX9_years 22 = .ok (.iload_n 3, 1) := zo_29 (zby_w zwX9_years_0 22 rfl)
theorem d_X9_years_23 : decode cX9_years 23 = .ok (.i2l, 1) := zo_133 (zby_w zwX9_years_0 23 rfl)
theorem d_X9_years_24 : decode cX9_years 24 = .ok (.lconst 1, 1) := zo_10 (zby_w zwX9_years_0 24 rfl)
theorem d_X9_years_25 : decode cX9_years 25 = .ok (.ldc2_w 300, 3) := zo_20 (a := 1) (b := 44) (zby_w zwX9_years_0 25 rfl) (zby_w zwX9_years_0 26 rfl) (zby_w zwX9_years_0 27 rfl) (by decide)
theorem d_X9_years_28 : decode cX9_years 28 = .ok (.invokestatic 89, 3) := zo_184 (a := 0) (b := 89) (zby_w zwX9_years_0 28 rfl) (zby_w zwX9_years_0 29 rfl) (zby_w zwX9_years_0 30 rfl) (by decide)
theorem d_X9_years_31 : decode cX9_years 31 = .ok (.ifCond .eq 16, 3) := zo_153 (a := 0) (b := 16) (zby_w zwX9_years_0 31 rfl) (zby_w zwX9_years_0 32 rfl) (zby_w zwX9_years_0 33 rfl) (by decide)
theorem d_X9_years_34 : decode cX9_years 34 = .ok (.iload 4, 2) := zo_21 (a := 4) (zby_w zwX9_years_1 2 rfl) (zby_w zwX9_years_1 3 rfl) (by decide)
theorem d_X9_years_36 : decode cX9_years 36 = .ok (.i2l, 1) := zo_133 (zby_w zwX9_years_1 4 rfl)
theorem d_X9_years_37 : decode cX9_years 37 = .ok (.lconst 0, 1) := zo_9 (zby_w zwX9_years_1 5 rfl)
theorem d_X9_years_38 : decode cX9_years 38 = .ok (.ldc2_w 102, 3) := zo_20 (a := 0) (b := 102) (zby_w zwX9_years_1 6 rfl) (zby_w zwX9_years_1 7 rfl) (zby_w zwX9_years_1 8 rfl) (by decide)
theorem d_X9_years_41 : decode cX9_years 41 = .ok (.invokestatic 89, 3) := zo_184 (a := 0) (b := 89) (zby_w zwX9_years_1 9 rfl) (zby_w zwX9_years_1 10 rfl) (zby_w zwX9_years_1 11 rfl) (by decide)
theorem d_X9_years_44 : decode cX9_years 44 = .ok (.ifCond .ne 6, 3) := zo_154 (a := 0) (b := 6) (zby_w zwX9_years_1 12 rfl) (zby_w zwX9_years_1 13 rfl) (zby_w zwX9_years_1 14 rfl) (by decide)
theorem d_X9_years_47 : decode cX9_years 47 = .ok (.bipush (-2), 2) := zo_16 (a := 254) (zby_w zwX9_years_1 15 rfl) (zby_w zwX9_years_1 16 rfl) (by decide)
theorem d_X9_years_49 : decode cX9_years 49 = .ok (.ireturn, 1) := zo_172 (zby_w zwX9_years_1 17 rfl)
theorem d_X9_years_50 : decode cX9_years 50 = .ok (.iload_n 2, 1) := zo_28 (zby_w zwX9_years_1 18 rfl)
theorem d_X9_years_51 : decode cX9_years 51 = .ok (.istore 5, 2) := zo_54 (a := 5) (zby_w zwX9_years_1 19 rfl) (zby_w zwX9_years_1 20 rfl) (by decide)
theorem d_X9_years_53 : decode cX9_years 53 = .ok (.iconst 0, 1) := zo_3 (zby_w zwX9_years_1 21 rfl)
theorem d_X9_years_54 : decode cX9_years 54 = .ok (.istore 6, 2) := zo_54 (a := 6) (zby_w zwX9_years_1 22 rfl) (zby_w zwX9_years_1 23 rfl) (by decide)
theorem d_X9_years_56 : decode cX9_years 56 = .ok (.iconst 0, 1) := zo_3 (zby_w zwX9_years_1 24 rfl)
theorem d_X9_years_57 : decode cX9_years 57 = .ok (.istore 7, 2) := zo_54 (a := 7) (zby_w zwX9_years_1 25 rfl) (zby_w zwX9_years_1 26 rfl) (by decide)
theorem d_X9_years_59 : decode cX9_years 59 = .ok (.iload 7, 2) := zo_21 (a := 7) (zby_w zwX9_years_1 27 rfl) (zby_w zwX9_years_1 28 rfl) (by decide)
theorem d_X9_years_61 : decode cX9_years 61 = .ok (.iload_n 3, 1) := zo_29 (zby_w zwX9_years_1 29 rfl)
theorem d_X9_years_62 : decode cX9_years 62 = .ok (.if_icmp .ge 57, 3) := zo_162 (a := 0) (b := 57) (zby_w zwX9_years_1 30 rfl) (zby_w zwX9_years_1 31 rfl) (zby_w zwX9_years_1 32 rfl) (by decide)
theorem d_X9_years_65 : decode cX9_years 65 = .ok (.ldc2_w 157, 3) := zo_20 (a := 0) (b := 157) (zby_w zwX9_years_2 1 rfl) (zby_w zwX9_years_2 2 rfl) (zby_w zwX9_years_2 3 rfl) (by decide)
theorem d_X9_years_68 : decode cX9_years 68 = .ok (.iload 5, 2) := zo_21 (a := 5) (zby_w zwX9_years_2 4 rfl) (zby_w zwX9_years_2 5 rfl) (by decide)
theorem d_X9_years_70 : decode cX9_years 70 = .ok (.i2l, 1) := zo_133 (zby_w zwX9_years_2 6 rfl)
theorem d_X9_years_71 : decode cX9_years 71 = .ok (.lmul, 1) := zo_105 (zby_w zwX9_years_2 7 rfl)
theorem d_X9_years_72 : decode cX9_years 72 = .ok (.ldc2_w 159, 3) := zo_20 (a := 0) (b := 159) (zby_w zwX9_years_2 8 rfl) (zby_w zwX9_years_2 9 rfl) (zby_w zwX9_years_2 10 rfl) (by decide)
theorem d_X9_years_75 : decode cX9_years 75 = .ok (.ladd, 1) := zo_97 (zby_w zwX9_years_2 11 rfl)
theorem d_X9_years_76 : decode cX9_years 76 = .ok (.ldc2_w 161, 3) := zo_20 (a := 0) (b := 161) (zby_w zwX9_years_2 12 rfl) (zby_w zwX9_years_2 13 rfl) (zby_w zwX9_years_2 14 rfl) (by decide)
theorem d_X9_years_79 : decode cX9_years 79 = .ok (.lrem, 1) := zo_113 (zby_w zwX9_years_2 15 rfl)
theorem d_X9_years_80 : decode cX9_years 80 = .ok (.l2i, 1) := zo_136 (zby_w zwX9_years_2 16 rfl)
theorem d_X9_years_81 : decode cX9_years 81 = .ok (.istore 5, 2) := zo_54 (a := 5) (zby_w zwX9_years_2 17 rfl) (zby_w zwX9_years_2 18 rfl) (by decide)
theorem d_X9_years_83 : decode cX9_years 83 = .ok (.iload 6, 2) := zo_21 (a := 6) (zby_w zwX9_years_2 19 rfl) (zby_w zwX9_years_2 20 rfl) (by decide)
theorem d_X9_years_85 : decode cX9_years 85 = .ok (.iload 5, 2) := zo_21 (a := 5) (zby_w zwX9_years_2 21 rfl) (zby_w zwX9_years_2 22 rfl) (by decide)
theorem d_X9_years_87 : decode cX9_years 87 = .ok (.bipush 24, 2) := zo_16 (a := 24) (zby_w zwX9_years_2 23 rfl) (zby_w zwX9_years_2 24 rfl) (by decide)
theorem d_X9_years_89 : decode cX9_years 89 = .ok (.idiv, 1) := zo_108 (zby_w zwX9_years_2 25 rfl)
theorem d_X9_years_90 : decode cX9_years 90 = .ok (.bipush 10, 2) := zo_16 (a := 10) (zby_w zwX9_years_2 26 rfl) (zby_w zwX9_years_2 27 rfl) (by decide)
theorem d_X9_years_92 : decode cX9_years 92 = .ok (.irem, 1) := zo_112 (zby_w zwX9_years_2 28 rfl)
theorem d_X9_years_93 : decode cX9_years 93 = .ok (.aload_n 0, 1) := zo_42 (zby_w zwX9_years_2 29 rfl)
theorem d_X9_years_94 : decode cX9_years 94 = .ok (.iload 5, 2) := zo_21 (a := 5) (zby_w zwX9_years_2 30 rfl) (zby_w zwX9_years_2 31 rfl) (by decide)
theorem d_X9_years_96 : decode cX9_years 96 = .ok (.bipush 24, 2) := zo_16 (a := 24) (zby_w zwX9_years_3 0 rfl) (zby_w zwX9_years_3 1 rfl) (by decide)
theorem d_X9_years_98 : decode cX9_years 98 = .ok (.irem, 1) := zo_112 (zby_w zwX9_years_3 2 rfl)
theorem d_X9_years_99 : decode cX9_years 99 = .ok (.invokevirtual 163, 3) := zo_182 (a := 0) (b := 163) (zby_w zwX9_years_3 3 rfl) (zby_w zwX9_years_3 4 rfl) (zby_w zwX9_years_3 5 rfl) (by decide)
theorem d_X9_years_102 : decode cX9_years 102 = .ok (.if_icmp .ge 7, 3) := zo_162 (a := 0) (b := 7) (zby_w zwX9_years_3 6 rfl) (zby_w zwX9_years_3 7 rfl) (zby_w zwX9_years_3 8 rfl) (by decide)
theorem d_X9_years_105 : decode cX9_years 105 = .ok (.iconst 1, 1) := zo_4 (zby_w zwX9_years_3 9 rfl)
theorem d_X9_years_106 : decode cX9_years 106 = .ok (.goto 4, 3) := zo_167 (a := 0) (b := 4) (zby_w zwX9_years_3 10 rfl) (zby_w zwX9_years_3 11 rfl) (zby_w zwX9_years_3 12 rfl) (by decide)
theorem d_X9_years_109 : decode cX9_years 109 = .ok (.iconst 0, 1) := zo_3 (zby_w zwX9_years_3 13 rfl)
theorem d_X9_years_110 : decode cX9_years 110 = .ok (.iadd, 1) := zo_96 (zby_w zwX9_years_3 14 rfl)
theorem d_X9_years_111 : decode cX9_years 111 = .ok (.istore 6, 2) := zo_54 (a := 6) (zby_w zwX9_years_3 15 rfl) (zby_w zwX9_years_3 16 rfl) (by decide)
theorem d_X9_years_113 : decode cX9_years 113 = .ok (.iinc 7 1, 3) := by decide +kernel
theorem d_X9_years_116 : decode cX9_years 116 = .ok (.goto (-57), 3) := zo_167 (a := 255) (b := 199) (zby_w zwX9_years_3 20 rfl) (zby_w zwX9_years_3 21 rfl) (zby_w zwX9_years_3 22 rfl) (by decide)
theorem d_X9_years_119 : decode cX9_years 119 = .ok (.iload 4, 2) := zo_21 (a := 4) (zby_w zwX9_years_3 23 rfl) (zby_w zwX9_years_3 24 rfl) (by decide)
theorem d_X9_years_121 : decode cX9_years 121 = .ok (.ifCond .ne 14, 3) := zo_154 (a := 0) (b := 14) (zby_w zwX9_years_3 25 rfl) (zby_w zwX9_years_3 26 rfl) (zby_w zwX9_years_3 27 rfl) (by decide)
theorem d_X9_years_124 : decode cX9_years 124 = .ok (.iload 6, 2) := zo_21 (a := 6) (zby_w zwX9_years_3 28 rfl) (zby_w zwX9_years_3 29 rfl) (by decide)
theorem d_X9_years_126 : decode cX9_years 126 = .ok (.aload_n 0, 1) := zo_42 (zby_w zwX9_years_3 30 rfl)
theorem d_X9_years_127 : decode cX9_years 127 = .ok (.iload_n 1, 1) := zo_27 (zby_w zwX9_years_3 31 rfl)
theorem d_X9_years_128 : decode cX9_years 128 = .ok (.invokevirtual 209, 3) := zo_182 (a := 0) (b := 209) (zby_w zwX9_years_4 0 rfl) (zby_w zwX9_years_4 1 rfl) (zby_w zwX9_years_4 2 rfl) (by decide)
theorem d_X9_years_131 : decode cX9_years 131 = .ok (.imul, 1) := zo_104 (zby_w zwX9_years_4 3 rfl)
theorem d_X9_years_132 : decode cX9_years 132 = .ok (.goto 21, 3) := zo_167 (a := 0) (b := 21) (zby_w zwX9_years_4 4 rfl) (zby_w zwX9_years_4 5 rfl) (zby_w zwX9_years_4 6 rfl) (by decide)
theorem d_X9_years_135 : decode cX9_years 135 = .ok (.iload 4, 2) := zo_21 (a := 4) (zby_w zwX9_years_4 7 rfl) (zby_w zwX9_years_4 8 rfl) (by decide)
theorem d_X9_years_137 : decode cX9_years 137 = .ok (.iconst 1, 1) := zo_4 (zby_w zwX9_years_4 9 rfl)
theorem d_X9_years_138 : decode cX9_years 138 = .ok (.if_icmp .ne 13, 3) := zo_160 (a := 0) (b := 13) (zby_w zwX9_years_4 10 rfl) (zby_w zwX9_years_4 11 rfl) (zby_w zwX9_years_4 12 rfl) (by decide)
theorem d_X9_years_141 : decode cX9_years 141 = .ok (.iload_n 3, 1) := zo_29 (zby_w zwX9_years_4 13 rfl)
theorem d_X9_years_142 : decode cX9_years 142 = .ok (.aload_n 0, 1) := zo_42 (zby_w zwX9_years_4 14 rfl)
theorem d_X9_years_143 : decode cX9_years 143 = .ok (.iload_n 1, 1) := zo_27 (zby_w zwX9_years_4 15 rfl)
theorem d_X9_years_144 : decode cX9_years 144 = .ok (.invokevirtual 206, 3) := zo_182 (a := 0) (b := 206) (zby_w zwX9_years_4 16 rfl) (zby_w zwX9_years_4 17 rfl) (zby_w zwX9_years_4 18 rfl) (by decide)
theorem d_X9_years_147 : decode cX9_years 147 = .ok (.imul, 1) := zo_104 (zby_w zwX9_years_4 19 rfl)
theorem d_X9_years_148 : decode cX9_years 148 = .ok (.goto 5, 3) := zo_167 (a := 0) (b := 5) (zby_w zwX9_years_4 20 rfl) (zby_w zwX9_years_4 21 rfl) (zby_w zwX9_years_4 22 rfl) (by decide)
theorem d_X9_years_151 : decode cX9_years 151 = .ok (.iload 6, 2) := zo_21 (a := 6) (zby_w zwX9_years_4 23 rfl) (zby_w zwX9_years_4 24 rfl) (by decide)
theorem d_X9_years_153 : decode cX9_years 153 = .ok (.ireturn, 1) := zo_172 (zby_w zwX9_years_4 25 rfl)
