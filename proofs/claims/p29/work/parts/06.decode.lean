/-! bytes of a code, read by windows -/
def zby (c : ByteArray) (p : Nat) (b : UInt8) : Prop := ∃ h : p < c.size, c[p] = b
theorem zby_w {c : ByteArray} {n : Nat} {ch : List UInt8} (h : (c.data.toList.drop n).take 36 = ch) (r : Nat) {b : UInt8} (hr : ch[r]? = some b) : zby c (n + r) b := by
  rw [← h] at hr
  have h36 : r < 36 := by
    have := (List.getElem?_eq_some_iff.mp hr).1
    rw [List.length_take] at this
    omega
  rw [List.getElem?_take_of_lt h36, List.getElem?_drop] at hr
  rcases c with ⟨⟨l⟩⟩
  obtain ⟨h1, h2⟩ := List.getElem?_eq_some_iff.mp hr
  exact ⟨h1, h2⟩
theorem zby_u {c : ByteArray} {p : Nat} {b : UInt8} (h : zby c p b) : (Jvm.ClassFile.Reader.u1 : Jvm.ClassFile.Decoder Nat) c p = .ok (b.toNat, p + 1) := by
  obtain ⟨h1, h2⟩ := h
  show (dite (p < c.size) (fun h => (set (p + 1) >>= fun _ => pure c[p].toNat : Jvm.ClassFile.Decoder Nat)) (fun _ => throw (Jvm.ClassFile.DecodeError.truncated p))) c p = _
  rw [dif_pos h1, h2]
  rfl
theorem zbnd {α β : Type} {r : Jvm.ClassFile.Decoder α} {f : α → Jvm.ClassFile.Decoder β} {c : ByteArray} {p q : Nat} {a : α} (h : r c p = .ok (a, q)) : (r >>= f) c p = f a c q := by
  have e : (r >>= f) c p = Except.bind (r c p) (fun x => f x.1 c x.2) := rfl
  rw [e, h]
  rfl
theorem zdec {c : ByteArray} {p n : Nat} {i : Jvm.ClassFile.Instr} (h : Jvm.ClassFile.Decoder.instr p c p = .ok (i, p + n)) : decode c p = .ok (i, n) := by
  have e : decode c p = Except.bind (Jvm.ClassFile.Decoder.instr p c p) (fun x => .ok (x.1, x.2 - p)) := rfl
  rw [e, h]
  show Except.ok (i, p + n - p) = _
  rw [Nat.add_sub_cancel_left]
theorem zmap {α β : Type} {r : Jvm.ClassFile.Decoder α} {f : α → β} {c : ByteArray} {p q : Nat} {a : α} (h : r c p = .ok (a, q)) : (f <$> r : Jvm.ClassFile.Decoder β) c p = .ok (f a, q) := by
  have e : (f <$> r : Jvm.ClassFile.Decoder β) c p = Except.bind (r c p) (fun x => .ok (f x.1, x.2)) := rfl
  rw [e, h]
  rfl
theorem zby_s1 {c : ByteArray} {p : Nat} {a : UInt8} (h : zby c p a) : (Jvm.ClassFile.Reader.s1 : Jvm.ClassFile.Decoder Int) c p = .ok (Jvm.ClassFile.Reader.signed 8 a.toNat, p + 1) := zmap (zby_u h)
theorem zby_u2 {c : ByteArray} {p : Nat} {a b : UInt8} (h : zby c p a) (h2 : zby c (p + 1) b) : (Jvm.ClassFile.Reader.u2 : Jvm.ClassFile.Decoder Nat) c p = .ok (a.toNat * 256 + b.toNat, p + 1 + 1) := by
  unfold Jvm.ClassFile.Reader.u2
  rw [zbnd (zby_u h), zbnd (zby_u h2)]
  rfl
theorem zby_s2 {c : ByteArray} {p : Nat} {a b : UInt8} (h : zby c p a) (h2 : zby c (p + 1) b) : (Jvm.ClassFile.Reader.s2 : Jvm.ClassFile.Decoder Int) c p = .ok (Jvm.ClassFile.Reader.signed 16 (a.toNat * 256 + b.toNat), p + 1 + 1) := zmap (zby_u2 h h2)
set_option maxRecDepth 100000 in
theorem zo_2 {c : ByteArray} {p : Nat} (h : zby c p 2) : decode c p = .ok (.iconst (-1), 1) := by
  refine zdec ?_
  unfold Jvm.ClassFile.Decoder.instr
  rw [zbnd (zby_u h)]
  rfl
set_option maxRecDepth 100000 in
theorem zo_3 {c : ByteArray} {p : Nat} (h : zby c p 3) : decode c p = .ok (.iconst 0, 1) := by
  refine zdec ?_
  unfold Jvm.ClassFile.Decoder.instr
  rw [zbnd (zby_u h)]
  rfl
set_option maxRecDepth 100000 in
theorem zo_4 {c : ByteArray} {p : Nat} (h : zby c p 4) : decode c p = .ok (.iconst 1, 1) := by
  refine zdec ?_
  unfold Jvm.ClassFile.Decoder.instr
  rw [zbnd (zby_u h)]
  rfl
set_option maxRecDepth 100000 in
theorem zo_5 {c : ByteArray} {p : Nat} (h : zby c p 5) : decode c p = .ok (.iconst 2, 1) := by
  refine zdec ?_
  unfold Jvm.ClassFile.Decoder.instr
  rw [zbnd (zby_u h)]
  rfl
set_option maxRecDepth 100000 in
theorem zo_6 {c : ByteArray} {p : Nat} (h : zby c p 6) : decode c p = .ok (.iconst 3, 1) := by
  refine zdec ?_
  unfold Jvm.ClassFile.Decoder.instr
  rw [zbnd (zby_u h)]
  rfl
set_option maxRecDepth 100000 in
theorem zo_7 {c : ByteArray} {p : Nat} (h : zby c p 7) : decode c p = .ok (.iconst 4, 1) := by
  refine zdec ?_
  unfold Jvm.ClassFile.Decoder.instr
  rw [zbnd (zby_u h)]
  rfl
set_option maxRecDepth 100000 in
theorem zo_8 {c : ByteArray} {p : Nat} (h : zby c p 8) : decode c p = .ok (.iconst 5, 1) := by
  refine zdec ?_
  unfold Jvm.ClassFile.Decoder.instr
  rw [zbnd (zby_u h)]
  rfl
set_option maxRecDepth 100000 in
theorem zo_9 {c : ByteArray} {p : Nat} (h : zby c p 9) : decode c p = .ok (.lconst 0, 1) := by
  refine zdec ?_
  unfold Jvm.ClassFile.Decoder.instr
  rw [zbnd (zby_u h)]
  rfl
set_option maxRecDepth 100000 in
theorem zo_10 {c : ByteArray} {p : Nat} (h : zby c p 10) : decode c p = .ok (.lconst 1, 1) := by
  refine zdec ?_
  unfold Jvm.ClassFile.Decoder.instr
  rw [zbnd (zby_u h)]
  rfl
set_option maxRecDepth 100000 in
theorem zo_16 {c : ByteArray} {p : Nat} (h : zby c p 16) {a : UInt8} (h1 : zby c (p + 1) a) {k : Int} (hk : Jvm.ClassFile.Reader.signed 8 a.toNat = k) : decode c p = .ok (Jvm.ClassFile.Instr.bipush k, 2) := by
  refine zdec ?_
  unfold Jvm.ClassFile.Decoder.instr
  rw [zbnd (zby_u h), ← hk]
  show ((Jvm.ClassFile.Reader.s1 : Jvm.ClassFile.Decoder Int) >>= fun x => pure (Jvm.ClassFile.Instr.bipush x)) c (p + 1) = _
  rw [zbnd (zby_s1 h1)]
  rfl
set_option maxRecDepth 100000 in
theorem zo_17 {c : ByteArray} {p : Nat} (h : zby c p 17) {a b : UInt8} (h1 : zby c (p + 1) a) (h2 : zby c (p + 1 + 1) b) {k : Int} (hk : Jvm.ClassFile.Reader.signed 16 (a.toNat * 256 + b.toNat) = k) : decode c p = .ok (Jvm.ClassFile.Instr.sipush k, 3) := by
  refine zdec ?_
  unfold Jvm.ClassFile.Decoder.instr
  rw [zbnd (zby_u h), ← hk]
  show ((Jvm.ClassFile.Reader.s2 : Jvm.ClassFile.Decoder Int) >>= fun x => pure (Jvm.ClassFile.Instr.sipush x)) c (p + 1) = _
  rw [zbnd (zby_s2 h1 h2)]
  rfl
set_option maxRecDepth 100000 in
theorem zo_18 {c : ByteArray} {p : Nat} (h : zby c p 18) {a : UInt8} (h1 : zby c (p + 1) a) {k : Nat} (hk : a.toNat = k) : decode c p = .ok (Jvm.ClassFile.Instr.ldc k, 2) := by
  refine zdec ?_
  unfold Jvm.ClassFile.Decoder.instr
  rw [zbnd (zby_u h), ← hk]
  show ((Jvm.ClassFile.Reader.u1 : Jvm.ClassFile.Decoder Nat) >>= fun x => pure (Jvm.ClassFile.Instr.ldc x)) c (p + 1) = _
  rw [zbnd (zby_u h1)]
  rfl
set_option maxRecDepth 100000 in
theorem zo_19 {c : ByteArray} {p : Nat} (h : zby c p 19) {a b : UInt8} (h1 : zby c (p + 1) a) (h2 : zby c (p + 1 + 1) b) {k : Nat} (hk : a.toNat * 256 + b.toNat = k) : decode c p = .ok (Jvm.ClassFile.Instr.ldc_w k, 3) := by
  refine zdec ?_
  unfold Jvm.ClassFile.Decoder.instr
  rw [zbnd (zby_u h), ← hk]
  show ((Jvm.ClassFile.Reader.u2 : Jvm.ClassFile.Decoder Nat) >>= fun x => pure (Jvm.ClassFile.Instr.ldc_w x)) c (p + 1) = _
  rw [zbnd (zby_u2 h1 h2)]
  rfl
set_option maxRecDepth 100000 in
theorem zo_20 {c : ByteArray} {p : Nat} (h : zby c p 20) {a b : UInt8} (h1 : zby c (p + 1) a) (h2 : zby c (p + 1 + 1) b) {k : Nat} (hk : a.toNat * 256 + b.toNat = k) : decode c p = .ok (Jvm.ClassFile.Instr.ldc2_w k, 3) := by
  refine zdec ?_
  unfold Jvm.ClassFile.Decoder.instr
  rw [zbnd (zby_u h), ← hk]
  show ((Jvm.ClassFile.Reader.u2 : Jvm.ClassFile.Decoder Nat) >>= fun x => pure (Jvm.ClassFile.Instr.ldc2_w x)) c (p + 1) = _
  rw [zbnd (zby_u2 h1 h2)]
  rfl
set_option maxRecDepth 100000 in
theorem zo_21 {c : ByteArray} {p : Nat} (h : zby c p 21) {a : UInt8} (h1 : zby c (p + 1) a) {k : Nat} (hk : a.toNat = k) : decode c p = .ok (Jvm.ClassFile.Instr.iload k, 2) := by
  refine zdec ?_
  unfold Jvm.ClassFile.Decoder.instr
  rw [zbnd (zby_u h), ← hk]
  show ((Jvm.ClassFile.Reader.u1 : Jvm.ClassFile.Decoder Nat) >>= fun x => pure (Jvm.ClassFile.Instr.iload x)) c (p + 1) = _
  rw [zbnd (zby_u h1)]
  rfl
set_option maxRecDepth 100000 in
theorem zo_22 {c : ByteArray} {p : Nat} (h : zby c p 22) {a : UInt8} (h1 : zby c (p + 1) a) {k : Nat} (hk : a.toNat = k) : decode c p = .ok (Jvm.ClassFile.Instr.lload k, 2) := by
  refine zdec ?_
  unfold Jvm.ClassFile.Decoder.instr
  rw [zbnd (zby_u h), ← hk]
  show ((Jvm.ClassFile.Reader.u1 : Jvm.ClassFile.Decoder Nat) >>= fun x => pure (Jvm.ClassFile.Instr.lload x)) c (p + 1) = _
  rw [zbnd (zby_u h1)]
  rfl
set_option maxRecDepth 100000 in
theorem zo_25 {c : ByteArray} {p : Nat} (h : zby c p 25) {a : UInt8} (h1 : zby c (p + 1) a) {k : Nat} (hk : a.toNat = k) : decode c p = .ok (Jvm.ClassFile.Instr.aload k, 2) := by
  refine zdec ?_
  unfold Jvm.ClassFile.Decoder.instr
  rw [zbnd (zby_u h), ← hk]
  show ((Jvm.ClassFile.Reader.u1 : Jvm.ClassFile.Decoder Nat) >>= fun x => pure (Jvm.ClassFile.Instr.aload x)) c (p + 1) = _
  rw [zbnd (zby_u h1)]
  rfl
set_option maxRecDepth 100000 in
theorem zo_26 {c : ByteArray} {p : Nat} (h : zby c p 26) : decode c p = .ok (.iload_n 0, 1) := by
  refine zdec ?_
  unfold Jvm.ClassFile.Decoder.instr
  rw [zbnd (zby_u h)]
  rfl
set_option maxRecDepth 100000 in
theorem zo_27 {c : ByteArray} {p : Nat} (h : zby c p 27) : decode c p = .ok (.iload_n 1, 1) := by
  refine zdec ?_
  unfold Jvm.ClassFile.Decoder.instr
  rw [zbnd (zby_u h)]
  rfl
set_option maxRecDepth 100000 in
theorem zo_28 {c : ByteArray} {p : Nat} (h : zby c p 28) : decode c p = .ok (.iload_n 2, 1) := by
  refine zdec ?_
  unfold Jvm.ClassFile.Decoder.instr
  rw [zbnd (zby_u h)]
  rfl
set_option maxRecDepth 100000 in
theorem zo_29 {c : ByteArray} {p : Nat} (h : zby c p 29) : decode c p = .ok (.iload_n 3, 1) := by
  refine zdec ?_
  unfold Jvm.ClassFile.Decoder.instr
  rw [zbnd (zby_u h)]
  rfl
set_option maxRecDepth 100000 in
theorem zo_30 {c : ByteArray} {p : Nat} (h : zby c p 30) : decode c p = .ok (.lload_n 0, 1) := by
  refine zdec ?_
  unfold Jvm.ClassFile.Decoder.instr
  rw [zbnd (zby_u h)]
  rfl
set_option maxRecDepth 100000 in
theorem zo_31 {c : ByteArray} {p : Nat} (h : zby c p 31) : decode c p = .ok (.lload_n 1, 1) := by
  refine zdec ?_
  unfold Jvm.ClassFile.Decoder.instr
  rw [zbnd (zby_u h)]
  rfl
set_option maxRecDepth 100000 in
theorem zo_32 {c : ByteArray} {p : Nat} (h : zby c p 32) : decode c p = .ok (.lload_n 2, 1) := by
  refine zdec ?_
  unfold Jvm.ClassFile.Decoder.instr
  rw [zbnd (zby_u h)]
  rfl
set_option maxRecDepth 100000 in
theorem zo_42 {c : ByteArray} {p : Nat} (h : zby c p 42) : decode c p = .ok (.aload_n 0, 1) := by
  refine zdec ?_
  unfold Jvm.ClassFile.Decoder.instr
  rw [zbnd (zby_u h)]
  rfl
set_option maxRecDepth 100000 in
theorem zo_43 {c : ByteArray} {p : Nat} (h : zby c p 43) : decode c p = .ok (.aload_n 1, 1) := by
  refine zdec ?_
  unfold Jvm.ClassFile.Decoder.instr
  rw [zbnd (zby_u h)]
  rfl
set_option maxRecDepth 100000 in
theorem zo_44 {c : ByteArray} {p : Nat} (h : zby c p 44) : decode c p = .ok (.aload_n 2, 1) := by
  refine zdec ?_
  unfold Jvm.ClassFile.Decoder.instr
  rw [zbnd (zby_u h)]
  rfl
set_option maxRecDepth 100000 in
theorem zo_45 {c : ByteArray} {p : Nat} (h : zby c p 45) : decode c p = .ok (.aload_n 3, 1) := by
  refine zdec ?_
  unfold Jvm.ClassFile.Decoder.instr
  rw [zbnd (zby_u h)]
  rfl
set_option maxRecDepth 100000 in
theorem zo_46 {c : ByteArray} {p : Nat} (h : zby c p 46) : decode c p = .ok (.iaload, 1) := by
  refine zdec ?_
  unfold Jvm.ClassFile.Decoder.instr
  rw [zbnd (zby_u h)]
  rfl
set_option maxRecDepth 100000 in
theorem zo_47 {c : ByteArray} {p : Nat} (h : zby c p 47) : decode c p = .ok (.laload, 1) := by
  refine zdec ?_
  unfold Jvm.ClassFile.Decoder.instr
  rw [zbnd (zby_u h)]
  rfl
set_option maxRecDepth 100000 in
theorem zo_51 {c : ByteArray} {p : Nat} (h : zby c p 51) : decode c p = .ok (.baload, 1) := by
  refine zdec ?_
  unfold Jvm.ClassFile.Decoder.instr
  rw [zbnd (zby_u h)]
  rfl
set_option maxRecDepth 100000 in
theorem zo_54 {c : ByteArray} {p : Nat} (h : zby c p 54) {a : UInt8} (h1 : zby c (p + 1) a) {k : Nat} (hk : a.toNat = k) : decode c p = .ok (Jvm.ClassFile.Instr.istore k, 2) := by
  refine zdec ?_
  unfold Jvm.ClassFile.Decoder.instr
  rw [zbnd (zby_u h), ← hk]
  show ((Jvm.ClassFile.Reader.u1 : Jvm.ClassFile.Decoder Nat) >>= fun x => pure (Jvm.ClassFile.Instr.istore x)) c (p + 1) = _
  rw [zbnd (zby_u h1)]
  rfl
set_option maxRecDepth 100000 in
theorem zo_55 {c : ByteArray} {p : Nat} (h : zby c p 55) {a : UInt8} (h1 : zby c (p + 1) a) {k : Nat} (hk : a.toNat = k) : decode c p = .ok (Jvm.ClassFile.Instr.lstore k, 2) := by
  refine zdec ?_
  unfold Jvm.ClassFile.Decoder.instr
  rw [zbnd (zby_u h), ← hk]
  show ((Jvm.ClassFile.Reader.u1 : Jvm.ClassFile.Decoder Nat) >>= fun x => pure (Jvm.ClassFile.Instr.lstore x)) c (p + 1) = _
  rw [zbnd (zby_u h1)]
  rfl
set_option maxRecDepth 100000 in
theorem zo_58 {c : ByteArray} {p : Nat} (h : zby c p 58) {a : UInt8} (h1 : zby c (p + 1) a) {k : Nat} (hk : a.toNat = k) : decode c p = .ok (Jvm.ClassFile.Instr.astore k, 2) := by
  refine zdec ?_
  unfold Jvm.ClassFile.Decoder.instr
  rw [zbnd (zby_u h), ← hk]
  show ((Jvm.ClassFile.Reader.u1 : Jvm.ClassFile.Decoder Nat) >>= fun x => pure (Jvm.ClassFile.Instr.astore x)) c (p + 1) = _
  rw [zbnd (zby_u h1)]
  rfl
set_option maxRecDepth 100000 in
theorem zo_59 {c : ByteArray} {p : Nat} (h : zby c p 59) : decode c p = .ok (.istore_n 0, 1) := by
  refine zdec ?_
  unfold Jvm.ClassFile.Decoder.instr
  rw [zbnd (zby_u h)]
  rfl
set_option maxRecDepth 100000 in
theorem zo_60 {c : ByteArray} {p : Nat} (h : zby c p 60) : decode c p = .ok (.istore_n 1, 1) := by
  refine zdec ?_
  unfold Jvm.ClassFile.Decoder.instr
  rw [zbnd (zby_u h)]
  rfl
set_option maxRecDepth 100000 in
theorem zo_61 {c : ByteArray} {p : Nat} (h : zby c p 61) : decode c p = .ok (.istore_n 2, 1) := by
  refine zdec ?_
  unfold Jvm.ClassFile.Decoder.instr
  rw [zbnd (zby_u h)]
  rfl
set_option maxRecDepth 100000 in
theorem zo_62 {c : ByteArray} {p : Nat} (h : zby c p 62) : decode c p = .ok (.istore_n 3, 1) := by
  refine zdec ?_
  unfold Jvm.ClassFile.Decoder.instr
  rw [zbnd (zby_u h)]
  rfl
set_option maxRecDepth 100000 in
theorem zo_64 {c : ByteArray} {p : Nat} (h : zby c p 64) : decode c p = .ok (.lstore_n 1, 1) := by
  refine zdec ?_
  unfold Jvm.ClassFile.Decoder.instr
  rw [zbnd (zby_u h)]
  rfl
set_option maxRecDepth 100000 in
theorem zo_65 {c : ByteArray} {p : Nat} (h : zby c p 65) : decode c p = .ok (.lstore_n 2, 1) := by
  refine zdec ?_
  unfold Jvm.ClassFile.Decoder.instr
  rw [zbnd (zby_u h)]
  rfl
set_option maxRecDepth 100000 in
theorem zo_76 {c : ByteArray} {p : Nat} (h : zby c p 76) : decode c p = .ok (.astore_n 1, 1) := by
  refine zdec ?_
  unfold Jvm.ClassFile.Decoder.instr
  rw [zbnd (zby_u h)]
  rfl
set_option maxRecDepth 100000 in
theorem zo_77 {c : ByteArray} {p : Nat} (h : zby c p 77) : decode c p = .ok (.astore_n 2, 1) := by
  refine zdec ?_
  unfold Jvm.ClassFile.Decoder.instr
  rw [zbnd (zby_u h)]
  rfl
set_option maxRecDepth 100000 in
theorem zo_78 {c : ByteArray} {p : Nat} (h : zby c p 78) : decode c p = .ok (.astore_n 3, 1) := by
  refine zdec ?_
  unfold Jvm.ClassFile.Decoder.instr
  rw [zbnd (zby_u h)]
  rfl
set_option maxRecDepth 100000 in
theorem zo_79 {c : ByteArray} {p : Nat} (h : zby c p 79) : decode c p = .ok (.iastore, 1) := by
  refine zdec ?_
  unfold Jvm.ClassFile.Decoder.instr
  rw [zbnd (zby_u h)]
  rfl
set_option maxRecDepth 100000 in
theorem zo_80 {c : ByteArray} {p : Nat} (h : zby c p 80) : decode c p = .ok (.lastore, 1) := by
  refine zdec ?_
  unfold Jvm.ClassFile.Decoder.instr
  rw [zbnd (zby_u h)]
  rfl
set_option maxRecDepth 100000 in
theorem zo_84 {c : ByteArray} {p : Nat} (h : zby c p 84) : decode c p = .ok (.bastore, 1) := by
  refine zdec ?_
  unfold Jvm.ClassFile.Decoder.instr
  rw [zbnd (zby_u h)]
  rfl
set_option maxRecDepth 100000 in
theorem zo_87 {c : ByteArray} {p : Nat} (h : zby c p 87) : decode c p = .ok (.pop, 1) := by
  refine zdec ?_
  unfold Jvm.ClassFile.Decoder.instr
  rw [zbnd (zby_u h)]
  rfl
set_option maxRecDepth 100000 in
theorem zo_88 {c : ByteArray} {p : Nat} (h : zby c p 88) : decode c p = .ok (.pop2, 1) := by
  refine zdec ?_
  unfold Jvm.ClassFile.Decoder.instr
  rw [zbnd (zby_u h)]
  rfl
set_option maxRecDepth 100000 in
theorem zo_89 {c : ByteArray} {p : Nat} (h : zby c p 89) : decode c p = .ok (.dup, 1) := by
  refine zdec ?_
  unfold Jvm.ClassFile.Decoder.instr
  rw [zbnd (zby_u h)]
  rfl
set_option maxRecDepth 100000 in
theorem zo_92 {c : ByteArray} {p : Nat} (h : zby c p 92) : decode c p = .ok (.dup2, 1) := by
  refine zdec ?_
  unfold Jvm.ClassFile.Decoder.instr
  rw [zbnd (zby_u h)]
  rfl
set_option maxRecDepth 100000 in
theorem zo_96 {c : ByteArray} {p : Nat} (h : zby c p 96) : decode c p = .ok (.iadd, 1) := by
  refine zdec ?_
  unfold Jvm.ClassFile.Decoder.instr
  rw [zbnd (zby_u h)]
  rfl
set_option maxRecDepth 100000 in
theorem zo_97 {c : ByteArray} {p : Nat} (h : zby c p 97) : decode c p = .ok (.ladd, 1) := by
  refine zdec ?_
  unfold Jvm.ClassFile.Decoder.instr
  rw [zbnd (zby_u h)]
  rfl
set_option maxRecDepth 100000 in
theorem zo_100 {c : ByteArray} {p : Nat} (h : zby c p 100) : decode c p = .ok (.isub, 1) := by
  refine zdec ?_
  unfold Jvm.ClassFile.Decoder.instr
  rw [zbnd (zby_u h)]
  rfl
set_option maxRecDepth 100000 in
theorem zo_104 {c : ByteArray} {p : Nat} (h : zby c p 104) : decode c p = .ok (.imul, 1) := by
  refine zdec ?_
  unfold Jvm.ClassFile.Decoder.instr
  rw [zbnd (zby_u h)]
  rfl
set_option maxRecDepth 100000 in
theorem zo_105 {c : ByteArray} {p : Nat} (h : zby c p 105) : decode c p = .ok (.lmul, 1) := by
  refine zdec ?_
  unfold Jvm.ClassFile.Decoder.instr
  rw [zbnd (zby_u h)]
  rfl
set_option maxRecDepth 100000 in
theorem zo_108 {c : ByteArray} {p : Nat} (h : zby c p 108) : decode c p = .ok (.idiv, 1) := by
  refine zdec ?_
  unfold Jvm.ClassFile.Decoder.instr
  rw [zbnd (zby_u h)]
  rfl
set_option maxRecDepth 100000 in
theorem zo_109 {c : ByteArray} {p : Nat} (h : zby c p 109) : decode c p = .ok (.ldiv, 1) := by
  refine zdec ?_
  unfold Jvm.ClassFile.Decoder.instr
  rw [zbnd (zby_u h)]
  rfl
set_option maxRecDepth 100000 in
theorem zo_112 {c : ByteArray} {p : Nat} (h : zby c p 112) : decode c p = .ok (.irem, 1) := by
  refine zdec ?_
  unfold Jvm.ClassFile.Decoder.instr
  rw [zbnd (zby_u h)]
  rfl
set_option maxRecDepth 100000 in
theorem zo_113 {c : ByteArray} {p : Nat} (h : zby c p 113) : decode c p = .ok (.lrem, 1) := by
  refine zdec ?_
  unfold Jvm.ClassFile.Decoder.instr
  rw [zbnd (zby_u h)]
  rfl
set_option maxRecDepth 100000 in
theorem zo_120 {c : ByteArray} {p : Nat} (h : zby c p 120) : decode c p = .ok (.ishl, 1) := by
  refine zdec ?_
  unfold Jvm.ClassFile.Decoder.instr
  rw [zbnd (zby_u h)]
  rfl
set_option maxRecDepth 100000 in
theorem zo_121 {c : ByteArray} {p : Nat} (h : zby c p 121) : decode c p = .ok (.lshl, 1) := by
  refine zdec ?_
  unfold Jvm.ClassFile.Decoder.instr
  rw [zbnd (zby_u h)]
  rfl
set_option maxRecDepth 100000 in
theorem zo_122 {c : ByteArray} {p : Nat} (h : zby c p 122) : decode c p = .ok (.ishr, 1) := by
  refine zdec ?_
  unfold Jvm.ClassFile.Decoder.instr
  rw [zbnd (zby_u h)]
  rfl
set_option maxRecDepth 100000 in
theorem zo_123 {c : ByteArray} {p : Nat} (h : zby c p 123) : decode c p = .ok (.lshr, 1) := by
  refine zdec ?_
  unfold Jvm.ClassFile.Decoder.instr
  rw [zbnd (zby_u h)]
  rfl
set_option maxRecDepth 100000 in
theorem zo_124 {c : ByteArray} {p : Nat} (h : zby c p 124) : decode c p = .ok (.iushr, 1) := by
  refine zdec ?_
  unfold Jvm.ClassFile.Decoder.instr
  rw [zbnd (zby_u h)]
  rfl
set_option maxRecDepth 100000 in
theorem zo_126 {c : ByteArray} {p : Nat} (h : zby c p 126) : decode c p = .ok (.iand, 1) := by
  refine zdec ?_
  unfold Jvm.ClassFile.Decoder.instr
  rw [zbnd (zby_u h)]
  rfl
set_option maxRecDepth 100000 in
theorem zo_128 {c : ByteArray} {p : Nat} (h : zby c p 128) : decode c p = .ok (.ior, 1) := by
  refine zdec ?_
  unfold Jvm.ClassFile.Decoder.instr
  rw [zbnd (zby_u h)]
  rfl
set_option maxRecDepth 100000 in
theorem zo_130 {c : ByteArray} {p : Nat} (h : zby c p 130) : decode c p = .ok (.ixor, 1) := by
  refine zdec ?_
  unfold Jvm.ClassFile.Decoder.instr
  rw [zbnd (zby_u h)]
  rfl
set_option maxRecDepth 100000 in
theorem zo_133 {c : ByteArray} {p : Nat} (h : zby c p 133) : decode c p = .ok (.i2l, 1) := by
  refine zdec ?_
  unfold Jvm.ClassFile.Decoder.instr
  rw [zbnd (zby_u h)]
  rfl
set_option maxRecDepth 100000 in
theorem zo_136 {c : ByteArray} {p : Nat} (h : zby c p 136) : decode c p = .ok (.l2i, 1) := by
  refine zdec ?_
  unfold Jvm.ClassFile.Decoder.instr
  rw [zbnd (zby_u h)]
  rfl
set_option maxRecDepth 100000 in
theorem zo_148 {c : ByteArray} {p : Nat} (h : zby c p 148) : decode c p = .ok (.lcmp, 1) := by
  refine zdec ?_
  unfold Jvm.ClassFile.Decoder.instr
  rw [zbnd (zby_u h)]
  rfl
set_option maxRecDepth 100000 in
theorem zo_153 {c : ByteArray} {p : Nat} (h : zby c p 153) {a b : UInt8} (h1 : zby c (p + 1) a) (h2 : zby c (p + 1 + 1) b) {k : Int} (hk : Jvm.ClassFile.Reader.signed 16 (a.toNat * 256 + b.toNat) = k) : decode c p = .ok (Jvm.ClassFile.Instr.ifCond .eq k, 3) := by
  refine zdec ?_
  unfold Jvm.ClassFile.Decoder.instr
  rw [zbnd (zby_u h), ← hk]
  show ((Jvm.ClassFile.Reader.s2 : Jvm.ClassFile.Decoder Int) >>= fun x => pure (Jvm.ClassFile.Instr.ifCond .eq x)) c (p + 1) = _
  rw [zbnd (zby_s2 h1 h2)]
  rfl
set_option maxRecDepth 100000 in
theorem zo_154 {c : ByteArray} {p : Nat} (h : zby c p 154) {a b : UInt8} (h1 : zby c (p + 1) a) (h2 : zby c (p + 1 + 1) b) {k : Int} (hk : Jvm.ClassFile.Reader.signed 16 (a.toNat * 256 + b.toNat) = k) : decode c p = .ok (Jvm.ClassFile.Instr.ifCond .ne k, 3) := by
  refine zdec ?_
  unfold Jvm.ClassFile.Decoder.instr
  rw [zbnd (zby_u h), ← hk]
  show ((Jvm.ClassFile.Reader.s2 : Jvm.ClassFile.Decoder Int) >>= fun x => pure (Jvm.ClassFile.Instr.ifCond .ne x)) c (p + 1) = _
  rw [zbnd (zby_s2 h1 h2)]
  rfl
set_option maxRecDepth 100000 in
theorem zo_155 {c : ByteArray} {p : Nat} (h : zby c p 155) {a b : UInt8} (h1 : zby c (p + 1) a) (h2 : zby c (p + 1 + 1) b) {k : Int} (hk : Jvm.ClassFile.Reader.signed 16 (a.toNat * 256 + b.toNat) = k) : decode c p = .ok (Jvm.ClassFile.Instr.ifCond .lt k, 3) := by
  refine zdec ?_
  unfold Jvm.ClassFile.Decoder.instr
  rw [zbnd (zby_u h), ← hk]
  show ((Jvm.ClassFile.Reader.s2 : Jvm.ClassFile.Decoder Int) >>= fun x => pure (Jvm.ClassFile.Instr.ifCond .lt x)) c (p + 1) = _
  rw [zbnd (zby_s2 h1 h2)]
  rfl
set_option maxRecDepth 100000 in
theorem zo_156 {c : ByteArray} {p : Nat} (h : zby c p 156) {a b : UInt8} (h1 : zby c (p + 1) a) (h2 : zby c (p + 1 + 1) b) {k : Int} (hk : Jvm.ClassFile.Reader.signed 16 (a.toNat * 256 + b.toNat) = k) : decode c p = .ok (Jvm.ClassFile.Instr.ifCond .ge k, 3) := by
  refine zdec ?_
  unfold Jvm.ClassFile.Decoder.instr
  rw [zbnd (zby_u h), ← hk]
  show ((Jvm.ClassFile.Reader.s2 : Jvm.ClassFile.Decoder Int) >>= fun x => pure (Jvm.ClassFile.Instr.ifCond .ge x)) c (p + 1) = _
  rw [zbnd (zby_s2 h1 h2)]
  rfl
set_option maxRecDepth 100000 in
theorem zo_157 {c : ByteArray} {p : Nat} (h : zby c p 157) {a b : UInt8} (h1 : zby c (p + 1) a) (h2 : zby c (p + 1 + 1) b) {k : Int} (hk : Jvm.ClassFile.Reader.signed 16 (a.toNat * 256 + b.toNat) = k) : decode c p = .ok (Jvm.ClassFile.Instr.ifCond .gt k, 3) := by
  refine zdec ?_
  unfold Jvm.ClassFile.Decoder.instr
  rw [zbnd (zby_u h), ← hk]
  show ((Jvm.ClassFile.Reader.s2 : Jvm.ClassFile.Decoder Int) >>= fun x => pure (Jvm.ClassFile.Instr.ifCond .gt x)) c (p + 1) = _
  rw [zbnd (zby_s2 h1 h2)]
  rfl
set_option maxRecDepth 100000 in
theorem zo_158 {c : ByteArray} {p : Nat} (h : zby c p 158) {a b : UInt8} (h1 : zby c (p + 1) a) (h2 : zby c (p + 1 + 1) b) {k : Int} (hk : Jvm.ClassFile.Reader.signed 16 (a.toNat * 256 + b.toNat) = k) : decode c p = .ok (Jvm.ClassFile.Instr.ifCond .le k, 3) := by
  refine zdec ?_
  unfold Jvm.ClassFile.Decoder.instr
  rw [zbnd (zby_u h), ← hk]
  show ((Jvm.ClassFile.Reader.s2 : Jvm.ClassFile.Decoder Int) >>= fun x => pure (Jvm.ClassFile.Instr.ifCond .le x)) c (p + 1) = _
  rw [zbnd (zby_s2 h1 h2)]
  rfl
set_option maxRecDepth 100000 in
theorem zo_159 {c : ByteArray} {p : Nat} (h : zby c p 159) {a b : UInt8} (h1 : zby c (p + 1) a) (h2 : zby c (p + 1 + 1) b) {k : Int} (hk : Jvm.ClassFile.Reader.signed 16 (a.toNat * 256 + b.toNat) = k) : decode c p = .ok (Jvm.ClassFile.Instr.if_icmp .eq k, 3) := by
  refine zdec ?_
  unfold Jvm.ClassFile.Decoder.instr
  rw [zbnd (zby_u h), ← hk]
  show ((Jvm.ClassFile.Reader.s2 : Jvm.ClassFile.Decoder Int) >>= fun x => pure (Jvm.ClassFile.Instr.if_icmp .eq x)) c (p + 1) = _
  rw [zbnd (zby_s2 h1 h2)]
  rfl
set_option maxRecDepth 100000 in
theorem zo_160 {c : ByteArray} {p : Nat} (h : zby c p 160) {a b : UInt8} (h1 : zby c (p + 1) a) (h2 : zby c (p + 1 + 1) b) {k : Int} (hk : Jvm.ClassFile.Reader.signed 16 (a.toNat * 256 + b.toNat) = k) : decode c p = .ok (Jvm.ClassFile.Instr.if_icmp .ne k, 3) := by
  refine zdec ?_
  unfold Jvm.ClassFile.Decoder.instr
  rw [zbnd (zby_u h), ← hk]
  show ((Jvm.ClassFile.Reader.s2 : Jvm.ClassFile.Decoder Int) >>= fun x => pure (Jvm.ClassFile.Instr.if_icmp .ne x)) c (p + 1) = _
  rw [zbnd (zby_s2 h1 h2)]
  rfl
set_option maxRecDepth 100000 in
theorem zo_161 {c : ByteArray} {p : Nat} (h : zby c p 161) {a b : UInt8} (h1 : zby c (p + 1) a) (h2 : zby c (p + 1 + 1) b) {k : Int} (hk : Jvm.ClassFile.Reader.signed 16 (a.toNat * 256 + b.toNat) = k) : decode c p = .ok (Jvm.ClassFile.Instr.if_icmp .lt k, 3) := by
  refine zdec ?_
  unfold Jvm.ClassFile.Decoder.instr
  rw [zbnd (zby_u h), ← hk]
  show ((Jvm.ClassFile.Reader.s2 : Jvm.ClassFile.Decoder Int) >>= fun x => pure (Jvm.ClassFile.Instr.if_icmp .lt x)) c (p + 1) = _
  rw [zbnd (zby_s2 h1 h2)]
  rfl
set_option maxRecDepth 100000 in
theorem zo_162 {c : ByteArray} {p : Nat} (h : zby c p 162) {a b : UInt8} (h1 : zby c (p + 1) a) (h2 : zby c (p + 1 + 1) b) {k : Int} (hk : Jvm.ClassFile.Reader.signed 16 (a.toNat * 256 + b.toNat) = k) : decode c p = .ok (Jvm.ClassFile.Instr.if_icmp .ge k, 3) := by
  refine zdec ?_
  unfold Jvm.ClassFile.Decoder.instr
  rw [zbnd (zby_u h), ← hk]
  show ((Jvm.ClassFile.Reader.s2 : Jvm.ClassFile.Decoder Int) >>= fun x => pure (Jvm.ClassFile.Instr.if_icmp .ge x)) c (p + 1) = _
  rw [zbnd (zby_s2 h1 h2)]
  rfl
set_option maxRecDepth 100000 in
theorem zo_163 {c : ByteArray} {p : Nat} (h : zby c p 163) {a b : UInt8} (h1 : zby c (p + 1) a) (h2 : zby c (p + 1 + 1) b) {k : Int} (hk : Jvm.ClassFile.Reader.signed 16 (a.toNat * 256 + b.toNat) = k) : decode c p = .ok (Jvm.ClassFile.Instr.if_icmp .gt k, 3) := by
  refine zdec ?_
  unfold Jvm.ClassFile.Decoder.instr
  rw [zbnd (zby_u h), ← hk]
  show ((Jvm.ClassFile.Reader.s2 : Jvm.ClassFile.Decoder Int) >>= fun x => pure (Jvm.ClassFile.Instr.if_icmp .gt x)) c (p + 1) = _
  rw [zbnd (zby_s2 h1 h2)]
  rfl
set_option maxRecDepth 100000 in
theorem zo_164 {c : ByteArray} {p : Nat} (h : zby c p 164) {a b : UInt8} (h1 : zby c (p + 1) a) (h2 : zby c (p + 1 + 1) b) {k : Int} (hk : Jvm.ClassFile.Reader.signed 16 (a.toNat * 256 + b.toNat) = k) : decode c p = .ok (Jvm.ClassFile.Instr.if_icmp .le k, 3) := by
  refine zdec ?_
  unfold Jvm.ClassFile.Decoder.instr
  rw [zbnd (zby_u h), ← hk]
  show ((Jvm.ClassFile.Reader.s2 : Jvm.ClassFile.Decoder Int) >>= fun x => pure (Jvm.ClassFile.Instr.if_icmp .le x)) c (p + 1) = _
  rw [zbnd (zby_s2 h1 h2)]
  rfl
set_option maxRecDepth 100000 in
theorem zo_167 {c : ByteArray} {p : Nat} (h : zby c p 167) {a b : UInt8} (h1 : zby c (p + 1) a) (h2 : zby c (p + 1 + 1) b) {k : Int} (hk : Jvm.ClassFile.Reader.signed 16 (a.toNat * 256 + b.toNat) = k) : decode c p = .ok (Jvm.ClassFile.Instr.goto k, 3) := by
  refine zdec ?_
  unfold Jvm.ClassFile.Decoder.instr
  rw [zbnd (zby_u h), ← hk]
  show ((Jvm.ClassFile.Reader.s2 : Jvm.ClassFile.Decoder Int) >>= fun x => pure (Jvm.ClassFile.Instr.goto x)) c (p + 1) = _
  rw [zbnd (zby_s2 h1 h2)]
  rfl
set_option maxRecDepth 100000 in
theorem zo_172 {c : ByteArray} {p : Nat} (h : zby c p 172) : decode c p = .ok (.ireturn, 1) := by
  refine zdec ?_
  unfold Jvm.ClassFile.Decoder.instr
  rw [zbnd (zby_u h)]
  rfl
set_option maxRecDepth 100000 in
theorem zo_173 {c : ByteArray} {p : Nat} (h : zby c p 173) : decode c p = .ok (.lreturn, 1) := by
  refine zdec ?_
  unfold Jvm.ClassFile.Decoder.instr
  rw [zbnd (zby_u h)]
  rfl
set_option maxRecDepth 100000 in
theorem zo_176 {c : ByteArray} {p : Nat} (h : zby c p 176) : decode c p = .ok (.areturn, 1) := by
  refine zdec ?_
  unfold Jvm.ClassFile.Decoder.instr
  rw [zbnd (zby_u h)]
  rfl
set_option maxRecDepth 100000 in
theorem zo_177 {c : ByteArray} {p : Nat} (h : zby c p 177) : decode c p = .ok (.return_, 1) := by
  refine zdec ?_
  unfold Jvm.ClassFile.Decoder.instr
  rw [zbnd (zby_u h)]
  rfl
set_option maxRecDepth 100000 in
theorem zo_178 {c : ByteArray} {p : Nat} (h : zby c p 178) {a b : UInt8} (h1 : zby c (p + 1) a) (h2 : zby c (p + 1 + 1) b) {k : Nat} (hk : a.toNat * 256 + b.toNat = k) : decode c p = .ok (Jvm.ClassFile.Instr.getstatic k, 3) := by
  refine zdec ?_
  unfold Jvm.ClassFile.Decoder.instr
  rw [zbnd (zby_u h), ← hk]
  show ((Jvm.ClassFile.Reader.u2 : Jvm.ClassFile.Decoder Nat) >>= fun x => pure (Jvm.ClassFile.Instr.getstatic x)) c (p + 1) = _
  rw [zbnd (zby_u2 h1 h2)]
  rfl
set_option maxRecDepth 100000 in
theorem zo_180 {c : ByteArray} {p : Nat} (h : zby c p 180) {a b : UInt8} (h1 : zby c (p + 1) a) (h2 : zby c (p + 1 + 1) b) {k : Nat} (hk : a.toNat * 256 + b.toNat = k) : decode c p = .ok (Jvm.ClassFile.Instr.getfield k, 3) := by
  refine zdec ?_
  unfold Jvm.ClassFile.Decoder.instr
  rw [zbnd (zby_u h), ← hk]
  show ((Jvm.ClassFile.Reader.u2 : Jvm.ClassFile.Decoder Nat) >>= fun x => pure (Jvm.ClassFile.Instr.getfield x)) c (p + 1) = _
  rw [zbnd (zby_u2 h1 h2)]
  rfl
set_option maxRecDepth 100000 in
theorem zo_181 {c : ByteArray} {p : Nat} (h : zby c p 181) {a b : UInt8} (h1 : zby c (p + 1) a) (h2 : zby c (p + 1 + 1) b) {k : Nat} (hk : a.toNat * 256 + b.toNat = k) : decode c p = .ok (Jvm.ClassFile.Instr.putfield k, 3) := by
  refine zdec ?_
  unfold Jvm.ClassFile.Decoder.instr
  rw [zbnd (zby_u h), ← hk]
  show ((Jvm.ClassFile.Reader.u2 : Jvm.ClassFile.Decoder Nat) >>= fun x => pure (Jvm.ClassFile.Instr.putfield x)) c (p + 1) = _
  rw [zbnd (zby_u2 h1 h2)]
  rfl
set_option maxRecDepth 100000 in
theorem zo_182 {c : ByteArray} {p : Nat} (h : zby c p 182) {a b : UInt8} (h1 : zby c (p + 1) a) (h2 : zby c (p + 1 + 1) b) {k : Nat} (hk : a.toNat * 256 + b.toNat = k) : decode c p = .ok (Jvm.ClassFile.Instr.invokevirtual k, 3) := by
  refine zdec ?_
  unfold Jvm.ClassFile.Decoder.instr
  rw [zbnd (zby_u h), ← hk]
  show ((Jvm.ClassFile.Reader.u2 : Jvm.ClassFile.Decoder Nat) >>= fun x => pure (Jvm.ClassFile.Instr.invokevirtual x)) c (p + 1) = _
  rw [zbnd (zby_u2 h1 h2)]
  rfl
set_option maxRecDepth 100000 in
theorem zo_183 {c : ByteArray} {p : Nat} (h : zby c p 183) {a b : UInt8} (h1 : zby c (p + 1) a) (h2 : zby c (p + 1 + 1) b) {k : Nat} (hk : a.toNat * 256 + b.toNat = k) : decode c p = .ok (Jvm.ClassFile.Instr.invokespecial k, 3) := by
  refine zdec ?_
  unfold Jvm.ClassFile.Decoder.instr
  rw [zbnd (zby_u h), ← hk]
  show ((Jvm.ClassFile.Reader.u2 : Jvm.ClassFile.Decoder Nat) >>= fun x => pure (Jvm.ClassFile.Instr.invokespecial x)) c (p + 1) = _
  rw [zbnd (zby_u2 h1 h2)]
  rfl
set_option maxRecDepth 100000 in
theorem zo_184 {c : ByteArray} {p : Nat} (h : zby c p 184) {a b : UInt8} (h1 : zby c (p + 1) a) (h2 : zby c (p + 1 + 1) b) {k : Nat} (hk : a.toNat * 256 + b.toNat = k) : decode c p = .ok (Jvm.ClassFile.Instr.invokestatic k, 3) := by
  refine zdec ?_
  unfold Jvm.ClassFile.Decoder.instr
  rw [zbnd (zby_u h), ← hk]
  show ((Jvm.ClassFile.Reader.u2 : Jvm.ClassFile.Decoder Nat) >>= fun x => pure (Jvm.ClassFile.Instr.invokestatic x)) c (p + 1) = _
  rw [zbnd (zby_u2 h1 h2)]
  rfl
set_option maxRecDepth 100000 in
theorem zo_187 {c : ByteArray} {p : Nat} (h : zby c p 187) {a b : UInt8} (h1 : zby c (p + 1) a) (h2 : zby c (p + 1 + 1) b) {k : Nat} (hk : a.toNat * 256 + b.toNat = k) : decode c p = .ok (Jvm.ClassFile.Instr.new k, 3) := by
  refine zdec ?_
  unfold Jvm.ClassFile.Decoder.instr
  rw [zbnd (zby_u h), ← hk]
  show ((Jvm.ClassFile.Reader.u2 : Jvm.ClassFile.Decoder Nat) >>= fun x => pure (Jvm.ClassFile.Instr.new x)) c (p + 1) = _
  rw [zbnd (zby_u2 h1 h2)]
  rfl
set_option maxRecDepth 100000 in
theorem zo_190 {c : ByteArray} {p : Nat} (h : zby c p 190) : decode c p = .ok (.arraylength, 1) := by
  refine zdec ?_
  unfold Jvm.ClassFile.Decoder.instr
  rw [zbnd (zby_u h)]
  rfl
def zchJ6_bitCount_0f7a4_0 : List UInt8 := [26, 26, 4, 124, 19, 1, 9, 126, 100, 59, 26, 19, 1, 10, 126, 26, 5, 124, 19, 1, 10, 126, 96, 59, 26, 26, 7, 124, 96, 19, 1, 11, 126, 59, 26, 26]
theorem zwJ6_bitCount_0f7a4_0 : (cJ6_bitCount_0f7a4.data.toList.drop 0).take 36 = zchJ6_bitCount_0f7a4_0 := by decide +kernel
def zchJ6_bitCount_0f7a4_1 : List UInt8 := [126, 59, 26, 26, 16, 8, 124, 96, 59, 26, 26, 16, 16, 124, 96, 59, 26, 16, 63, 126, 172]
theorem zwJ6_bitCount_0f7a4_1 : (cJ6_bitCount_0f7a4.data.toList.drop 32).take 36 = zchJ6_bitCount_0f7a4_1 := by decide +kernel
def zchX0_become_0 : List UInt8 := [42, 180, 0, 10, 43, 180, 0, 10, 182, 0, 37, 42, 180, 0, 19, 43, 180, 0, 19, 182, 0, 41, 42, 180, 0, 26, 43, 180, 0, 26, 182, 0, 44, 42, 180, 0]
theorem zwX0_become_0 : (cX0_become.data.toList.drop 0).take 36 = zchX0_become_0 := by decide +kernel
def zchX0_become_1 : List UInt8 := [44, 42, 180, 0, 33, 43, 180, 0, 33, 182, 0, 47, 177]
theorem zwX0_become_1 : (cX0_become.data.toList.drop 32).take 36 = zchX0_become_1 := by decide +kernel
def zchX1_become_0 : List UInt8 := [42, 43, 180, 0, 9, 181, 0, 9, 43, 180, 0, 15, 3, 42, 180, 0, 15, 3, 16, 8, 184, 0, 19, 177]
theorem zwX1_become_0 : (cX1_become.data.toList.drop 0).take 36 = zchX1_become_0 := by decide +kernel
def zchX1_countDrawn_0 : List UInt8 := [3, 62, 3, 54, 4, 21, 4, 16, 8, 162, 0, 36, 42, 21, 4, 182, 0, 29, 153, 0, 21, 42, 180, 0, 15, 21, 4, 46, 27, 28, 184, 0, 25, 153, 0, 6]
theorem zwX1_countDrawn_0 : (cX1_countDrawn.data.toList.drop 0).take 36 = zchX1_countDrawn_0 := by decide +kernel
def zchX1_countDrawn_1 : List UInt8 := [25, 153, 0, 6, 132, 3, 1, 132, 4, 1, 167, 255, 219, 29, 172]
theorem zwX1_countDrawn_1 : (cX1_countDrawn.data.toList.drop 32).take 36 = zchX1_countDrawn_1 := by decide +kernel
def zchX1_has_0 : List UInt8 := [27, 3, 16, 7, 184, 0, 25, 153, 0, 19, 42, 180, 0, 9, 27, 122, 4, 126, 4, 160, 0, 7, 4, 167, 0, 4, 3, 172]
theorem zwX1_has_0 : (cX1_has.data.toList.drop 0).take 36 = zchX1_has_0 := by decide +kernel
def zchX2_commonSide_0 : List UInt8 := [3, 60, 4, 61, 28, 6, 162, 0, 24, 42, 28, 182, 0, 77, 42, 27, 182, 0, 77, 162, 0, 5, 28, 60, 132, 2, 1, 167, 255, 233, 27, 172]
theorem zwX2_commonSide_0 : (cX2_commonSide.data.toList.drop 0).take 36 = zchX2_commonSide_0 := by decide +kernel
def zchX2_drawLine_0 : List UInt8 := [42, 180, 0, 26, 3, 9, 80, 4, 60, 3, 61, 28, 42, 180, 0, 15, 162, 0, 18, 42, 27, 28, 6, 104, 182, 0, 59, 60, 132, 2, 1, 167, 255, 236, 27, 172]
theorem zwX2_drawLine_0 : (cX2_drawLine.data.toList.drop 0).take 36 = zchX2_drawLine_0 := by decide +kernel
def zchX2_drawLine_1 : List UInt8 := [255, 236, 27, 172]
theorem zwX2_drawLine_1 : (cX2_drawLine.data.toList.drop 32).take 36 = zchX2_drawLine_1 := by decide +kernel
def zchX2_gather_0 : List UInt8 := [42, 3, 181, 0, 15, 3, 62, 29, 16, 6, 162, 0, 92, 43, 29, 182, 0, 32, 153, 0, 78, 42, 180, 0, 9, 42, 180, 0, 15, 29, 79, 3, 54, 4, 21, 4]
theorem zwX2_gather_0 : (cX2_gather.data.toList.drop 0).take 36 = zchX2_gather_0 := by decide +kernel
def zchX2_gather_1 : List UInt8 := [54, 4, 21, 4, 6, 162, 0, 49, 43, 29, 21, 4, 28, 182, 0, 37, 133, 55, 5, 42, 180, 0, 19, 42, 180, 0, 15, 6, 104, 21, 4, 96, 22, 5, 16, 32]
theorem zwX2_gather_1 : (cX2_gather.data.toList.drop 32).take 36 = zchX2_gather_1 := by decide +kernel
def zchX2_gather_2 : List UInt8 := [22, 5, 16, 32, 121, 43, 29, 21, 4, 28, 182, 0, 41, 133, 97, 80, 132, 4, 1, 167, 255, 207, 42, 89, 180, 0, 15, 4, 96, 181, 0, 15, 132, 3, 1, 167]
theorem zwX2_gather_2 : (cX2_gather.data.toList.drop 64).take 36 = zchX2_gather_2 := by decide +kernel
def zchX2_gather_3 : List UInt8 := [132, 3, 1, 167, 255, 164, 177]
theorem zwX2_gather_3 : (cX2_gather.data.toList.drop 96).take 36 = zchX2_gather_3 := by decide +kernel
def zchX2_leastWithin_0 : List UInt8 := [42, 182, 0, 44, 61, 16, 250, 62, 3, 54, 4, 21, 4, 28, 162, 0, 54, 42, 180, 0, 23, 21, 4, 47, 184, 0, 48, 27, 163, 0, 34, 29, 16, 250, 159, 0]
theorem zwX2_leastWithin_0 : (cX2_leastWithin.data.toList.drop 0).take 36 = zchX2_leastWithin_0 := by decide +kernel
def zchX2_leastWithin_1 : List UInt8 := [16, 250, 159, 0, 25, 42, 180, 0, 23, 21, 4, 47, 184, 0, 52, 42, 180, 0, 23, 29, 47, 184, 0, 52, 162, 0, 6, 21, 4, 62, 132, 4, 1, 167, 255, 202]
theorem zwX2_leastWithin_1 : (cX2_leastWithin.data.toList.drop 32).take 36 = zchX2_leastWithin_1 := by decide +kernel
def zchX2_leastWithin_2 : List UInt8 := [1, 167, 255, 202, 29, 172]
theorem zwX2_leastWithin_2 : (cX2_leastWithin.data.toList.drop 64).take 36 = zchX2_leastWithin_2 := by decide +kernel
def zchX2_meanIn_0 : List UInt8 := [30, 16, 32, 123, 136, 172]
theorem zwX2_meanIn_0 : (cX2_meanIn.data.toList.drop 0).take 36 = zchX2_meanIn_0 := by decide +kernel
def zchX2_meanOfAllBy_0 : List UInt8 := [3, 61, 3, 62, 29, 42, 180, 0, 15, 162, 0, 25, 28, 42, 180, 0, 19, 29, 6, 104, 27, 96, 47, 184, 0, 52, 96, 61, 132, 3, 1, 167, 255, 229, 28, 172]
theorem zwX2_meanOfAllBy_0 : (cX2_meanOfAllBy.data.toList.drop 0).take 36 = zchX2_meanOfAllBy_0 := by decide +kernel
def zchX2_meanOfAllBy_1 : List UInt8 := [255, 229, 28, 172]
theorem zwX2_meanOfAllBy_1 : (cX2_meanOfAllBy.data.toList.drop 32).take 36 = zchX2_meanOfAllBy_1 := by decide +kernel
def zchX2_meanOfChoice_0 : List UInt8 := [27, 3, 17, 2, 216, 184, 0, 55, 153, 0, 15, 42, 180, 0, 23, 27, 47, 184, 0, 52, 167, 0, 5, 16, 250, 172]
theorem zwX2_meanOfChoice_0 : (cX2_meanOfChoice.data.toList.drop 0).take 36 = zchX2_meanOfChoice_0 := by decide +kernel
def zchX2_onLine_0 : List UInt8 := [27, 3, 17, 2, 216, 184, 0, 55, 154, 0, 6, 16, 250, 172, 28, 154, 0, 15, 42, 180, 0, 26, 27, 47, 184, 0, 52, 167, 0, 12, 42, 180, 0, 26, 27, 47]
theorem zwX2_onLine_0 : (cX2_onLine.data.toList.drop 0).take 36 = zchX2_onLine_0 := by decide +kernel
def zchX2_onLine_1 : List UInt8 := [0, 26, 27, 47, 184, 0, 48, 172]
theorem zwX2_onLine_1 : (cX2_onLine.data.toList.drop 32).take 36 = zchX2_onLine_1 := by decide +kernel
def zchX2_sideInChoice_0 : List UInt8 := [27, 62, 42, 180, 0, 15, 4, 100, 54, 4, 21, 4, 155, 0, 28, 42, 180, 0, 9, 21, 4, 46, 28, 160, 0, 7, 29, 6, 112, 172, 29, 6, 108, 62, 132, 4]
theorem zwX2_sideInChoice_0 : (cX2_sideInChoice.data.toList.drop 0).take 36 = zchX2_sideInChoice_0 := by decide +kernel
def zchX2_sideInChoice_1 : List UInt8 := [108, 62, 132, 4, 255, 167, 255, 229, 16, 250, 172]
theorem zwX2_sideInChoice_1 : (cX2_sideInChoice.data.toList.drop 32).take 36 = zchX2_sideInChoice_1 := by decide +kernel
def zchX2_spreadChoices_0 : List UInt8 := [42, 180, 0, 23, 3, 9, 80, 4, 60, 3, 61, 28, 42, 180, 0, 15, 162, 0, 84, 27, 6, 104, 17, 2, 217, 163, 0, 75, 27, 4, 100, 62, 29, 155, 0, 57]
theorem zwX2_spreadChoices_0 : (cX2_spreadChoices.data.toList.drop 0).take 36 = zchX2_spreadChoices_0 := by decide +kernel
def zchX2_spreadChoices_1 : List UInt8 := [29, 155, 0, 57, 42, 180, 0, 23, 29, 47, 55, 4, 3, 54, 6, 21, 6, 6, 162, 0, 34, 42, 180, 0, 23, 29, 6, 104, 21, 6, 96, 22, 4, 42, 180, 0]
theorem zwX2_spreadChoices_1 : (cX2_spreadChoices.data.toList.drop 32).take 36 = zchX2_spreadChoices_1 := by decide +kernel
def zchX2_spreadChoices_2 : List UInt8 := [4, 42, 180, 0, 19, 28, 6, 104, 21, 6, 96, 47, 97, 80, 132, 6, 1, 167, 255, 222, 132, 3, 255, 167, 255, 201, 27, 6, 104, 60, 132, 2, 1, 167, 255, 170]
theorem zwX2_spreadChoices_2 : (cX2_spreadChoices.data.toList.drop 64).take 36 = zchX2_spreadChoices_2 := by decide +kernel
def zchX2_spreadChoices_3 : List UInt8 := [1, 167, 255, 170, 27, 172]
theorem zwX2_spreadChoices_3 : (cX2_spreadChoices.data.toList.drop 96).take 36 = zchX2_spreadChoices_3 := by decide +kernel
def zchX2_widenFront_0 : List UInt8 := [3, 62, 3, 54, 4, 3, 54, 5, 3, 54, 6, 3, 54, 7, 21, 7, 6, 27, 104, 162, 0, 185, 29, 27, 162, 0, 19, 42, 180, 0, 26, 29, 47, 42, 180, 0]
theorem zwX2_widenFront_0 : (cX2_widenFront.data.toList.drop 0).take 36 = zchX2_widenFront_0 := by decide +kernel
def zchX2_widenFront_1 : List UInt8 := [47, 42, 180, 0, 19, 28, 47, 97, 167, 0, 6, 20, 0, 63, 55, 8, 21, 4, 27, 162, 0, 22, 42, 180, 0, 26, 21, 4, 47, 42, 180, 0, 19, 28, 4, 96]
theorem zwX2_widenFront_1 : (cX2_widenFront.data.toList.drop 32).take 36 = zchX2_widenFront_1 := by decide +kernel
def zchX2_widenFront_2 : List UInt8 := [19, 28, 4, 96, 47, 97, 167, 0, 6, 20, 0, 63, 55, 10, 21, 5, 27, 162, 0, 22, 42, 180, 0, 26, 21, 5, 47, 42, 180, 0, 19, 28, 5, 96, 47, 97]
theorem zwX2_widenFront_2 : (cX2_widenFront.data.toList.drop 64).take 36 = zchX2_widenFront_2 := by decide +kernel
def zchX2_widenFront_3 : List UInt8 := [5, 96, 47, 97, 167, 0, 6, 20, 0, 63, 55, 12, 22, 8, 22, 10, 22, 12, 184, 0, 65, 184, 0, 65, 55, 14, 22, 14, 22, 8, 148, 154, 0, 9, 132, 3]
theorem zwX2_widenFront_3 : (cX2_widenFront.data.toList.drop 96).take 36 = zchX2_widenFront_3 := by decide +kernel
def zchX2_widenFront_4 : List UInt8 := [0, 9, 132, 3, 1, 167, 0, 20, 22, 14, 22, 10, 148, 154, 0, 9, 132, 4, 1, 167, 0, 6, 132, 5, 1, 21, 6, 17, 2, 217, 162, 0, 40, 21, 6, 153]
theorem zwX2_widenFront_4 : (cX2_widenFront.data.toList.drop 128).take 36 = zchX2_widenFront_4 := by decide +kernel
def zchX2_widenFront_5 : List UInt8 := [40, 21, 6, 153, 0, 23, 22, 14, 184, 0, 48, 42, 180, 0, 29, 21, 6, 4, 100, 47, 184, 0, 48, 162, 0, 15, 42, 180, 0, 29, 21, 6, 22, 14, 80, 132]
theorem zwX2_widenFront_5 : (cX2_widenFront.data.toList.drop 160).take 36 = zchX2_widenFront_5 := by decide +kernel
def zchX2_widenFront_6 : List UInt8 := [22, 14, 80, 132, 6, 1, 132, 7, 1, 167, 255, 69, 42, 180, 0, 29, 3, 42, 180, 0, 26, 3, 21, 6, 184, 0, 71, 21, 6, 172]
theorem zwX2_widenFront_6 : (cX2_widenFront.data.toList.drop 192).take 36 = zchX2_widenFront_6 := by decide +kernel
def zchX2_worstIn_0 : List UInt8 := [30, 136, 172]
theorem zwX2_worstIn_0 : (cX2_worstIn.data.toList.drop 0).take 36 = zchX2_worstIn_0 := by decide +kernel
def zchX3_become_0 : List UInt8 := [42, 43, 180, 0, 9, 181, 0, 9, 43, 180, 0, 15, 3, 42, 180, 0, 15, 3, 7, 184, 0, 22, 43, 180, 0, 19, 3, 42, 180, 0, 19, 3, 7, 184, 0, 22]
theorem zwX3_become_0 : (cX3_become.data.toList.drop 0).take 36 = zchX3_become_0 := by decide +kernel
def zchX3_become_1 : List UInt8 := [7, 184, 0, 22, 177]
theorem zwX3_become_1 : (cX3_become.data.toList.drop 32).take 36 = zchX3_become_1 := by decide +kernel
def zchX3_paysOf_0 : List UInt8 := [27, 42, 180, 0, 19, 184, 0, 28, 172]
theorem zwX3_paysOf_0 : (cX3_paysOf.data.toList.drop 0).take 36 = zchX3_paysOf_0 := by decide +kernel
def zchX3_premiumsOf_0 : List UInt8 := [27, 42, 180, 0, 15, 184, 0, 28, 172]
theorem zwX3_premiumsOf_0 : (cX3_premiumsOf.data.toList.drop 0).take 36 = zchX3_premiumsOf_0 := by decide +kernel
def zchX3_sumOver_0 : List UInt8 := [3, 61, 3, 62, 29, 7, 162, 0, 30, 29, 43, 190, 162, 0, 24, 26, 29, 122, 4, 126, 4, 160, 0, 9, 28, 43, 29, 46, 96, 61, 132, 3, 1, 167, 255, 227]
theorem zwX3_sumOver_0 : (cX3_sumOver.data.toList.drop 0).take 36 = zchX3_sumOver_0 := by decide +kernel
def zchX3_sumOver_1 : List UInt8 := [1, 167, 255, 227, 28, 172]
theorem zwX3_sumOver_1 : (cX3_sumOver.data.toList.drop 32).take 36 = zchX3_sumOver_1 := by decide +kernel
def zchX3_worthTaking_0 : List UInt8 := [3, 61, 3, 62, 29, 7, 162, 0, 47, 42, 180, 0, 9, 29, 122, 4, 126, 4, 160, 0, 29, 16, 10, 42, 180, 0, 15, 29, 46, 104, 27, 42, 180, 0, 19, 29]
theorem zwX3_worthTaking_0 : (cX3_worthTaking.data.toList.drop 0).take 36 = zchX3_worthTaking_0 := by decide +kernel
def zchX3_worthTaking_1 : List UInt8 := [180, 0, 19, 29, 46, 104, 162, 0, 9, 28, 4, 29, 120, 128, 61, 132, 3, 1, 167, 255, 210, 28, 172]
theorem zwX3_worthTaking_1 : (cX3_worthTaking.data.toList.drop 32).take 36 = zchX3_worthTaking_1 := by decide +kernel
def zchX4_clear_0 : List UInt8 := [42, 180, 0, 15, 60, 42, 3, 181, 0, 15, 27, 172]
theorem zwX4_clear_0 : (cX4_clear.data.toList.drop 0).take 36 = zchX4_clear_0 := by decide +kernel
def zchX4_faultAsSeason_0 : List UInt8 := [3, 60, 3, 61, 28, 42, 180, 0, 15, 162, 0, 85, 28, 16, 60, 162, 0, 79, 27, 153, 0, 21, 42, 28, 182, 0, 23, 16, 250, 159, 0, 7, 4, 167, 0, 30]
theorem zwX4_faultAsSeason_0 : (cX4_faultAsSeason.data.toList.drop 0).take 36 = zchX4_faultAsSeason_0 := by decide +kernel
def zchX4_faultAsSeason_1 : List UInt8 := [4, 167, 0, 30, 3, 167, 0, 26, 42, 28, 182, 0, 27, 154, 0, 13, 42, 28, 182, 0, 31, 16, 250, 159, 0, 7, 4, 167, 0, 4, 3, 62, 29, 154, 0, 5]
theorem zwX4_faultAsSeason_1 : (cX4_faultAsSeason.data.toList.drop 32).take 36 = zchX4_faultAsSeason_1 := by decide +kernel
def zchX4_faultAsSeason_2 : List UInt8 := [29, 154, 0, 5, 28, 172, 27, 154, 0, 15, 42, 28, 182, 0, 27, 154, 0, 7, 4, 167, 0, 4, 3, 60, 132, 2, 1, 167, 255, 169, 27, 153, 0, 10, 42, 180]
theorem zwX4_faultAsSeason_2 : (cX4_faultAsSeason.data.toList.drop 64).take 36 = zchX4_faultAsSeason_2 := by decide +kernel
def zchX4_faultAsSeason_3 : List UInt8 := [0, 10, 42, 180, 0, 15, 167, 0, 5, 16, 250, 172]
theorem zwX4_faultAsSeason_3 : (cX4_faultAsSeason.data.toList.drop 96).take 36 = zchX4_faultAsSeason_3 := by decide +kernel
def zchX4_faultAsTide_0 : List UInt8 := [3, 60, 27, 42, 180, 0, 15, 162, 0, 39, 27, 16, 60, 162, 0, 33, 27, 16, 24, 162, 0, 19, 42, 180, 0, 9, 27, 46, 16, 48, 16, 57, 184, 0, 19, 154]
theorem zwX4_faultAsTide_0 : (cX4_faultAsTide.data.toList.drop 0).take 36 = zchX4_faultAsTide_0 := by decide +kernel
def zchX4_faultAsTide_1 : List UInt8 := [184, 0, 19, 154, 0, 5, 27, 172, 132, 1, 1, 167, 255, 215, 42, 180, 0, 15, 154, 0, 7, 3, 167, 0, 5, 16, 250, 172]
theorem zwX4_faultAsTide_1 : (cX4_faultAsTide.data.toList.drop 32).take 36 = zchX4_faultAsTide_1 := by decide +kernel
def zchX4_holds_0 : List UInt8 := [27, 155, 0, 21, 27, 42, 180, 0, 15, 162, 0, 13, 27, 16, 60, 162, 0, 7, 4, 167, 0, 4, 3, 172]
theorem zwX4_holds_0 : (cX4_holds.data.toList.drop 0).take 36 = zchX4_holds_0 := by decide +kernel
def zchX4_hourPassesAt_0 : List UInt8 := [42, 27, 182, 0, 34, 153, 0, 18, 42, 180, 0, 9, 27, 46, 16, 46, 160, 0, 7, 4, 167, 0, 4, 3, 172]
theorem zwX4_hourPassesAt_0 : (cX4_hourPassesAt.data.toList.drop 0).take 36 = zchX4_hourPassesAt_0 := by decide +kernel
def zchX4_shipAt_0 : List UInt8 := [42, 27, 182, 0, 34, 153, 0, 31, 42, 180, 0, 9, 27, 46, 16, 65, 16, 70, 184, 0, 19, 153, 0, 15, 42, 180, 0, 9, 27, 46, 16, 65, 100, 167, 0, 5]
theorem zwX4_shipAt_0 : (cX4_shipAt.data.toList.drop 0).take 36 = zchX4_shipAt_0 := by decide +kernel
def zchX4_shipAt_1 : List UInt8 := [100, 167, 0, 5, 16, 250, 172]
theorem zwX4_shipAt_1 : (cX4_shipAt.data.toList.drop 32).take 36 = zchX4_shipAt_1 := by decide +kernel
def zchX4_sideAt_0 : List UInt8 := [42, 27, 182, 0, 34, 154, 0, 6, 16, 250, 172, 42, 180, 0, 9, 27, 46, 171, 0, 0, 0, 0, 0, 41, 0, 0, 0, 3, 0, 0, 0, 67, 0, 0, 0, 39]
theorem zwX4_sideAt_0 : (cX4_sideAt.data.toList.drop 0).take 36 = zchX4_sideAt_0 := by decide +kernel
def zchX4_sideAt_1 : List UInt8 := [0, 0, 0, 39, 0, 0, 0, 84, 0, 0, 0, 35, 0, 0, 0, 87, 0, 0, 0, 37, 3, 172, 4, 172, 5, 172, 16, 250, 172]
theorem zwX4_sideAt_1 : (cX4_sideAt.data.toList.drop 32).take 36 = zchX4_sideAt_1 := by decide +kernel
def zchX5_become_0 : List UInt8 := [42, 43, 180, 0, 9, 181, 0, 9, 43, 180, 0, 15, 3, 42, 180, 0, 15, 3, 16, 6, 184, 0, 22, 43, 180, 0, 19, 3, 42, 180, 0, 19, 3, 16, 6, 184]
theorem zwX5_become_0 : (cX5_become.data.toList.drop 0).take 36 = zchX5_become_0 := by decide +kernel
def zchX5_become_1 : List UInt8 := [3, 16, 6, 184, 0, 22, 177]
theorem zwX5_become_1 : (cX5_become.data.toList.drop 32).take 36 = zchX5_become_1 := by decide +kernel
def zchX5_namesOnTwo_0 : List UInt8 := [3, 61, 3, 62, 29, 16, 8, 162, 0, 25, 42, 29, 27, 182, 0, 28, 5, 161, 0, 9, 28, 4, 29, 120, 128, 61, 132, 3, 1, 167, 255, 231, 28, 172]
theorem zwX5_namesOnTwo_0 : (cX5_namesOnTwo.data.toList.drop 0).take 36 = zchX5_namesOnTwo_0 := by decide +kernel
def zchX5_namesOnTwo_1 : List UInt8 := [28, 172]
theorem zwX5_namesOnTwo_1 : (cX5_namesOnTwo.data.toList.drop 32).take 36 = zchX5_namesOnTwo_1 := by decide +kernel
def zchX5_rollsWith_0 : List UInt8 := [3, 62, 3, 54, 4, 21, 4, 42, 180, 0, 9, 162, 0, 48, 21, 4, 16, 6, 162, 0, 41, 42, 180, 0, 15, 21, 4, 46, 27, 122, 4, 126, 4, 159, 0, 17]
theorem zwX5_rollsWith_0 : (cX5_rollsWith.data.toList.drop 0).take 36 = zchX5_rollsWith_0 := by decide +kernel
def zchX5_rollsWith_1 : List UInt8 := [4, 159, 0, 17, 28, 153, 0, 16, 42, 180, 0, 19, 21, 4, 46, 158, 0, 6, 132, 3, 1, 132, 4, 1, 167, 255, 205, 29, 172]
theorem zwX5_rollsWith_1 : (cX5_rollsWith.data.toList.drop 32).take 36 = zchX5_rollsWith_1 := by decide +kernel
def zchX6_become_0 : List UInt8 := [42, 43, 180, 0, 9, 181, 0, 9, 43, 180, 0, 15, 3, 42, 180, 0, 15, 3, 16, 6, 184, 0, 48, 43, 180, 0, 19, 3, 42, 180, 0, 19, 3, 16, 6, 184]
theorem zwX6_become_0 : (cX6_become.data.toList.drop 0).take 36 = zchX6_become_0 := by decide +kernel
def zchX6_become_1 : List UInt8 := [3, 16, 6, 184, 0, 48, 43, 180, 0, 22, 3, 42, 180, 0, 22, 3, 16, 6, 184, 0, 48, 43, 180, 0, 25, 3, 42, 180, 0, 25, 3, 16, 6, 184, 0, 48]
theorem zwX6_become_1 : (cX6_become.data.toList.drop 32).take 36 = zchX6_become_1 := by decide +kernel
def zchX6_become_2 : List UInt8 := [6, 184, 0, 48, 43, 180, 0, 36, 3, 42, 180, 0, 36, 3, 16, 8, 184, 0, 48, 43, 180, 0, 39, 3, 42, 180, 0, 39, 3, 16, 24, 184, 0, 48, 42, 43]
theorem zwX6_become_2 : (cX6_become.data.toList.drop 64).take 36 = zchX6_become_2 := by decide +kernel
def zchX6_become_3 : List UInt8 := [0, 48, 42, 43, 180, 0, 42, 181, 0, 42, 43, 180, 0, 45, 3, 42, 180, 0, 45, 3, 6, 184, 0, 48, 177]
theorem zwX6_become_3 : (cX6_become.data.toList.drop 96).take 36 = zchX6_become_3 := by decide +kernel
def zchX6_captainGets_0 : List UInt8 := [28, 154, 0, 25, 16, 10, 42, 42, 180, 0, 19, 27, 46, 42, 27, 182, 0, 77, 100, 21, 4, 182, 0, 115, 104, 172, 42, 42, 180, 0, 19, 27, 46, 21, 4, 182]
theorem zwX6_captainGets_0 : (cX6_captainGets.data.toList.drop 0).take 36 = zchX6_captainGets_0 := by decide +kernel
def zchX6_captainGets_1 : List UInt8 := [46, 21, 4, 182, 0, 115, 54, 5, 28, 4, 160, 0, 17, 16, 10, 42, 29, 182, 0, 92, 100, 21, 5, 104, 167, 0, 15, 16, 10, 21, 5, 42, 180, 0, 36, 6]
theorem zwX6_captainGets_1 : (cX6_captainGets.data.toList.drop 32).take 36 = zchX6_captainGets_1 := by decide +kernel
def zchX6_captainGets_2 : List UInt8 := [180, 0, 36, 6, 46, 100, 104, 172]
theorem zwX6_captainGets_2 : (cX6_captainGets.data.toList.drop 64).take 36 = zchX6_captainGets_2 := by decide +kernel
def zchX6_captainsSide_0 : List UInt8 := [3, 54, 4, 4, 54, 5, 21, 5, 6, 162, 0, 34, 42, 27, 21, 5, 28, 29, 182, 0, 111, 42, 27, 21, 4, 28, 29, 182, 0, 111, 164, 0, 7, 21, 5, 54]
theorem zwX6_captainsSide_0 : (cX6_captainsSide.data.toList.drop 0).take 36 = zchX6_captainsSide_0 := by decide +kernel
def zchX6_captainsSide_1 : List UInt8 := [7, 21, 5, 54, 4, 132, 5, 1, 167, 255, 222, 21, 4, 172]
theorem zwX6_captainsSide_1 : (cX6_captainsSide.data.toList.drop 32).take 36 = zchX6_captainsSide_1 := by decide +kernel
def zchX6_digitAt_0 : List UInt8 := [27, 155, 0, 16, 42, 180, 0, 42, 4, 16, 24, 184, 0, 54, 154, 0, 5, 3, 172, 42, 180, 0, 39, 27, 42, 180, 0, 42, 112, 46, 172]
theorem zwX6_digitAt_0 : (cX6_digitAt.data.toList.drop 0).take 36 = zchX6_digitAt_0 := by decide +kernel
def zchX6_fare_0 : List UInt8 := [42, 180, 0, 36, 5, 46, 42, 180, 0, 36, 6, 46, 104, 42, 180, 0, 19, 27, 46, 104, 172]
theorem zwX6_fare_0 : (cX6_fare.data.toList.drop 0).take 36 = zchX6_fare_0 := by decide +kernel
def zchX6_has_0 : List UInt8 := [27, 3, 8, 184, 0, 54, 153, 0, 19, 42, 180, 0, 9, 27, 122, 4, 126, 4, 160, 0, 7, 4, 167, 0, 4, 3, 172]
theorem zwX6_has_0 : (cX6_has.data.toList.drop 0).take 36 = zchX6_has_0 := by decide +kernel
def zchX6_leastMean_0 : List UInt8 := [42, 27, 42, 27, 28, 182, 0, 108, 28, 182, 0, 104, 172]
theorem zwX6_leastMean_0 : (cX6_leastMean.data.toList.drop 0).take 36 = zchX6_leastMean_0 := by decide +kernel
def zchX6_look_0 : List UInt8 := [28, 154, 0, 10, 42, 180, 0, 15, 27, 46, 172, 28, 4, 160, 0, 12, 42, 180, 0, 19, 27, 46, 167, 0, 9, 42, 180, 0, 22, 27, 46, 172]
theorem zwX6_look_0 : (cX6_look.data.toList.drop 0).take 36 = zchX6_look_0 := by decide +kernel
def zchX6_lose_0 : List UInt8 := [42, 180, 0, 45, 3, 92, 46, 42, 180, 0, 19, 27, 46, 96, 79, 42, 180, 0, 45, 4, 92, 46, 42, 180, 0, 25, 27, 46, 96, 79, 42, 180, 0, 15, 27, 5]
theorem zwX6_lose_0 : (cX6_lose.data.toList.drop 0).take 36 = zchX6_lose_0 := by decide +kernel
def zchX6_lose_1 : List UInt8 := [0, 15, 27, 5, 79, 42, 180, 0, 19, 27, 3, 79, 42, 180, 0, 22, 27, 3, 79, 42, 180, 0, 25, 27, 3, 79, 177]
theorem zwX6_lose_1 : (cX6_lose.data.toList.drop 32).take 36 = zchX6_lose_1 := by decide +kernel
def zchX6_lostToTeeth_0 : List UInt8 := [42, 27, 182, 0, 77, 61, 42, 180, 0, 36, 4, 46, 28, 104, 28, 42, 180, 0, 19, 27, 46, 160, 0, 12, 42, 180, 0, 25, 27, 46, 167, 0, 4, 3, 96, 172]
theorem zwX6_lostToTeeth_0 : (cX6_lostToTeeth.data.toList.drop 0).take 36 = zchX6_lostToTeeth_0 := by decide +kernel
def zchX6_lostToTeeth_1 : List UInt8 := [4, 3, 96, 172]
theorem zwX6_lostToTeeth_1 : (cX6_lostToTeeth.data.toList.drop 32).take 36 = zchX6_lostToTeeth_1 := by decide +kernel
def zchX6_meanBy_0 : List UInt8 := [28, 4, 160, 0, 15, 42, 29, 182, 0, 92, 42, 27, 182, 0, 98, 104, 172, 16, 10, 28, 154, 0, 11, 42, 27, 182, 0, 101, 167, 0, 8, 42, 27, 182, 0, 73]
theorem zwX6_meanBy_0 : (cX6_meanBy.data.toList.drop 0).take 36 = zchX6_meanBy_0 := by decide +kernel
def zchX6_meanBy_1 : List UInt8 := [27, 182, 0, 73, 104, 172]
theorem zwX6_meanBy_1 : (cX6_meanBy.data.toList.drop 32).take 36 = zchX6_meanBy_1 := by decide +kernel
def zchX6_menToTeeth_0 : List UInt8 := [42, 180, 0, 19, 27, 46, 3, 42, 180, 0, 36, 3, 46, 42, 180, 0, 22, 27, 46, 100, 184, 0, 80, 184, 0, 95, 172]
theorem zwX6_menToTeeth_0 : (cX6_menToTeeth.data.toList.drop 0).take 36 = zchX6_menToTeeth_0 := by decide +kernel
def zchX6_moored_0 : List UInt8 := [42, 27, 182, 0, 58, 153, 0, 16, 42, 180, 0, 15, 27, 46, 154, 0, 7, 4, 167, 0, 4, 3, 172]
theorem zwX6_moored_0 : (cX6_moored.data.toList.drop 0).take 36 = zchX6_moored_0 := by decide +kernel
def zchX6_ownersSide_0 : List UInt8 := [3, 62, 4, 54, 4, 21, 4, 6, 162, 0, 30, 42, 27, 21, 4, 28, 182, 0, 104, 42, 27, 29, 28, 182, 0, 104, 162, 0, 6, 21, 4, 62, 132, 4, 1, 167]
theorem zwX6_ownersSide_0 : (cX6_ownersSide.data.toList.drop 0).take 36 = zchX6_ownersSide_0 := by decide +kernel
def zchX6_ownersSide_1 : List UInt8 := [132, 4, 1, 167, 255, 226, 29, 172]
theorem zwX6_ownersSide_1 : (cX6_ownersSide.data.toList.drop 32).take 36 = zchX6_ownersSide_1 := by decide +kernel
def zchX6_rewardFor_0 : List UInt8 := [27, 154, 0, 7, 3, 167, 0, 13, 42, 180, 0, 36, 8, 46, 28, 27, 104, 96, 172]
theorem zwX6_rewardFor_0 : (cX6_rewardFor.data.toList.drop 0).take 36 = zchX6_rewardFor_0 := by decide +kernel
def zchX6_send_0 : List UInt8 := [42, 27, 182, 0, 62, 154, 0, 4, 177, 42, 180, 0, 15, 27, 4, 79, 28, 154, 0, 11, 42, 27, 182, 0, 65, 167, 0, 31, 28, 4, 160, 0, 12, 42, 27, 29]
theorem zwX6_send_0 : (cX6_send.data.toList.drop 0).take 36 = zchX6_send_0 := by decide +kernel
def zchX6_send_1 : List UInt8 := [12, 42, 27, 29, 182, 0, 69, 167, 0, 17, 42, 180, 0, 45, 5, 92, 46, 42, 27, 182, 0, 73, 96, 79, 177]
theorem zwX6_send_1 : (cX6_send.data.toList.drop 32).take 36 = zchX6_send_1 := by decide +kernel
def zchX6_sendByTeeth_0 : List UInt8 := [42, 27, 182, 0, 77, 61, 42, 180, 0, 22, 27, 3, 42, 180, 0, 22, 27, 46, 42, 180, 0, 36, 3, 46, 100, 184, 0, 80, 79, 42, 180, 0, 19, 27, 92, 46]
theorem zwX6_sendByTeeth_0 : (cX6_sendByTeeth.data.toList.drop 0).take 36 = zchX6_sendByTeeth_0 := by decide +kernel
def zchX6_sendByTeeth_1 : List UInt8 := [19, 27, 92, 46, 28, 100, 79, 42, 180, 0, 45, 3, 92, 46, 28, 96, 79, 42, 180, 0, 19, 27, 46, 154, 0, 8, 42, 27, 182, 0, 86, 177]
theorem zwX6_sendByTeeth_1 : (cX6_sendByTeeth.data.toList.drop 32).take 36 = zchX6_sendByTeeth_1 := by decide +kernel
def zchX6_sendByWhirl_0 : List UInt8 := [42, 180, 0, 36, 16, 7, 42, 180, 0, 36, 16, 7, 46, 184, 0, 89, 79, 42, 180, 0, 36, 16, 7, 46, 16, 10, 112, 42, 28, 182, 0, 92, 162, 0, 8, 42]
theorem zwX6_sendByWhirl_0 : (cX6_sendByWhirl.data.toList.drop 0).take 36 = zchX6_sendByWhirl_0 := by decide +kernel
def zchX6_sendByWhirl_1 : List UInt8 := [162, 0, 8, 42, 27, 182, 0, 86, 177]
theorem zwX6_sendByWhirl_1 : (cX6_sendByWhirl.data.toList.drop 32).take 36 = zchX6_sendByWhirl_1 := by decide +kernel
def zchX6_whole_0 : List UInt8 := [42, 180, 0, 36, 4, 46, 42, 180, 0, 19, 27, 46, 104, 42, 180, 0, 25, 27, 46, 96, 172]
theorem zwX6_whole_0 : (cX6_whole.data.toList.drop 0).take 36 = zchX6_whole_0 := by decide +kernel
def zchX6_whyNot_0 : List UInt8 := [42, 27, 182, 0, 58, 154, 0, 5, 4, 172, 42, 27, 182, 0, 62, 153, 0, 8, 16, 250, 167, 0, 4, 5, 172]
theorem zwX6_whyNot_0 : (cX6_whyNot.data.toList.drop 0).take 36 = zchX6_whyNot_0 := by decide +kernel
def zchX6_worstBy_0 : List UInt8 := [28, 4, 160, 0, 21, 42, 29, 182, 0, 92, 158, 0, 11, 42, 27, 182, 0, 98, 167, 0, 4, 3, 172, 28, 154, 0, 11, 42, 27, 182, 0, 101, 167, 0, 8, 42]
theorem zwX6_worstBy_0 : (cX6_worstBy.data.toList.drop 0).take 36 = zchX6_worstBy_0 := by decide +kernel
def zchX6_worstBy_1 : List UInt8 := [167, 0, 8, 42, 27, 182, 0, 73, 172]
theorem zwX6_worstBy_1 : (cX6_worstBy.data.toList.drop 32).take 36 = zchX6_worstBy_1 := by decide +kernel
def zchX7_tryOut_0 : List UInt8 := [42, 180, 0, 12, 44, 182, 0, 25, 42, 3, 181, 0, 18, 42, 16, 250, 181, 0, 22, 3, 62, 3, 54, 4, 21, 4, 43, 180, 0, 29, 162, 0, 84, 43, 21, 4]
theorem zwX7_tryOut_0 : (cX7_tryOut.data.toList.drop 0).take 36 = zchX7_tryOut_0 := by decide +kernel
def zchX7_tryOut_1 : List UInt8 := [84, 43, 21, 4, 182, 0, 34, 153, 0, 9, 132, 3, 1, 167, 0, 53, 43, 21, 4, 182, 0, 38, 54, 5, 42, 42, 180, 0, 12, 21, 5, 182, 0, 42, 181, 0]
theorem zwX7_tryOut_1 : (cX7_tryOut.data.toList.drop 32).take 36 = zchX7_tryOut_1 := by decide +kernel
def zchX7_tryOut_2 : List UInt8 := [0, 42, 181, 0, 22, 42, 180, 0, 22, 16, 250, 159, 0, 4, 177, 132, 4, 1, 42, 180, 0, 12, 21, 5, 43, 21, 4, 182, 0, 45, 29, 182, 0, 48, 42, 89]
theorem zwX7_tryOut_2 : (cX7_tryOut.data.toList.drop 64).take 36 = zchX7_tryOut_2 := by decide +kernel
def zchX7_tryOut_3 : List UInt8 := [0, 48, 42, 89, 180, 0, 18, 4, 96, 181, 0, 18, 132, 4, 1, 167, 255, 169, 177]
theorem zwX7_tryOut_3 : (cX7_tryOut.data.toList.drop 96).take 36 = zchX7_tryOut_3 := by decide +kernel
def zchX8_aboard_0 : List UInt8 := [27, 3, 16, 7, 184, 0, 47, 154, 0, 5, 2, 172, 28, 3, 16, 9, 184, 0, 47, 154, 0, 6, 16, 254, 172, 42, 180, 0, 10, 180, 0, 228, 89, 180, 0, 232]
theorem zwX8_aboard_0 : (cX8_aboard.data.toList.drop 0).take 36 = zchX8_aboard_0 := by decide +kernel
def zchX8_aboard_1 : List UInt8 := [89, 180, 0, 232, 4, 27, 120, 128, 181, 0, 232, 42, 180, 0, 10, 180, 0, 228, 180, 0, 235, 27, 28, 79, 42, 180, 0, 10, 180, 0, 228, 180, 0, 232, 184, 0]
theorem zwX8_aboard_1 : (cX8_aboard.data.toList.drop 32).take 36 = zchX8_aboard_1 := by decide +kernel
def zchX8_aboard_2 : List UInt8 := [0, 232, 184, 0, 73, 172]
theorem zwX8_aboard_2 : (cX8_aboard.data.toList.drop 64).take 36 = zchX8_aboard_2 := by decide +kernel
def zchX8_ashore_0 : List UInt8 := [42, 180, 0, 10, 180, 0, 228, 27, 182, 0, 238, 154, 0, 5, 2, 172, 42, 180, 0, 10, 180, 0, 228, 89, 180, 0, 232, 4, 27, 120, 2, 130, 126, 181, 0, 232]
theorem zwX8_ashore_0 : (cX8_ashore.data.toList.drop 0).take 36 = zchX8_ashore_0 := by decide +kernel
def zchX8_ashore_1 : List UInt8 := [126, 181, 0, 232, 42, 180, 0, 10, 180, 0, 228, 180, 0, 232, 184, 0, 73, 172]
theorem zwX8_ashore_1 : (cX8_ashore.data.toList.drop 32).take 36 = zchX8_ashore_1 := by decide +kernel
def zchX8_behind_0 : List UInt8 := [42, 180, 0, 10, 180, 0, 51, 27, 182, 0, 79, 154, 0, 5, 2, 172, 28, 3, 5, 184, 0, 47, 154, 0, 6, 16, 254, 172, 42, 182, 0, 133, 153, 0, 18, 42]
theorem zwX8_behind_0 : (cX8_behind.data.toList.drop 0).take 36 = zchX8_behind_0 := by decide +kernel
def zchX8_behind_1 : List UInt8 := [153, 0, 18, 42, 180, 0, 36, 180, 0, 137, 27, 28, 182, 0, 130, 167, 0, 5, 16, 251, 172]
theorem zwX8_behind_1 : (cX8_behind.data.toList.drop 32).take 36 = zchX8_behind_1 := by decide +kernel
def zchX8_bound_0 : List UInt8 := [29, 2, 159, 0, 19, 42, 180, 0, 10, 180, 0, 51, 29, 182, 0, 164, 154, 0, 5, 2, 172, 27, 184, 0, 145, 153, 0, 13, 28, 3, 18, 167, 184, 0, 47, 154]
theorem zwX8_bound_0 : (cX8_bound.data.toList.drop 0).take 36 = zchX8_bound_0 := by decide +kernel
def zchX8_bound_1 : List UInt8 := [184, 0, 47, 154, 0, 6, 16, 254, 172, 42, 180, 0, 43, 42, 180, 0, 10, 180, 0, 51, 27, 182, 0, 168, 42, 180, 0, 43, 28, 182, 0, 172, 54, 4, 21, 4]
theorem zwX8_bound_1 : (cX8_bound.data.toList.drop 32).take 36 = zchX8_bound_1 := by decide +kernel
def zchX8_bound_2 : List UInt8 := [54, 4, 21, 4, 16, 250, 160, 0, 6, 16, 250, 172, 29, 2, 160, 0, 15, 42, 180, 0, 43, 21, 4, 182, 0, 175, 167, 0, 13, 42, 180, 0, 43, 21, 4, 29]
theorem zwX8_bound_2 : (cX8_bound.data.toList.drop 64).take 36 = zchX8_bound_2 := by decide +kernel
def zchX8_bound_3 : List UInt8 := [43, 21, 4, 29, 182, 0, 178, 172]
theorem zwX8_bound_3 : (cX8_bound.data.toList.drop 96).take 36 = zchX8_bound_3 := by decide +kernel
def zchX8_burnt_0 : List UInt8 := [42, 180, 0, 10, 180, 1, 1, 76, 10, 65, 3, 54, 4, 21, 4, 43, 180, 1, 5, 162, 0, 42, 21, 4, 16, 6, 162, 0, 35, 32, 16, 8, 43, 180, 1, 8]
theorem zwX8_burnt_0 : (cX8_burnt.data.toList.drop 0).take 36 = zchX8_burnt_0 := by decide +kernel
def zchX8_burnt_1 : List UInt8 := [43, 180, 1, 8, 21, 4, 46, 184, 0, 73, 100, 43, 180, 1, 11, 21, 4, 46, 184, 0, 250, 105, 65, 132, 4, 1, 167, 255, 211, 32, 173]
theorem zwX8_burnt_1 : (cX8_burnt.data.toList.drop 32).take 36 = zchX8_burnt_1 := by decide +kernel
def zchX8_captain_0 : List UInt8 := [42, 27, 28, 182, 0, 155, 62, 29, 153, 0, 7, 29, 167, 0, 28, 42, 180, 0, 10, 180, 0, 51, 27, 28, 42, 180, 0, 10, 180, 0, 51, 180, 0, 89, 16, 6]
theorem zwX8_captain_0 : (cX8_captain.data.toList.drop 0).take 36 = zchX8_captain_0 := by decide +kernel
def zchX8_captain_1 : List UInt8 := [0, 89, 16, 6, 46, 182, 0, 193, 172]
theorem zwX8_captain_1 : (cX8_captain.data.toList.drop 32).take 36 = zchX8_captain_1 := by decide +kernel
def zchX8_choice_0 : List UInt8 := [42, 27, 28, 182, 0, 155, 62, 29, 153, 0, 7, 29, 167, 0, 15, 42, 180, 0, 10, 180, 0, 51, 27, 28, 182, 0, 158, 172]
theorem zwX8_choice_0 : (cX8_choice.data.toList.drop 0).take 36 = zchX8_choice_0 := by decide +kernel
def zchX8_commonDivisor_0 : List UInt8 := [30, 55, 4, 32, 55, 6, 3, 54, 8, 21, 8, 17, 0, 128, 162, 0, 31, 22, 6, 9, 148, 153, 0, 24, 22, 4, 22, 6, 113, 55, 9, 22, 6, 55, 4, 22]
theorem zwX8_commonDivisor_0 : (cX8_commonDivisor.data.toList.drop 0).take 36 = zchX8_commonDivisor_0 := by decide +kernel
def zchX8_commonDivisor_1 : List UInt8 := [6, 55, 4, 22, 9, 55, 6, 132, 8, 1, 167, 255, 223, 22, 4, 173]
theorem zwX8_commonDivisor_1 : (cX8_commonDivisor.data.toList.drop 32).take 36 = zchX8_commonDivisor_1 := by decide +kernel
def zchX8_convoy_0 : List UInt8 := [27, 184, 0, 145, 153, 0, 12, 28, 3, 4, 184, 0, 47, 154, 0, 6, 16, 254, 172, 42, 180, 0, 43, 42, 180, 0, 10, 180, 0, 51, 27, 182, 0, 168, 42, 180]
theorem zwX8_convoy_0 : (cX8_convoy.data.toList.drop 0).take 36 = zchX8_convoy_0 := by decide +kernel
def zchX8_convoy_1 : List UInt8 := [0, 168, 42, 180, 0, 43, 182, 0, 187, 62, 28, 154, 0, 7, 29, 167, 0, 11, 42, 180, 0, 43, 29, 182, 0, 190, 172]
theorem zwX8_convoy_1 : (cX8_convoy.data.toList.drop 32).take 36 = zchX8_convoy_1 := by decide +kernel
def zchX8_done_0 : List UInt8 := [42, 182, 0, 133, 154, 0, 6, 16, 251, 172, 42, 180, 0, 10, 180, 0, 51, 42, 180, 0, 36, 180, 0, 137, 182, 0, 138, 42, 180, 0, 29, 182, 0, 98, 87, 42]
theorem zwX8_done_0 : (cX8_done.data.toList.drop 0).take 36 = zchX8_done_0 := by decide +kernel
def zchX8_done_1 : List UInt8 := [0, 98, 87, 42, 180, 0, 36, 180, 0, 127, 172]
theorem zwX8_done_1 : (cX8_done.data.toList.drop 32).take 36 = zchX8_done_1 := by decide +kernel
def zchX8_drawAfter_0 : List UInt8 := [16, 75, 26, 104, 16, 74, 96, 19, 1, 31, 112, 172]
theorem zwX8_drawAfter_0 : (cX8_drawAfter.data.toList.drop 0).take 36 = zchX8_drawAfter_0 := by decide +kernel
def zchX8_fault_0 : List UInt8 := [27, 3, 4, 184, 0, 47, 154, 0, 6, 16, 254, 172, 27, 154, 0, 13, 42, 180, 0, 29, 182, 0, 102, 167, 0, 10, 42, 180, 0, 29, 182, 0, 105, 172]
theorem zwX8_fault_0 : (cX8_fault.data.toList.drop 0).take 36 = zchX8_fault_0 := by decide +kernel
def zchX8_fault_1 : List UInt8 := [105, 172]
theorem zwX8_fault_1 : (cX8_fault.data.toList.drop 32).take 36 = zchX8_fault_1 := by decide +kernel
def zchX8_forget_0 : List UInt8 := [42, 180, 0, 10, 180, 1, 1, 180, 1, 5, 60, 42, 180, 0, 10, 180, 1, 1, 3, 181, 1, 5, 27, 172]
theorem zwX8_forget_0 : (cX8_forget.data.toList.drop 0).take 36 = zchX8_forget_0 := by decide +kernel
def zchX8_held_0 : List UInt8 := [42, 180, 0, 10, 180, 0, 51, 58, 4, 25, 4, 27, 182, 0, 79, 154, 0, 5, 2, 172, 28, 3, 17, 3, 208, 184, 0, 47, 153, 0, 12, 29, 3, 5, 184, 0]
theorem zwX8_held_0 : (cX8_held.data.toList.drop 0).take 36 = zchX8_held_0 := by decide +kernel
def zchX8_held_1 : List UInt8 := [3, 5, 184, 0, 47, 154, 0, 6, 16, 254, 172, 28, 54, 5, 25, 4, 27, 28, 182, 0, 161, 54, 6, 4, 54, 7, 21, 7, 16, 24, 162, 0, 52, 25, 4, 27]
theorem zwX8_held_1 : (cX8_held.data.toList.drop 32).take 36 = zchX8_held_1 := by decide +kernel
def zchX8_held_2 : List UInt8 := [52, 25, 4, 27, 28, 21, 7, 96, 182, 0, 161, 16, 10, 25, 4, 180, 0, 89, 7, 46, 104, 21, 7, 104, 96, 54, 8, 21, 8, 21, 6, 162, 0, 13, 21, 8]
theorem zwX8_held_2 : (cX8_held.data.toList.drop 64).take 36 = zchX8_held_2 := by decide +kernel
def zchX8_held_3 : List UInt8 := [0, 13, 21, 8, 54, 6, 28, 21, 7, 96, 54, 5, 132, 7, 1, 167, 255, 203, 29, 154, 0, 6, 21, 5, 172, 29, 4, 160, 0, 8, 21, 6, 167, 0, 11, 25]
theorem zwX8_held_3 : (cX8_held.data.toList.drop 96).take 36 = zchX8_held_3 := by decide +kernel
def zchX8_held_4 : List UInt8 := [167, 0, 11, 25, 4, 27, 21, 5, 182, 0, 158, 172]
theorem zwX8_held_4 : (cX8_held.data.toList.drop 128).take 36 = zchX8_held_4 := by decide +kernel
def zchX8_image_0 : List UInt8 := [27, 3, 4, 184, 0, 47, 154, 0, 6, 16, 254, 172, 42, 27, 182, 1, 24, 42, 180, 0, 10, 182, 1, 28, 42, 89, 180, 0, 22, 4, 27, 120, 128, 181, 0, 22]
theorem zwX8_image_0 : (cX8_image.data.toList.drop 0).take 36 = zchX8_image_0 := by decide +kernel
def zchX8_image_1 : List UInt8 := [128, 181, 0, 22, 4, 172]
theorem zwX8_image_1 : (cX8_image.data.toList.drop 32).take 36 = zchX8_image_1 := by decide +kernel
def zchX8_imageBooks_0 : List UInt8 := [27, 154, 0, 10, 42, 180, 0, 16, 167, 0, 7, 42, 180, 0, 19, 176]
theorem zwX8_imageBooks_0 : (cX8_imageBooks.data.toList.drop 0).take 36 = zchX8_imageBooks_0 := by decide +kernel
def zchX8_insured_0 : List UInt8 := [42, 180, 0, 10, 180, 0, 51, 27, 182, 0, 79, 154, 0, 5, 2, 172, 28, 184, 0, 145, 153, 0, 12, 29, 3, 5, 184, 0, 47, 154, 0, 6, 16, 254, 172, 42]
theorem zwX8_insured_0 : (cX8_insured.data.toList.drop 0).take 36 = zchX8_insured_0 := by decide +kernel
def zchX8_insured_1 : List UInt8 := [16, 254, 172, 42, 180, 0, 10, 180, 0, 196, 58, 4, 42, 180, 0, 10, 180, 0, 51, 28, 182, 0, 209, 54, 5, 25, 4, 21, 5, 182, 0, 212, 54, 6, 29, 4]
theorem zwX8_insured_1 : (cX8_insured.data.toList.drop 32).take 36 = zchX8_insured_1 := by decide +kernel
def zchX8_insured_2 : List UInt8 := [54, 6, 29, 4, 160, 0, 6, 21, 6, 172, 25, 4, 21, 6, 182, 0, 215, 54, 7, 25, 4, 21, 6, 182, 0, 218, 54, 8, 42, 180, 0, 10, 180, 0, 51, 27]
theorem zwX8_insured_2 : (cX8_insured.data.toList.drop 64).take 36 = zchX8_insured_2 := by decide +kernel
def zchX8_insured_3 : List UInt8 := [180, 0, 51, 27, 182, 0, 221, 54, 9, 29, 154, 0, 21, 21, 5, 21, 9, 21, 8, 100, 104, 16, 10, 21, 7, 104, 96, 18, 224, 96, 172, 21, 5, 158, 0, 14]
theorem zwX8_insured_3 : (cX8_insured.data.toList.drop 96).take 36 = zchX8_insured_3 := by decide +kernel
def zchX8_insured_4 : List UInt8 := [5, 158, 0, 14, 21, 9, 21, 7, 96, 21, 8, 100, 167, 0, 4, 3, 54, 10, 21, 7, 21, 10, 184, 0, 225, 172]
theorem zwX8_insured_4 : (cX8_insured.data.toList.drop 128).take 36 = zchX8_insured_4 := by decide +kernel
def zchX8_isHour_0 : List UInt8 := [26, 3, 17, 3, 231, 184, 0, 47, 172]
theorem zwX8_isHour_0 : (cX8_isHour.data.toList.drop 0).take 36 = zchX8_isHour_0 := by decide +kernel
def zchX8_judge_0 : List UInt8 := [27, 3, 4, 184, 0, 47, 154, 0, 6, 16, 254, 172, 42, 180, 0, 29, 182, 0, 105, 16, 250, 159, 0, 6, 16, 251, 172, 42, 180, 0, 36, 42, 180, 0, 29, 42]
theorem zwX8_judge_0 : (cX8_judge.data.toList.drop 0).take 36 = zchX8_judge_0 := by decide +kernel
def zchX8_judge_1 : List UInt8 := [180, 0, 29, 42, 180, 0, 10, 180, 0, 51, 182, 0, 120, 42, 180, 0, 36, 180, 0, 124, 16, 250, 159, 0, 8, 27, 4, 160, 0, 13, 42, 180, 0, 36, 180, 0]
theorem zwX8_judge_1 : (cX8_judge.data.toList.drop 32).take 36 = zchX8_judge_1 := by decide +kernel
def zchX8_judge_2 : List UInt8 := [0, 36, 180, 0, 124, 167, 0, 10, 42, 180, 0, 36, 180, 0, 127, 172]
theorem zwX8_judge_2 : (cX8_judge.data.toList.drop 64).take 36 = zchX8_judge_2 := by decide +kernel
def zchX8_line_0 : List UInt8 := [27, 184, 0, 145, 153, 0, 17, 28, 2, 161, 0, 12, 29, 3, 4, 184, 0, 47, 154, 0, 6, 16, 254, 172, 42, 180, 0, 43, 42, 180, 0, 10, 180, 0, 51, 27]
theorem zwX8_line_0 : (cX8_line.data.toList.drop 0).take 36 = zchX8_line_0 := by decide +kernel
def zchX8_line_1 : List UInt8 := [180, 0, 51, 27, 182, 0, 168, 42, 180, 0, 43, 182, 0, 181, 54, 4, 28, 2, 160, 0, 6, 21, 4, 172, 28, 21, 4, 162, 0, 15, 42, 180, 0, 43, 28, 29]
theorem zwX8_line_1 : (cX8_line.data.toList.drop 32).take 36 = zchX8_line_1 := by decide +kernel
def zchX8_line_2 : List UInt8 := [0, 43, 28, 29, 182, 0, 184, 167, 0, 5, 16, 250, 172]
theorem zwX8_line_2 : (cX8_line.data.toList.drop 64).take 36 = zchX8_line_2 := by decide +kernel
def zchX8_lot_0 : List UInt8 := [42, 180, 0, 10, 180, 0, 228, 58, 4, 25, 4, 28, 182, 0, 238, 154, 0, 7, 20, 0, 239, 173, 27, 4, 25, 4, 180, 0, 232, 184, 0, 73, 184, 0, 47, 153]
theorem zwX8_lot_0 : (cX8_lot.data.toList.drop 0).take 36 = zchX8_lot_0 := by decide +kernel
def zchX8_lot_1 : List UInt8 := [184, 0, 47, 153, 0, 12, 29, 3, 4, 184, 0, 47, 154, 0, 7, 20, 0, 241, 173, 25, 4, 25, 4, 180, 0, 235, 28, 46, 25, 4, 180, 0, 235, 28, 46, 182]
theorem zwX8_lot_1 : (cX8_lot.data.toList.drop 32).take 36 = zchX8_lot_1 := by decide +kernel
def zchX8_lot_2 : List UInt8 := [235, 28, 46, 182, 0, 243, 54, 5, 25, 4, 3, 25, 4, 180, 0, 235, 28, 46, 4, 100, 182, 0, 243, 54, 6, 3, 21, 5, 27, 21, 6, 100, 184, 0, 108, 184]
theorem zwX8_lot_2 : (cX8_lot.data.toList.drop 64).take 36 = zchX8_lot_2 := by decide +kernel
def zchX8_lot_3 : List UInt8 := [184, 0, 108, 184, 0, 225, 54, 7, 21, 7, 133, 21, 5, 133, 29, 184, 0, 246, 173]
theorem zwX8_lot_3 : (cX8_lot.data.toList.drop 96).take 36 = zchX8_lot_3 := by decide +kernel
def zchX8_mean_0 : List UInt8 := [42, 180, 0, 10, 180, 0, 51, 27, 182, 0, 79, 154, 0, 5, 2, 172, 28, 3, 5, 184, 0, 47, 153, 0, 10, 29, 184, 0, 145, 154, 0, 6, 16, 254, 172, 42]
theorem zwX8_mean_0 : (cX8_mean.data.toList.drop 0).take 36 = zchX8_mean_0 := by decide +kernel
def zchX8_mean_1 : List UInt8 := [16, 254, 172, 42, 180, 0, 10, 180, 0, 51, 27, 28, 29, 182, 0, 148, 172]
theorem zwX8_mean_1 : (cX8_mean.data.toList.drop 32).take 36 = zchX8_mean_1 := by decide +kernel
def zchX8_noOffers_0 : List UInt8 := [42, 180, 0, 10, 180, 0, 196, 180, 0, 200, 184, 0, 73, 60, 42, 180, 0, 10, 180, 0, 196, 3, 181, 0, 200, 27, 172]
theorem zwX8_noOffers_0 : (cX8_noOffers.data.toList.drop 0).take 36 = zchX8_noOffers_0 := by decide +kernel
def zchX8_offer_0 : List UInt8 := [27, 3, 6, 184, 0, 47, 153, 0, 25, 28, 3, 17, 3, 231, 184, 0, 47, 153, 0, 14, 29, 3, 17, 39, 15, 184, 0, 47, 154, 0, 6, 16, 254, 172, 42, 180]
theorem zwX8_offer_0 : (cX8_offer.data.toList.drop 0).take 36 = zchX8_offer_0 := by decide +kernel
def zchX8_offer_1 : List UInt8 := [254, 172, 42, 180, 0, 10, 180, 0, 196, 58, 4, 25, 4, 89, 180, 0, 200, 4, 27, 120, 128, 181, 0, 200, 25, 4, 180, 0, 203, 27, 28, 79, 25, 4, 180, 0]
theorem zwX8_offer_1 : (cX8_offer.data.toList.drop 32).take 36 = zchX8_offer_1 := by decide +kernel
def zchX8_offer_2 : List UInt8 := [25, 4, 180, 0, 206, 27, 29, 79, 25, 4, 180, 0, 200, 184, 0, 73, 172]
theorem zwX8_offer_2 : (cX8_offer.data.toList.drop 64).take 36 = zchX8_offer_2 := by decide +kernel
def zchX8_often_0 : List UInt8 := [27, 4, 16, 8, 184, 0, 47, 153, 0, 43, 28, 3, 27, 184, 0, 47, 153, 0, 34, 29, 4, 16, 8, 184, 0, 47, 153, 0, 24, 21, 4, 3, 16, 8, 184, 0]
theorem zwX8_often_0 : (cX8_often.data.toList.drop 0).take 36 = zchX8_often_0 := by decide +kernel
def zchX8_often_1 : List UInt8 := [16, 8, 184, 0, 47, 153, 0, 13, 21, 5, 3, 4, 184, 0, 47, 154, 0, 7, 20, 0, 241, 173, 9, 55, 6, 21, 4, 54, 8, 21, 8, 29, 163, 0, 38, 22]
theorem zwX8_often_1 : (cX8_often.data.toList.drop 32).take 36 = zchX8_often_1 := by decide +kernel
def zchX8_often_2 : List UInt8 := [163, 0, 38, 22, 6, 29, 21, 8, 184, 0, 250, 28, 21, 8, 184, 0, 254, 105, 27, 28, 100, 29, 21, 8, 100, 184, 0, 254, 105, 97, 55, 6, 132, 8, 1, 167]
theorem zwX8_often_2 : (cX8_often.data.toList.drop 64).take 36 = zchX8_often_2 := by decide +kernel
def zchX8_often_3 : List UInt8 := [132, 8, 1, 167, 255, 218, 22, 6, 27, 29, 184, 0, 254, 21, 5, 184, 0, 246, 173]
theorem zwX8_often_3 : (cX8_often.data.toList.drop 96).take 36 = zchX8_often_3 := by decide +kernel
def zchX8_partOf_0 : List UInt8 := [30, 32, 184, 1, 32, 55, 5, 22, 5, 10, 148, 156, 0, 5, 9, 173, 21, 4, 154, 0, 7, 30, 167, 0, 4, 32, 22, 5, 109, 173]
theorem zwX8_partOf_0 : (cX8_partOf.data.toList.drop 0).take 36 = zchX8_partOf_0 := by decide +kernel
def zchX8_persuaded_0 : List UInt8 := [42, 27, 28, 182, 0, 155, 62, 29, 153, 0, 5, 29, 172, 42, 180, 0, 10, 180, 0, 51, 27, 28, 182, 0, 158, 54, 4, 178, 0, 83, 16, 6, 46, 54, 5, 21]
theorem zwX8_persuaded_0 : (cX8_persuaded.data.toList.drop 0).take 36 = zchX8_persuaded_0 := by decide +kernel
def zchX8_persuaded_1 : List UInt8 := [46, 54, 5, 21, 5, 178, 0, 86, 16, 6, 46, 163, 0, 31, 42, 180, 0, 10, 180, 0, 51, 27, 28, 21, 5, 182, 0, 193, 21, 4, 160, 0, 6, 21, 5, 172]
theorem zwX8_persuaded_1 : (cX8_persuaded.data.toList.drop 32).take 36 = zchX8_persuaded_1 := by decide +kernel
def zchX8_persuaded_2 : List UInt8 := [6, 21, 5, 172, 132, 5, 1, 167, 255, 220, 16, 250, 172]
theorem zwX8_persuaded_2 : (cX8_persuaded.data.toList.drop 64).take 36 = zchX8_persuaded_2 := by decide +kernel
def zchX8_power_0 : List UInt8 := [10, 65, 3, 54, 4, 21, 4, 27, 162, 0, 14, 32, 26, 133, 105, 65, 132, 4, 1, 167, 255, 242, 32, 173]
theorem zwX8_power_0 : (cX8_power.data.toList.drop 0).take 36 = zchX8_power_0 := by decide +kernel
def zchX8_refusalOf_0 : List UInt8 := [42, 180, 0, 10, 180, 0, 51, 27, 182, 0, 79, 154, 0, 5, 2, 172, 28, 184, 0, 145, 153, 0, 7, 3, 167, 0, 5, 16, 254, 172]
theorem zwX8_refusalOf_0 : (cX8_refusalOf.data.toList.drop 0).take 36 = zchX8_refusalOf_0 := by decide +kernel
def zchX8_restore_0 : List UInt8 := [27, 3, 4, 184, 0, 47, 154, 0, 6, 16, 254, 172, 42, 180, 0, 22, 27, 122, 4, 126, 154, 0, 6, 16, 253, 172, 42, 180, 0, 10, 42, 27, 182, 1, 24, 182]
theorem zwX8_restore_0 : (cX8_restore.data.toList.drop 0).take 36 = zchX8_restore_0 := by decide +kernel
def zchX8_restore_1 : List UInt8 := [182, 1, 24, 182, 1, 28, 4, 172]
theorem zwX8_restore_1 : (cX8_restore.data.toList.drop 32).take 36 = zchX8_restore_1 := by decide +kernel
def zchX8_roll_0 : List UInt8 := [27, 3, 17, 0, 255, 184, 0, 47, 153, 0, 16, 28, 27, 184, 0, 73, 16, 8, 184, 0, 47, 154, 0, 6, 16, 254, 172, 42, 180, 0, 10, 180, 1, 1, 78, 45]
theorem zwX8_roll_0 : (cX8_roll.data.toList.drop 0).take 36 = zchX8_roll_0 := by decide +kernel
def zchX8_roll_1 : List UInt8 := [1, 1, 78, 45, 180, 1, 5, 16, 6, 161, 0, 6, 16, 252, 172, 45, 180, 1, 8, 45, 180, 1, 5, 27, 79, 45, 180, 1, 11, 45, 180, 1, 5, 28, 27, 184]
theorem zwX8_roll_1 : (cX8_roll.data.toList.drop 32).take 36 = zchX8_roll_1 := by decide +kernel
def zchX8_roll_2 : List UInt8 := [5, 28, 27, 184, 0, 73, 100, 79, 45, 89, 180, 1, 5, 4, 96, 181, 1, 5, 45, 180, 1, 5, 172]
theorem zwX8_roll_2 : (cX8_roll.data.toList.drop 64).take 36 = zchX8_roll_2 := by decide +kernel
def zchX8_say_0 : List UInt8 := [27, 16, 33, 16, 126, 184, 0, 47, 154, 0, 6, 16, 254, 172, 42, 180, 0, 29, 180, 0, 92, 16, 60, 161, 0, 6, 16, 252, 172, 42, 180, 0, 29, 180, 0, 95]
theorem zwX8_say_0 : (cX8_say.data.toList.drop 0).take 36 = zchX8_say_0 := by decide +kernel
def zchX8_say_1 : List UInt8 := [29, 180, 0, 95, 42, 180, 0, 29, 180, 0, 92, 27, 79, 42, 180, 0, 29, 89, 180, 0, 92, 4, 96, 181, 0, 92, 42, 180, 0, 29, 180, 0, 92, 172]
theorem zwX8_say_1 : (cX8_say.data.toList.drop 32).take 36 = zchX8_say_1 := by decide +kernel
def zchX8_say_2 : List UInt8 := [92, 172]
theorem zwX8_say_2 : (cX8_say.data.toList.drop 64).take 36 = zchX8_say_2 := by decide +kernel
def zchX8_scrap_0 : List UInt8 := [42, 180, 0, 10, 180, 0, 51, 77, 44, 27, 182, 0, 79, 154, 0, 5, 2, 172, 44, 89, 180, 0, 55, 4, 27, 120, 2, 130, 126, 181, 0, 55, 44, 180, 0, 55]
theorem zwX8_scrap_0 : (cX8_scrap.data.toList.drop 0).take 36 = zchX8_scrap_0 := by decide +kernel
def zchX8_scrap_1 : List UInt8 := [44, 180, 0, 55, 184, 0, 73, 172]
theorem zwX8_scrap_1 : (cX8_scrap.data.toList.drop 32).take 36 = zchX8_scrap_1 := by decide +kernel
def zchX8_seasonCanBe_0 : List UInt8 := [42, 180, 0, 29, 182, 0, 105, 16, 250, 159, 0, 5, 3, 172, 42, 180, 0, 36, 42, 180, 0, 29, 42, 180, 0, 10, 180, 0, 51, 182, 0, 120, 42, 180, 0, 36]
theorem zwX8_seasonCanBe_0 : (cX8_seasonCanBe.data.toList.drop 0).take 36 = zchX8_seasonCanBe_0 := by decide +kernel
def zchX8_seasonCanBe_1 : List UInt8 := [42, 180, 0, 36, 180, 0, 124, 16, 250, 160, 0, 7, 4, 167, 0, 4, 3, 172]
theorem zwX8_seasonCanBe_1 : (cX8_seasonCanBe.data.toList.drop 32).take 36 = zchX8_seasonCanBe_1 := by decide +kernel
def zchX8_set_0 : List UInt8 := [27, 3, 16, 7, 184, 0, 47, 153, 0, 20, 28, 178, 0, 83, 27, 46, 178, 0, 86, 27, 46, 184, 0, 47, 154, 0, 6, 16, 254, 172, 42, 180, 0, 10, 180, 0]
theorem zwX8_set_0 : (cX8_set.data.toList.drop 0).take 36 = zchX8_set_0 := by decide +kernel
def zchX8_set_1 : List UInt8 := [0, 10, 180, 0, 51, 180, 0, 89, 27, 46, 62, 42, 180, 0, 10, 180, 0, 51, 180, 0, 89, 27, 28, 79, 29, 172]
theorem zwX8_set_1 : (cX8_set.data.toList.drop 32).take 36 = zchX8_set_1 := by decide +kernel
def zchX8_ship_0 : List UInt8 := [27, 3, 8, 184, 0, 47, 154, 0, 5, 2, 172, 28, 4, 16, 30, 184, 0, 47, 153, 0, 25, 29, 3, 16, 9, 184, 0, 47, 153, 0, 15, 21, 4, 3, 17, 3]
theorem zwX8_ship_0 : (cX8_ship.data.toList.drop 0).take 36 = zchX8_ship_0 := by decide +kernel
def zchX8_ship_1 : List UInt8 := [4, 3, 17, 3, 231, 184, 0, 47, 154, 0, 6, 16, 254, 172, 42, 180, 0, 10, 180, 0, 51, 58, 5, 25, 5, 89, 180, 0, 55, 4, 27, 120, 128, 181, 0, 55]
theorem zwX8_ship_1 : (cX8_ship.data.toList.drop 32).take 36 = zchX8_ship_1 := by decide +kernel
def zchX8_ship_2 : List UInt8 := [128, 181, 0, 55, 25, 5, 180, 0, 60, 27, 3, 79, 25, 5, 180, 0, 64, 27, 28, 79, 25, 5, 180, 0, 67, 27, 29, 79, 25, 5, 180, 0, 70, 27, 21, 4]
theorem zwX8_ship_2 : (cX8_ship.data.toList.drop 64).take 36 = zchX8_ship_2 := by decide +kernel
def zchX8_ship_3 : List UInt8 := [70, 27, 21, 4, 79, 25, 5, 180, 0, 55, 184, 0, 73, 172]
theorem zwX8_ship_3 : (cX8_ship.data.toList.drop 96).take 36 = zchX8_ship_3 := by decide +kernel
def zchX8_state_0 : List UInt8 := [42, 180, 0, 10, 180, 0, 51, 27, 182, 0, 79, 154, 0, 5, 2, 172, 28, 3, 5, 184, 0, 47, 154, 0, 6, 16, 254, 172, 42, 180, 0, 10, 180, 0, 51, 27]
theorem zwX8_state_0 : (cX8_state.data.toList.drop 0).take 36 = zchX8_state_0 := by decide +kernel
def zchX8_state_1 : List UInt8 := [180, 0, 51, 27, 28, 182, 0, 130, 172]
theorem zwX8_state_1 : (cX8_state.data.toList.drop 32).take 36 = zchX8_state_1 := by decide +kernel
def zchX8_sum_0 : List UInt8 := [27, 3, 5, 184, 0, 47, 153, 0, 18, 42, 180, 0, 10, 180, 0, 51, 180, 0, 142, 27, 46, 167, 0, 5, 16, 254, 172]
theorem zwX8_sum_0 : (cX8_sum.data.toList.drop 0).take 36 = zchX8_sum_0 := by decide +kernel
def zchX8_tide_0 : List UInt8 := [42, 180, 0, 29, 182, 0, 102, 16, 250, 159, 0, 6, 16, 251, 172, 42, 180, 0, 10, 180, 0, 51, 76, 43, 42, 180, 0, 29, 180, 0, 92, 16, 24, 184, 0, 108]
theorem zwX8_tide_0 : (cX8_tide.data.toList.drop 0).take 36 = zchX8_tide_0 := by decide +kernel
def zchX8_tide_1 : List UInt8 := [24, 184, 0, 108, 181, 0, 114, 3, 61, 28, 43, 180, 0, 114, 162, 0, 27, 43, 180, 0, 117, 28, 42, 180, 0, 29, 180, 0, 95, 28, 46, 16, 48, 100, 79, 132]
theorem zwX8_tide_1 : (cX8_tide.data.toList.drop 32).take 36 = zchX8_tide_1 := by decide +kernel
def zchX8_tide_2 : List UInt8 := [48, 100, 79, 132, 2, 1, 167, 255, 227, 42, 180, 0, 29, 182, 0, 98, 172]
theorem zwX8_tide_2 : (cX8_tide.data.toList.drop 64).take 36 = zchX8_tide_2 := by decide +kernel
def zchX8_told_0 : List UInt8 := [27, 5, 16, 9, 184, 0, 47, 153, 0, 18, 42, 180, 0, 10, 180, 0, 51, 180, 0, 89, 27, 5, 100, 46, 172, 27, 16, 20, 16, 27, 184, 0, 47, 153, 0, 41]
theorem zwX8_told_0 : (cX8_told.data.toList.drop 0).take 36 = zchX8_told_0 := by decide +kernel
def zchX8_told_1 : List UInt8 := [47, 153, 0, 41, 42, 180, 0, 10, 180, 0, 228, 27, 16, 20, 100, 182, 0, 238, 153, 0, 21, 42, 180, 0, 10, 180, 0, 228, 180, 0, 235, 27, 16, 20, 100, 46]
theorem zwX8_told_1 : (cX8_told.data.toList.drop 32).take 36 = zchX8_told_1 := by decide +kernel
def zchX8_told_2 : List UInt8 := [16, 20, 100, 46, 167, 0, 5, 16, 254, 172, 27, 16, 30, 16, 35, 184, 0, 47, 153, 0, 41, 42, 180, 0, 10, 180, 0, 51, 27, 16, 30, 100, 182, 0, 79, 153]
theorem zwX8_told_2 : (cX8_told.data.toList.drop 64).take 36 = zchX8_told_2 := by decide +kernel
def zchX8_told_3 : List UInt8 := [182, 0, 79, 153, 0, 21, 42, 180, 0, 10, 180, 0, 51, 180, 0, 70, 27, 16, 30, 100, 46, 167, 0, 5, 16, 254, 172, 27, 16, 100, 16, 123, 184, 0, 47, 153]
theorem zwX8_told_3 : (cX8_told.data.toList.drop 96).take 36 = zchX8_told_3 := by decide +kernel
def zchX8_told_4 : List UInt8 := [184, 0, 47, 153, 0, 18, 42, 180, 0, 10, 180, 0, 51, 27, 16, 100, 100, 182, 0, 209, 172, 27, 170, 0, 0, 0, 0, 133, 0, 0, 0, 0, 0, 0, 0, 13]
theorem zwX8_told_4 : (cX8_told.data.toList.drop 128).take 36 = zchX8_told_4 := by decide +kernel
def zchX8_told_6 : List UInt8 := [0, 0, 0, 133, 0, 0, 0, 133, 0, 0, 0, 133, 0, 0, 0, 89, 0, 0, 0, 100, 0, 0, 0, 111, 0, 0, 0, 122, 42, 180, 0, 29, 180, 0, 92, 172]
theorem zwX8_told_6 : (cX8_told.data.toList.drop 192).take 36 = zchX8_told_6 := by decide +kernel
def zchX8_told_7 : List UInt8 := [180, 0, 92, 172, 42, 180, 0, 10, 180, 0, 51, 180, 0, 55, 172, 42, 180, 0, 10, 180, 0, 51, 180, 0, 114, 172, 42, 180, 0, 10, 180, 0, 196, 180, 0, 200]
theorem zwX8_told_7 : (cX8_told.data.toList.drop 224).take 36 = zchX8_told_7 := by decide +kernel
def zchX8_told_8 : List UInt8 := [196, 180, 0, 200, 172, 42, 180, 0, 10, 180, 0, 228, 180, 0, 232, 172, 42, 180, 0, 10, 180, 1, 1, 180, 1, 5, 172, 16, 254, 172]
theorem zwX8_told_8 : (cX8_told.data.toList.drop 256).take 36 = zchX8_told_8 := by decide +kernel
def zchX8_twice_0 : List UInt8 := [27, 3, 4, 184, 0, 47, 153, 0, 26, 42, 180, 0, 10, 180, 1, 1, 27, 4, 160, 0, 7, 4, 167, 0, 4, 3, 182, 1, 14, 167, 0, 5, 16, 254, 172]
theorem zwX8_twice_0 : (cX8_twice.data.toList.drop 0).take 36 = zchX8_twice_0 := by decide +kernel
def zchX8_twice_1 : List UInt8 := [16, 254, 172]
theorem zwX8_twice_1 : (cX8_twice.data.toList.drop 32).take 36 = zchX8_twice_1 := by decide +kernel
def zchX8_ways_0 : List UInt8 := [27, 155, 0, 8, 27, 26, 164, 0, 5, 9, 173, 10, 65, 4, 54, 4, 21, 4, 27, 163, 0, 23, 32, 26, 27, 100, 21, 4, 96, 133, 105, 21, 4, 133, 109, 65]
theorem zwX8_ways_0 : (cX8_ways.data.toList.drop 0).take 36 = zchX8_ways_0 := by decide +kernel
def zchX8_ways_1 : List UInt8 := [4, 133, 109, 65, 132, 4, 1, 167, 255, 233, 32, 173]
theorem zwX8_ways_1 : (cX8_ways.data.toList.drop 32).take 36 = zchX8_ways_1 := by decide +kernel
def zchX8_wipe_0 : List UInt8 := [42, 180, 0, 29, 182, 0, 98, 172]
theorem zwX8_wipe_0 : (cX8_wipe.data.toList.drop 0).take 36 = zchX8_wipe_0 := by decide +kernel
def zchX8_within_0 : List UInt8 := [26, 27, 161, 0, 12, 26, 28, 163, 0, 7, 4, 167, 0, 4, 3, 172]
theorem zwX8_within_0 : (cX8_within.data.toList.drop 0).take 36 = zchX8_within_0 := by decide +kernel
def zchX8_worst_0 : List UInt8 := [42, 180, 0, 10, 180, 0, 51, 27, 182, 0, 79, 154, 0, 5, 2, 172, 28, 3, 5, 184, 0, 47, 153, 0, 10, 29, 184, 0, 145, 154, 0, 6, 16, 254, 172, 42]
theorem zwX8_worst_0 : (cX8_worst.data.toList.drop 0).take 36 = zchX8_worst_0 := by decide +kernel
def zchX8_worst_1 : List UInt8 := [16, 254, 172, 42, 180, 0, 10, 180, 0, 51, 27, 28, 29, 182, 0, 152, 172]
theorem zwX8_worst_1 : (cX8_worst.data.toList.drop 32).take 36 = zchX8_worst_1 := by decide +kernel
def zchX8_years_0 : List UInt8 := [42, 180, 0, 10, 180, 0, 51, 58, 5, 25, 5, 27, 182, 0, 79, 154, 0, 5, 2, 172, 28, 3, 17, 39, 15, 184, 0, 47, 153, 0, 23, 29, 4, 16, 99, 184]
theorem zwX8_years_0 : (cX8_years.data.toList.drop 0).take 36 = zchX8_years_0 := by decide +kernel
def zchX8_years_1 : List UInt8 := [4, 16, 99, 184, 0, 47, 153, 0, 13, 21, 4, 3, 5, 184, 0, 47, 154, 0, 6, 16, 254, 172, 21, 4, 4, 160, 0, 12, 29, 25, 5, 27, 182, 1, 18, 104]
theorem zwX8_years_1 : (cX8_years.data.toList.drop 32).take 36 = zchX8_years_1 := by decide +kernel
def zchX8_years_2 : List UInt8 := [182, 1, 18, 104, 172, 28, 54, 6, 3, 54, 7, 3, 54, 8, 21, 8, 29, 162, 0, 40, 21, 6, 184, 1, 21, 54, 6, 21, 6, 16, 24, 108, 16, 10, 112, 25]
theorem zwX8_years_2 : (cX8_years.data.toList.drop 64).take 36 = zchX8_years_2 := by decide +kernel
def zchX8_years_3 : List UInt8 := [16, 10, 112, 25, 5, 21, 6, 16, 24, 112, 182, 0, 209, 162, 0, 6, 132, 7, 1, 132, 8, 1, 167, 255, 216, 21, 4, 5, 160, 0, 8, 21, 7, 167, 0, 12]
theorem zwX8_years_3 : (cX8_years.data.toList.drop 96).take 36 = zchX8_years_3 := by decide +kernel
def zchX8_years_4 : List UInt8 := [7, 167, 0, 12, 21, 7, 25, 5, 27, 182, 0, 221, 104, 172]
theorem zwX8_years_4 : (cX8_years.data.toList.drop 128).take 36 = zchX8_years_4 := by decide +kernel
def zchX9_aboard_0 : List UInt8 := [27, 133, 9, 20, 0, 118, 184, 0, 89, 154, 0, 5, 2, 172, 28, 133, 9, 20, 0, 106, 184, 0, 89, 154, 0, 6, 16, 254, 172, 42, 180, 0, 31, 27, 28, 79]
theorem zwX9_aboard_0 : (cX9_aboard.data.toList.drop 0).take 36 = zchX9_aboard_0 := by decide +kernel
def zchX9_aboard_1 : List UInt8 := [31, 27, 28, 79, 42, 89, 180, 1, 16, 4, 27, 120, 128, 181, 1, 16, 42, 180, 1, 16, 184, 0, 108, 172]
theorem zwX9_aboard_1 : (cX9_aboard.data.toList.drop 32).take 36 = zchX9_aboard_1 := by decide +kernel
def zchX9_allOf_0 : List UInt8 := [42, 180, 0, 66, 42, 180, 0, 7, 27, 46, 104, 42, 180, 0, 16, 27, 46, 96, 172]
theorem zwX9_allOf_0 : (cX9_allOf.data.toList.drop 0).take 36 = zchX9_allOf_0 := by decide +kernel
def zchX9_ashore_0 : List UInt8 := [42, 27, 182, 1, 19, 154, 0, 5, 2, 172, 42, 89, 180, 1, 16, 4, 27, 120, 2, 130, 126, 181, 1, 16, 42, 180, 1, 16, 184, 0, 108, 172]
theorem zwX9_ashore_0 : (cX9_ashore.data.toList.drop 0).take 36 = zchX9_ashore_0 := by decide +kernel
def zchX9_behind_0 : List UInt8 := [42, 27, 182, 0, 112, 154, 0, 5, 2, 172, 28, 133, 9, 20, 0, 102, 184, 0, 89, 154, 0, 6, 16, 254, 172, 42, 182, 0, 145, 155, 0, 6, 16, 251, 172, 42]
theorem zwX9_behind_0 : (cX9_behind.data.toList.drop 0).take 36 = zchX9_behind_0 := by decide +kernel
def zchX9_behind_1 : List UInt8 := [16, 251, 172, 42, 182, 0, 193, 42, 182, 0, 196, 42, 27, 28, 182, 0, 202, 62, 42, 182, 0, 199, 42, 180, 0, 175, 155, 0, 8, 16, 251, 167, 0, 4, 29, 172]
theorem zwX9_behind_1 : (cX9_behind.data.toList.drop 32).take 36 = zchX9_behind_1 := by decide +kernel
def zchX9_behind_2 : List UInt8 := [0, 4, 29, 172]
theorem zwX9_behind_2 : (cX9_behind.data.toList.drop 64).take 36 = zchX9_behind_2 := by decide +kernel
def zchX9_behindIt_0 : List UInt8 := [4, 61, 27, 4, 96, 62, 29, 16, 6, 162, 0, 25, 28, 42, 29, 182, 0, 234, 153, 0, 7, 6, 167, 0, 4, 4, 104, 61, 132, 3, 1, 167, 255, 231, 28, 172]
theorem zwX9_behindIt_0 : (cX9_behindIt.data.toList.drop 0).take 36 = zchX9_behindIt_0 := by decide +kernel
def zchX9_behindIt_1 : List UInt8 := [255, 231, 28, 172]
theorem zwX9_behindIt_1 : (cX9_behindIt.data.toList.drop 32).take 36 = zchX9_behindIt_1 := by decide +kernel
def zchX9_bound_0 : List UInt8 := [29, 2, 159, 0, 13, 42, 29, 182, 0, 234, 154, 0, 5, 2, 172, 27, 184, 0, 219, 153, 0, 15, 28, 133, 9, 20, 0, 237, 184, 0, 89, 154, 0, 6, 16, 254]
theorem zwX9_bound_0 : (cX9_bound.data.toList.drop 0).take 36 = zchX9_bound_0 := by decide +kernel
def zchX9_bound_1 : List UInt8 := [0, 6, 16, 254, 172, 42, 27, 182, 0, 239, 16, 250, 54, 4, 3, 54, 5, 21, 5, 42, 180, 0, 231, 162, 0, 63, 42, 180, 0, 49, 21, 5, 46, 28, 163, 0]
theorem zwX9_bound_1 : (cX9_bound.data.toList.drop 32).take 36 = zchX9_bound_1 := by decide +kernel
def zchX9_bound_2 : List UInt8 := [46, 28, 163, 0, 29, 21, 4, 155, 0, 20, 42, 180, 0, 46, 21, 5, 46, 42, 180, 0, 46, 21, 4, 46, 162, 0, 7, 4, 167, 0, 4, 3, 54, 6, 21, 6]
theorem zwX9_bound_2 : (cX9_bound.data.toList.drop 64).take 36 = zchX9_bound_2 := by decide +kernel
def zchX9_bound_3 : List UInt8 := [54, 6, 21, 6, 153, 0, 8, 21, 5, 167, 0, 5, 21, 4, 54, 4, 132, 5, 1, 167, 255, 190, 21, 4, 156, 0, 8, 16, 250, 167, 0, 28, 29, 2, 160, 0]
theorem zwX9_bound_3 : (cX9_bound.data.toList.drop 96).take 36 = zchX9_bound_3 := by decide +kernel
def zchX9_bound_4 : List UInt8 := [29, 2, 160, 0, 13, 42, 180, 0, 46, 21, 4, 46, 167, 0, 13, 21, 4, 42, 29, 182, 0, 242, 108, 6, 112, 172]
theorem zwX9_bound_4 : (cX9_bound.data.toList.drop 128).take 36 = zchX9_bound_4 := by decide +kernel
def zchX9_burnt_0 : List UInt8 := [10, 64, 3, 62, 29, 42, 180, 1, 41, 162, 0, 40, 42, 180, 0, 34, 29, 46, 184, 0, 108, 54, 4, 31, 16, 8, 21, 4, 100, 42, 180, 0, 37, 29, 46, 21]
theorem zwX9_burnt_0 : (cX9_burnt.data.toList.drop 0).take 36 = zchX9_burnt_0 := by decide +kernel
def zchX9_burnt_1 : List UInt8 := [37, 29, 46, 21, 4, 100, 184, 1, 32, 105, 64, 132, 3, 1, 167, 255, 214, 31, 173]
theorem zwX9_burnt_1 : (cX9_burnt.data.toList.drop 32).take 36 = zchX9_burnt_1 := by decide +kernel
def zchX9_captain_0 : List UInt8 := [42, 27, 182, 0, 112, 154, 0, 5, 2, 172, 28, 184, 0, 219, 153, 0, 16, 42, 27, 28, 42, 180, 0, 115, 182, 0, 255, 167, 0, 5, 16, 254, 172]
theorem zwX9_captain_0 : (cX9_captain.data.toList.drop 0).take 36 = zchX9_captain_0 := by decide +kernel
def zchX9_captain_1 : List UInt8 := [172]
theorem zwX9_captain_1 : (cX9_captain.data.toList.drop 32).take 36 = zchX9_captain_1 := by decide +kernel
def zchX9_captainBy_0 : List UInt8 := [3, 54, 4, 4, 54, 5, 21, 5, 6, 162, 0, 39, 42, 27, 21, 5, 28, 29, 182, 0, 251, 42, 27, 21, 4, 28, 29, 182, 0, 251, 164, 0, 8, 21, 5, 167]
theorem zwX9_captainBy_0 : (cX9_captainBy.data.toList.drop 0).take 36 = zchX9_captainBy_0 := by decide +kernel
def zchX9_captainBy_1 : List UInt8 := [8, 21, 5, 167, 0, 5, 21, 4, 54, 4, 132, 5, 1, 167, 255, 217, 21, 4, 172]
theorem zwX9_captainBy_1 : (cX9_captainBy.data.toList.drop 32).take 36 = zchX9_captainBy_1 := by decide +kernel
def zchX9_choice_0 : List UInt8 := [42, 27, 182, 0, 112, 154, 0, 5, 2, 172, 28, 184, 0, 219, 153, 0, 12, 42, 27, 28, 182, 0, 225, 167, 0, 5, 16, 254, 172]
theorem zwX9_choice_0 : (cX9_choice.data.toList.drop 0).take 36 = zchX9_choice_0 := by decide +kernel
def zchX9_choiceOf_0 : List UInt8 := [3, 62, 4, 54, 4, 21, 4, 6, 162, 0, 34, 42, 27, 21, 4, 28, 182, 0, 212, 42, 27, 29, 28, 182, 0, 212, 162, 0, 8, 21, 4, 167, 0, 4, 29, 62]
theorem zwX9_choiceOf_0 : (cX9_choiceOf.data.toList.drop 0).take 36 = zchX9_choiceOf_0 := by decide +kernel
def zchX9_choiceOf_1 : List UInt8 := [0, 4, 29, 62, 132, 4, 1, 167, 255, 222, 29, 172]
theorem zwX9_choiceOf_1 : (cX9_choiceOf.data.toList.drop 32).take 36 = zchX9_choiceOf_1 := by decide +kernel
def zchX9_choose_0 : List UInt8 := [10, 65, 4, 54, 4, 21, 4, 27, 163, 0, 23, 32, 26, 27, 100, 21, 4, 96, 133, 105, 21, 4, 133, 109, 65, 132, 4, 1, 167, 255, 233, 32, 173]
theorem zwX9_choose_0 : (cX9_choose.data.toList.drop 0).take 36 = zchX9_choose_0 := by decide +kernel
def zchX9_choose_1 : List UInt8 := [173]
theorem zwX9_choose_1 : (cX9_choose.data.toList.drop 32).take 36 = zchX9_choose_1 := by decide +kernel
def zchX9_convoy_0 : List UInt8 := [27, 184, 0, 219, 153, 0, 13, 28, 133, 9, 10, 184, 0, 89, 154, 0, 6, 16, 254, 172, 3, 62, 18, 230, 54, 4, 3, 54, 5, 21, 5, 6, 162, 0, 85, 3]
theorem zwX9_convoy_0 : (cX9_convoy.data.toList.drop 0).take 36 = zchX9_convoy_0 := by decide +kernel
def zchX9_convoy_1 : List UInt8 := [162, 0, 85, 3, 54, 6, 3, 54, 7, 21, 7, 16, 6, 162, 0, 36, 21, 6, 42, 21, 7, 182, 0, 234, 153, 0, 15, 42, 21, 7, 21, 5, 27, 182, 0, 212]
theorem zwX9_convoy_1 : (cX9_convoy.data.toList.drop 32).take 36 = zchX9_convoy_1 := by decide +kernel
def zchX9_convoy_2 : List UInt8 := [27, 182, 0, 212, 167, 0, 4, 3, 96, 54, 6, 132, 7, 1, 167, 255, 219, 21, 6, 21, 4, 162, 0, 8, 21, 5, 167, 0, 4, 29, 62, 21, 6, 21, 4, 162]
theorem zwX9_convoy_2 : (cX9_convoy.data.toList.drop 64).take 36 = zchX9_convoy_2 := by decide +kernel
def zchX9_convoy_3 : List UInt8 := [6, 21, 4, 162, 0, 8, 21, 6, 167, 0, 5, 21, 4, 54, 4, 132, 5, 1, 167, 255, 171, 28, 154, 0, 7, 29, 167, 0, 5, 21, 4, 172]
theorem zwX9_convoy_3 : (cX9_convoy.data.toList.drop 96).take 36 = zchX9_convoy_3 := by decide +kernel
def zchX9_done_0 : List UInt8 := [42, 182, 0, 145, 155, 0, 6, 16, 251, 172, 42, 182, 0, 193, 42, 182, 0, 196, 42, 180, 0, 175, 155, 0, 10, 42, 182, 0, 199, 16, 251, 172, 42, 3, 181, 0]
theorem zwX9_done_0 : (cX9_done.data.toList.drop 0).take 36 = zchX9_done_0 := by decide +kernel
def zchX9_done_1 : List UInt8 := [42, 3, 181, 0, 130, 42, 180, 0, 172, 172]
theorem zwX9_done_1 : (cX9_done.data.toList.drop 32).take 36 = zchX9_done_1 := by decide +kernel
def zchX9_fault_0 : List UInt8 := [27, 154, 0, 10, 42, 182, 0, 141, 167, 0, 17, 27, 4, 160, 0, 10, 42, 182, 0, 145, 167, 0, 5, 16, 254, 172]
theorem zwX9_fault_0 : (cX9_fault.data.toList.drop 0).take 36 = zchX9_fault_0 := by decide +kernel
def zchX9_faultOfSeason_0 : List UInt8 := [3, 60, 3, 61, 28, 42, 180, 0, 130, 162, 0, 96, 42, 180, 0, 40, 28, 46, 62, 27, 153, 0, 29, 29, 16, 84, 159, 0, 15, 29, 16, 87, 159, 0, 9, 29]
theorem zwX9_faultOfSeason_0 : (cX9_faultOfSeason.data.toList.drop 0).take 36 = zchX9_faultOfSeason_0 := by decide +kernel
def zchX9_faultOfSeason_1 : List UInt8 := [159, 0, 9, 29, 16, 67, 160, 0, 7, 4, 167, 0, 32, 3, 167, 0, 28, 29, 16, 46, 159, 0, 17, 29, 133, 20, 0, 137, 20, 0, 139, 184, 0, 89, 153, 0]
theorem zwX9_faultOfSeason_1 : (cX9_faultOfSeason.data.toList.drop 32).take 36 = zchX9_faultOfSeason_1 := by decide +kernel
def zchX9_faultOfSeason_2 : List UInt8 := [0, 89, 153, 0, 7, 4, 167, 0, 4, 3, 54, 4, 21, 4, 154, 0, 5, 28, 172, 27, 154, 0, 13, 29, 16, 46, 159, 0, 7, 4, 167, 0, 4, 3, 60, 132]
theorem zwX9_faultOfSeason_2 : (cX9_faultOfSeason.data.toList.drop 64).take 36 = zchX9_faultOfSeason_2 := by decide +kernel
def zchX9_faultOfSeason_3 : List UInt8 := [4, 3, 60, 132, 2, 1, 167, 255, 158, 27, 153, 0, 10, 42, 180, 0, 130, 167, 0, 5, 16, 250, 172]
theorem zwX9_faultOfSeason_3 : (cX9_faultOfSeason.data.toList.drop 96).take 36 = zchX9_faultOfSeason_3 := by decide +kernel
def zchX9_faultOfTide_0 : List UInt8 := [3, 60, 27, 42, 180, 0, 130, 162, 0, 36, 27, 16, 24, 159, 0, 22, 42, 180, 0, 40, 27, 46, 133, 20, 0, 133, 20, 0, 135, 184, 0, 89, 154, 0, 5, 27]
theorem zwX9_faultOfTide_0 : (cX9_faultOfTide.data.toList.drop 0).take 36 = zchX9_faultOfTide_0 := by decide +kernel
def zchX9_faultOfTide_1 : List UInt8 := [154, 0, 5, 27, 172, 132, 1, 1, 167, 255, 218, 42, 180, 0, 130, 154, 0, 7, 3, 167, 0, 5, 16, 250, 172]
theorem zwX9_faultOfTide_1 : (cX9_faultOfTide.data.toList.drop 32).take 36 = zchX9_faultOfTide_1 := by decide +kernel
def zchX9_forget_0 : List UInt8 := [42, 180, 1, 41, 60, 42, 3, 181, 1, 41, 27, 172]
theorem zwX9_forget_0 : (cX9_forget.data.toList.drop 0).take 36 = zchX9_forget_0 := by decide +kernel
def zchX9_gets_0 : List UInt8 := [42, 180, 0, 7, 27, 46, 42, 27, 182, 0, 148, 100, 54, 5, 28, 154, 0, 26, 21, 5, 154, 0, 7, 3, 167, 0, 16, 16, 10, 42, 180, 0, 78, 21, 4, 21]
theorem zwX9_gets_0 : (cX9_gets.data.toList.drop 0).take 36 = zchX9_gets_0 := by decide +kernel
def zchX9_gets_1 : List UInt8 := [78, 21, 4, 21, 5, 104, 96, 104, 172, 42, 180, 0, 78, 21, 4, 42, 180, 0, 7, 27, 46, 104, 96, 54, 6, 28, 4, 160, 0, 30, 16, 10, 42, 29, 182, 0]
theorem zwX9_gets_1 : (cX9_gets.data.toList.drop 32).take 36 = zchX9_gets_1 := by decide +kernel
def zchX9_gets_2 : List UInt8 := [42, 29, 182, 0, 163, 100, 42, 180, 0, 7, 27, 46, 154, 0, 7, 3, 167, 0, 5, 21, 6, 104, 167, 0, 26, 16, 10, 42, 180, 0, 7, 27, 46, 154, 0, 7]
theorem zwX9_gets_2 : (cX9_gets.data.toList.drop 64).take 36 = zchX9_gets_2 := by decide +kernel
def zchX9_gets_3 : List UInt8 := [46, 154, 0, 7, 3, 167, 0, 5, 21, 6, 42, 180, 0, 72, 100, 104, 172]
theorem zwX9_gets_3 : (cX9_gets.data.toList.drop 96).take 36 = zchX9_gets_3 := by decide +kernel
def zchX9_goCape_0 : List UInt8 := [42, 89, 180, 0, 166, 42, 180, 0, 69, 42, 180, 0, 72, 104, 42, 180, 0, 7, 27, 46, 104, 96, 181, 0, 166, 42, 180, 0, 19, 27, 4, 79, 177]
theorem zwX9_goCape_0 : (cX9_goCape.data.toList.drop 0).take 36 = zchX9_goCape_0 := by decide +kernel
def zchX9_goCape_1 : List UInt8 := [177]
theorem zwX9_goCape_1 : (cX9_goCape.data.toList.drop 32).take 36 = zchX9_goCape_1 := by decide +kernel
def zchX9_goSeason_0 : List UInt8 := [42, 16, 250, 181, 0, 175, 42, 16, 250, 181, 0, 169, 42, 3, 181, 0, 172, 3, 60, 3, 61, 28, 42, 180, 0, 130, 162, 0, 68, 42, 180, 0, 175, 156, 0, 61]
theorem zwX9_goSeason_0 : (cX9_goSeason.data.toList.drop 0).take 36 = zchX9_goSeason_0 := by decide +kernel
def zchX9_goSeason_1 : List UInt8 := [175, 156, 0, 61, 42, 180, 0, 40, 28, 46, 16, 46, 160, 0, 9, 132, 1, 1, 167, 0, 28, 42, 42, 180, 0, 40, 28, 46, 16, 65, 100, 42, 180, 0, 40, 28]
theorem zwX9_goSeason_1 : (cX9_goSeason.data.toList.drop 32).take 36 = zchX9_goSeason_1 := by decide +kernel
def zchX9_goSeason_2 : List UInt8 := [180, 0, 40, 28, 4, 96, 46, 27, 182, 0, 189, 132, 2, 1, 42, 89, 180, 0, 172, 4, 96, 181, 0, 172, 132, 2, 1, 167, 255, 186, 177]
theorem zwX9_goSeason_2 : (cX9_goSeason.data.toList.drop 64).take 36 = zchX9_goSeason_2 := by decide +kernel
def zchX9_goTeeth_0 : List UInt8 := [42, 27, 182, 0, 148, 61, 42, 180, 0, 13, 27, 42, 180, 0, 13, 27, 46, 42, 180, 0, 62, 164, 0, 17, 42, 180, 0, 13, 27, 46, 42, 180, 0, 62, 100, 167]
theorem zwX9_goTeeth_0 : (cX9_goTeeth.data.toList.drop 0).take 36 = zchX9_goTeeth_0 := by decide +kernel
def zchX9_goTeeth_1 : List UInt8 := [0, 62, 100, 167, 0, 4, 3, 79, 42, 180, 0, 7, 27, 92, 46, 28, 100, 79, 42, 89, 180, 0, 151, 28, 96, 181, 0, 151, 42, 180, 0, 19, 27, 42, 180, 0]
theorem zwX9_goTeeth_1 : (cX9_goTeeth.data.toList.drop 32).take 36 = zchX9_goTeeth_1 := by decide +kernel
def zchX9_goTeeth_2 : List UInt8 := [27, 42, 180, 0, 7, 27, 46, 154, 0, 7, 5, 167, 0, 4, 4, 79, 42, 89, 180, 0, 154, 42, 180, 0, 7, 27, 46, 154, 0, 12, 42, 180, 0, 16, 27, 46]
theorem zwX9_goTeeth_2 : (cX9_goTeeth.data.toList.drop 64).take 36 = zchX9_goTeeth_2 := by decide +kernel
def zchX9_goTeeth_3 : List UInt8 := [0, 16, 27, 46, 167, 0, 4, 3, 96, 181, 0, 154, 42, 180, 0, 16, 27, 42, 180, 0, 7, 27, 46, 154, 0, 7, 3, 167, 0, 9, 42, 180, 0, 16, 27, 46]
theorem zwX9_goTeeth_3 : (cX9_goTeeth.data.toList.drop 96).take 36 = zchX9_goTeeth_3 := by decide +kernel
def zchX9_goTeeth_4 : List UInt8 := [0, 16, 27, 46, 79, 177]
theorem zwX9_goTeeth_4 : (cX9_goTeeth.data.toList.drop 128).take 36 = zchX9_goTeeth_4 := by decide +kernel
def zchX9_goWhirl_0 : List UInt8 := [42, 20, 0, 157, 42, 180, 0, 81, 133, 105, 20, 0, 159, 97, 20, 0, 161, 113, 136, 181, 0, 81, 42, 180, 0, 81, 16, 10, 112, 42, 28, 182, 0, 163, 162, 0]
theorem zwX9_goWhirl_0 : (cX9_goWhirl.data.toList.drop 0).take 36 = zchX9_goWhirl_0 := by decide +kernel
def zchX9_goWhirl_1 : List UInt8 := [0, 163, 162, 0, 7, 4, 167, 0, 4, 3, 62, 42, 180, 0, 19, 27, 29, 153, 0, 7, 5, 167, 0, 4, 4, 79, 29, 153, 0, 54, 42, 89, 180, 0, 151, 42]
theorem zwX9_goWhirl_1 : (cX9_goWhirl.data.toList.drop 32).take 36 = zchX9_goWhirl_1 := by decide +kernel
def zchX9_goWhirl_2 : List UInt8 := [180, 0, 151, 42, 180, 0, 7, 27, 46, 96, 181, 0, 151, 42, 89, 180, 0, 154, 42, 180, 0, 16, 27, 46, 96, 181, 0, 154, 42, 180, 0, 7, 27, 3, 79, 42]
theorem zwX9_goWhirl_2 : (cX9_goWhirl.data.toList.drop 64).take 36 = zchX9_goWhirl_2 := by decide +kernel
def zchX9_goWhirl_3 : List UInt8 := [27, 3, 79, 42, 180, 0, 13, 27, 3, 79, 42, 180, 0, 16, 27, 3, 79, 177]
theorem zwX9_goWhirl_3 : (cX9_goWhirl.data.toList.drop 96).take 36 = zchX9_goWhirl_3 := by decide +kernel
def zchX9_got_0 : List UInt8 := [3, 61, 3, 62, 29, 7, 162, 0, 31, 28, 27, 29, 122, 4, 126, 4, 160, 0, 12, 42, 180, 0, 28, 29, 46, 167, 0, 4, 3, 96, 61, 132, 3, 1, 167, 255]
theorem zwX9_got_0 : (cX9_got.data.toList.drop 0).take 36 = zchX9_got_0 := by decide +kernel
def zchX9_got_1 : List UInt8 := [3, 1, 167, 255, 226, 28, 172]
theorem zwX9_got_1 : (cX9_got.data.toList.drop 32).take 36 = zchX9_got_1 := by decide +kernel
def zchX9_greatest_0 : List UInt8 := [26, 154, 0, 8, 16, 9, 167, 0, 37, 26, 5, 160, 0, 8, 16, 20, 167, 0, 27, 26, 6, 160, 0, 8, 16, 60, 167, 0, 17, 26, 16, 7, 160, 0, 9, 17]
theorem zwX9_greatest_0 : (cX9_greatest.data.toList.drop 0).take 36 = zchX9_greatest_0 := by decide +kernel
def zchX9_greatest_1 : List UInt8 := [160, 0, 9, 17, 39, 15, 167, 0, 5, 16, 99, 172]
theorem zwX9_greatest_1 : (cX9_greatest.data.toList.drop 32).take 36 = zchX9_greatest_1 := by decide +kernel
def zchX9_held_0 : List UInt8 := [42, 27, 182, 0, 112, 154, 0, 5, 2, 172, 28, 133, 9, 20, 0, 228, 184, 0, 89, 153, 0, 15, 29, 133, 9, 20, 0, 102, 184, 0, 89, 154, 0, 6, 16, 254]
theorem zwX9_held_0 : (cX9_held.data.toList.drop 0).take 36 = zchX9_held_0 := by decide +kernel
def zchX9_held_1 : List UInt8 := [0, 6, 16, 254, 172, 28, 54, 4, 18, 230, 54, 5, 28, 54, 6, 21, 6, 28, 16, 24, 96, 162, 0, 70, 42, 27, 42, 27, 21, 6, 182, 0, 225, 21, 6, 182]
theorem zwX9_held_1 : (cX9_held.data.toList.drop 32).take 36 = zchX9_held_1 := by decide +kernel
def zchX9_held_2 : List UInt8 := [225, 21, 6, 182, 0, 212, 16, 10, 42, 180, 0, 75, 104, 21, 6, 28, 100, 104, 96, 54, 7, 21, 7, 21, 5, 162, 0, 8, 21, 6, 167, 0, 5, 21, 4, 54]
theorem zwX9_held_2 : (cX9_held.data.toList.drop 64).take 36 = zchX9_held_2 := by decide +kernel
def zchX9_held_3 : List UInt8 := [5, 21, 4, 54, 4, 21, 7, 21, 5, 162, 0, 8, 21, 7, 167, 0, 5, 21, 5, 54, 5, 132, 6, 1, 167, 255, 183, 29, 154, 0, 8, 21, 4, 167, 0, 20]
theorem zwX9_held_3 : (cX9_held.data.toList.drop 96).take 36 = zchX9_held_3 := by decide +kernel
def zchX9_held_4 : List UInt8 := [4, 167, 0, 20, 29, 4, 160, 0, 8, 21, 5, 167, 0, 10, 42, 27, 21, 4, 182, 0, 225, 172]
theorem zwX9_held_4 : (cX9_held.data.toList.drop 128).take 36 = zchX9_held_4 := by decide +kernel
def zchX9_image_0 : List UInt8 := [27, 133, 9, 10, 184, 0, 89, 154, 0, 6, 16, 254, 172, 42, 16, 120, 27, 104, 181, 1, 50, 42, 4, 181, 1, 46, 42, 182, 1, 59, 42, 180, 0, 58, 27, 4]
theorem zwX9_image_0 : (cX9_image.data.toList.drop 0).take 36 = zchX9_image_0 := by decide +kernel
def zchX9_image_1 : List UInt8 := [0, 58, 27, 4, 84, 4, 172]
theorem zwX9_image_1 : (cX9_image.data.toList.drop 32).take 36 = zchX9_image_1 := by decide +kernel
def zchX9_in_0 : List UInt8 := [30, 32, 148, 155, 0, 14, 30, 22, 4, 148, 157, 0, 7, 4, 167, 0, 4, 3, 172]
theorem zwX9_in_0 : (cX9_in.data.toList.drop 0).take 36 = zchX9_in_0 := by decide +kernel
def zchX9_insured_0 : List UInt8 := [42, 27, 182, 0, 112, 154, 0, 5, 2, 172, 28, 184, 0, 219, 153, 0, 15, 29, 133, 9, 20, 0, 102, 184, 0, 89, 154, 0, 6, 16, 254, 172, 42, 28, 182, 0]
theorem zwX9_insured_0 : (cX9_insured.data.toList.drop 0).take 36 = zchX9_insured_0 := by decide +kernel
def zchX9_insured_1 : List UInt8 := [42, 28, 182, 0, 163, 54, 4, 3, 54, 5, 18, 230, 54, 6, 3, 54, 7, 21, 7, 16, 16, 162, 0, 90, 21, 4, 42, 27, 182, 0, 209, 42, 21, 7, 182, 1]
theorem zwX9_insured_1 : (cX9_insured.data.toList.drop 32).take 36 = zchX9_insured_1 := by decide +kernel
def zchX9_insured_2 : List UInt8 := [21, 7, 182, 1, 9, 100, 104, 16, 10, 42, 21, 7, 182, 1, 12, 104, 96, 54, 8, 21, 7, 42, 180, 1, 6, 2, 130, 126, 154, 0, 14, 21, 8, 21, 6, 162]
theorem zwX9_insured_2 : (cX9_insured.data.toList.drop 64).take 36 = zchX9_insured_2 := by decide +kernel
def zchX9_insured_3 : List UInt8 := [8, 21, 6, 162, 0, 7, 4, 167, 0, 4, 3, 54, 9, 21, 9, 153, 0, 8, 21, 7, 167, 0, 5, 21, 5, 54, 5, 21, 9, 153, 0, 8, 21, 8, 167, 0]
theorem zwX9_insured_3 : (cX9_insured.data.toList.drop 96).take 36 = zchX9_insured_3 := by decide +kernel
def zchX9_insured_4 : List UInt8 := [21, 8, 167, 0, 5, 21, 6, 54, 6, 132, 7, 1, 167, 255, 165, 29, 5, 162, 0, 19, 29, 154, 0, 12, 21, 6, 19, 1, 15, 96, 167, 0, 5, 21, 5, 172]
theorem zwX9_insured_4 : (cX9_insured.data.toList.drop 128).take 36 = zchX9_insured_4 := by decide +kernel
def zchX9_insured_5 : List UInt8 := [5, 21, 5, 172, 21, 4, 158, 0, 25, 42, 27, 182, 0, 209, 42, 21, 5, 182, 1, 9, 100, 42, 21, 5, 182, 1, 12, 96, 167, 0, 4, 3, 54, 7, 42, 21]
theorem zwX9_insured_5 : (cX9_insured.data.toList.drop 160).take 36 = zchX9_insured_5 := by decide +kernel
def zchX9_insured_6 : List UInt8 := [54, 7, 42, 21, 5, 182, 1, 12, 21, 7, 164, 0, 12, 42, 21, 5, 182, 1, 12, 167, 0, 5, 21, 7, 54, 8, 21, 8, 158, 0, 8, 21, 8, 167, 0, 4]
theorem zwX9_insured_6 : (cX9_insured.data.toList.drop 192).take 36 = zchX9_insured_6 := by decide +kernel
def zchX9_insured_7 : List UInt8 := [8, 167, 0, 4, 3, 172]
theorem zwX9_insured_7 : (cX9_insured.data.toList.drop 224).take 36 = zchX9_insured_7 := by decide +kernel
def zchX9_isAboard_0 : List UInt8 := [27, 133, 9, 20, 0, 118, 184, 0, 89, 153, 0, 19, 42, 180, 1, 16, 27, 122, 4, 126, 4, 160, 0, 7, 4, 167, 0, 4, 3, 172]
theorem zwX9_isAboard_0 : (cX9_isAboard.data.toList.drop 0).take 36 = zchX9_isAboard_0 := by decide +kernel
def zchX9_isHour_0 : List UInt8 := [26, 133, 9, 20, 0, 100, 184, 0, 89, 172]
theorem zwX9_isHour_0 : (cX9_isHour.data.toList.drop 0).take 36 = zchX9_isHour_0 := by decide +kernel
def zchX9_isInHarbour_0 : List UInt8 := [42, 27, 182, 0, 112, 153, 0, 16, 42, 180, 0, 19, 27, 46, 154, 0, 7, 4, 167, 0, 4, 3, 172]
theorem zwX9_isInHarbour_0 : (cX9_isInHarbour.data.toList.drop 0).take 36 = zchX9_isInHarbour_0 := by decide +kernel
def zchX9_isNumber_0 : List UInt8 := [26, 133, 9, 20, 0, 87, 184, 0, 89, 172]
theorem zwX9_isNumber_0 : (cX9_isNumber.data.toList.drop 0).take 36 = zchX9_isNumber_0 := by decide +kernel
def zchX9_isOnLine_0 : List UInt8 := [4, 61, 3, 62, 29, 42, 180, 0, 231, 162, 0, 108, 28, 153, 0, 104, 42, 180, 0, 46, 29, 46, 42, 180, 0, 46, 27, 46, 163, 0, 22, 42, 180, 0, 49, 29]
theorem zwX9_isOnLine_0 : (cX9_isOnLine.data.toList.drop 0).take 36 = zchX9_isOnLine_0 := by decide +kernel
def zchX9_isOnLine_1 : List UInt8 := [180, 0, 49, 29, 46, 42, 180, 0, 49, 27, 46, 163, 0, 7, 4, 167, 0, 4, 3, 54, 4, 42, 180, 0, 46, 29, 46, 42, 180, 0, 46, 27, 46, 161, 0, 18]
theorem zwX9_isOnLine_1 : (cX9_isOnLine.data.toList.drop 32).take 36 = zchX9_isOnLine_1 := by decide +kernel
def zchX9_isOnLine_2 : List UInt8 := [46, 161, 0, 18, 42, 180, 0, 49, 29, 46, 42, 180, 0, 49, 27, 46, 162, 0, 7, 4, 167, 0, 4, 3, 54, 5, 21, 4, 153, 0, 13, 21, 5, 154, 0, 12]
theorem zwX9_isOnLine_2 : (cX9_isOnLine.data.toList.drop 64).take 36 = zchX9_isOnLine_2 := by decide +kernel
def zchX9_isOnLine_3 : List UInt8 := [5, 154, 0, 12, 29, 27, 161, 0, 7, 4, 167, 0, 4, 3, 61, 132, 3, 1, 167, 255, 146, 28, 172]
theorem zwX9_isOnLine_3 : (cX9_isOnLine.data.toList.drop 96).take 36 = zchX9_isOnLine_3 := by decide +kernel
def zchX9_isShip_0 : List UInt8 := [27, 184, 0, 93, 153, 0, 19, 42, 180, 0, 97, 27, 122, 4, 126, 4, 160, 0, 7, 4, 167, 0, 4, 3, 172]
theorem zwX9_isShip_0 : (cX9_isShip.data.toList.drop 0).take 36 = zchX9_isShip_0 := by decide +kernel
def zchX9_isSide_0 : List UInt8 := [26, 133, 9, 20, 0, 102, 184, 0, 89, 172]
theorem zwX9_isSide_0 : (cX9_isSide.data.toList.drop 0).take 36 = zchX9_isSide_0 := by decide +kernel
def zchX9_judge_0 : List UInt8 := [27, 133, 9, 10, 184, 0, 89, 154, 0, 6, 16, 254, 172, 42, 182, 0, 145, 155, 0, 6, 16, 251, 172, 42, 182, 0, 193, 42, 182, 0, 196, 42, 182, 0, 199, 27]
theorem zwX9_judge_0 : (cX9_judge.data.toList.drop 0).take 36 = zchX9_judge_0 := by decide +kernel
def zchX9_judge_1 : List UInt8 := [182, 0, 199, 27, 154, 0, 10, 42, 180, 0, 175, 167, 0, 7, 42, 180, 0, 169, 172]
theorem zwX9_judge_1 : (cX9_judge.data.toList.drop 32).take 36 = zchX9_judge_1 := by decide +kernel
def zchX9_keepNow_0 : List UInt8 := [3, 60, 27, 16, 6, 162, 0, 66, 42, 180, 0, 43, 27, 42, 180, 0, 7, 27, 46, 79, 42, 180, 0, 43, 16, 6, 27, 96, 42, 180, 0, 13, 27, 46, 79, 42]
theorem zwX9_keepNow_0 : (cX9_keepNow.data.toList.drop 0).take 36 = zchX9_keepNow_0 := by decide +kernel
def zchX9_keepNow_1 : List UInt8 := [27, 46, 79, 42, 180, 0, 43, 16, 12, 27, 96, 42, 180, 0, 16, 27, 46, 79, 42, 180, 0, 43, 16, 18, 27, 96, 42, 180, 0, 19, 27, 46, 79, 132, 1, 1]
theorem zwX9_keepNow_1 : (cX9_keepNow.data.toList.drop 32).take 36 = zchX9_keepNow_1 := by decide +kernel
def zchX9_keepNow_2 : List UInt8 := [79, 132, 1, 1, 167, 255, 190, 42, 180, 0, 43, 16, 24, 42, 180, 0, 81, 79, 42, 180, 0, 43, 16, 25, 42, 180, 0, 151, 79, 42, 180, 0, 43, 16, 26, 42]
theorem zwX9_keepNow_2 : (cX9_keepNow.data.toList.drop 64).take 36 = zchX9_keepNow_2 := by decide +kernel
def zchX9_keepNow_3 : List UInt8 := [43, 16, 26, 42, 180, 0, 154, 79, 42, 180, 0, 43, 16, 27, 42, 180, 0, 166, 79, 177]
theorem zwX9_keepNow_3 : (cX9_keepNow.data.toList.drop 96).take 36 = zchX9_keepNow_3 := by decide +kernel
def zchX9_layFleet_0 : List UInt8 := [42, 4, 181, 0, 231, 42, 180, 0, 46, 3, 3, 79, 42, 180, 0, 49, 3, 3, 79, 8, 61, 28, 155, 0, 115, 42, 28, 182, 0, 234, 153, 0, 101, 5, 62, 29]
theorem zwX9_layFleet_0 : (cX9_layFleet.data.toList.drop 0).take 36 = zchX9_layFleet_0 := by decide +kernel
def zchX9_layFleet_1 : List UInt8 := [101, 5, 62, 29, 155, 0, 85, 3, 54, 4, 21, 4, 42, 180, 0, 231, 162, 0, 67, 42, 180, 0, 46, 29, 42, 180, 0, 231, 104, 21, 4, 96, 42, 180, 0, 46]
theorem zwX9_layFleet_1 : (cX9_layFleet.data.toList.drop 32).take 36 = zchX9_layFleet_1 := by decide +kernel
def zchX9_layFleet_2 : List UInt8 := [42, 180, 0, 46, 21, 4, 46, 42, 28, 29, 27, 182, 0, 212, 96, 79, 42, 180, 0, 49, 29, 42, 180, 0, 231, 104, 21, 4, 96, 42, 180, 0, 49, 21, 4, 46]
theorem zwX9_layFleet_2 : (cX9_layFleet.data.toList.drop 64).take 36 = zchX9_layFleet_2 := by decide +kernel
def zchX9_layFleet_3 : List UInt8 := [49, 21, 4, 46, 42, 28, 29, 27, 182, 0, 222, 96, 79, 132, 4, 1, 167, 255, 186, 132, 3, 255, 167, 255, 173, 42, 89, 180, 0, 231, 6, 104, 181, 0, 231, 132]
theorem zwX9_layFleet_3 : (cX9_layFleet.data.toList.drop 96).take 36 = zchX9_layFleet_3 := by decide +kernel
def zchX9_layFleet_4 : List UInt8 := [181, 0, 231, 132, 2, 255, 167, 255, 143, 177]
theorem zwX9_layFleet_4 : (cX9_layFleet.data.toList.drop 128).take 36 = zchX9_layFleet_4 := by decide +kernel
def zchX9_lessThan_0 : List UInt8 := [3, 61, 3, 62, 29, 42, 180, 0, 231, 162, 0, 42, 28, 42, 180, 0, 52, 29, 46, 4, 160, 0, 22, 42, 180, 0, 46, 29, 46, 42, 180, 0, 46, 27, 46, 162]
theorem zwX9_lessThan_0 : (cX9_lessThan.data.toList.drop 0).take 36 = zchX9_lessThan_0 := by decide +kernel
def zchX9_lessThan_1 : List UInt8 := [46, 27, 46, 162, 0, 7, 4, 167, 0, 4, 3, 96, 61, 132, 3, 1, 167, 255, 212, 28, 172]
theorem zwX9_lessThan_1 : (cX9_lessThan.data.toList.drop 32).take 36 = zchX9_lessThan_1 := by decide +kernel
def zchX9_line_0 : List UInt8 := [27, 184, 0, 219, 153, 0, 13, 29, 133, 9, 10, 184, 0, 89, 154, 0, 6, 16, 254, 172, 42, 27, 182, 0, 239, 3, 54, 4, 3, 54, 5, 21, 5, 42, 180, 0]
theorem zwX9_line_0 : (cX9_line.data.toList.drop 0).take 36 = zchX9_line_0 := by decide +kernel
def zchX9_line_1 : List UInt8 := [5, 42, 180, 0, 231, 162, 0, 41, 42, 21, 5, 182, 0, 245, 153, 0, 7, 4, 167, 0, 4, 3, 54, 6, 42, 180, 0, 52, 21, 5, 21, 6, 79, 21, 4, 21]
theorem zwX9_line_1 : (cX9_line.data.toList.drop 32).take 36 = zchX9_line_1 := by decide +kernel
def zchX9_line_2 : List UInt8 := [79, 21, 4, 21, 6, 96, 54, 4, 132, 5, 1, 167, 255, 212, 28, 2, 159, 0, 17, 28, 133, 9, 21, 4, 4, 100, 133, 184, 0, 89, 154, 0, 16, 28, 2, 160]
theorem zwX9_line_2 : (cX9_line.data.toList.drop 64).take 36 = zchX9_line_2 := by decide +kernel
def zchX9_line_3 : List UInt8 := [16, 28, 2, 160, 0, 8, 21, 4, 167, 0, 5, 16, 250, 172, 3, 54, 5, 21, 5, 42, 180, 0, 231, 162, 0, 52, 42, 180, 0, 52, 21, 5, 46, 4, 160, 0]
theorem zwX9_line_3 : (cX9_line.data.toList.drop 96).take 36 = zchX9_line_3 := by decide +kernel
def zchX9_line_4 : List UInt8 := [46, 4, 160, 0, 35, 42, 21, 5, 182, 0, 248, 28, 160, 0, 25, 29, 154, 0, 13, 42, 180, 0, 46, 21, 5, 46, 167, 0, 10, 42, 180, 0, 49, 21, 5, 46]
theorem zwX9_line_4 : (cX9_line.data.toList.drop 128).take 36 = zchX9_line_4 := by decide +kernel
def zchX9_line_5 : List UInt8 := [49, 21, 5, 46, 172, 132, 5, 1, 167, 255, 201, 16, 250, 172]
theorem zwX9_line_5 : (cX9_line.data.toList.drop 160).take 36 = zchX9_line_5 := by decide +kernel
def zchX9_lostByTeeth_0 : List UInt8 := [42, 180, 0, 62, 42, 180, 0, 13, 27, 46, 164, 0, 17, 42, 180, 0, 62, 42, 180, 0, 13, 27, 46, 100, 167, 0, 4, 3, 61, 28, 42, 180, 0, 7, 27, 46]
theorem zwX9_lostByTeeth_0 : (cX9_lostByTeeth.data.toList.drop 0).take 36 = zchX9_lostByTeeth_0 := by decide +kernel
def zchX9_lostByTeeth_1 : List UInt8 := [0, 7, 27, 46, 162, 0, 7, 28, 167, 0, 9, 42, 180, 0, 7, 27, 46, 172]
theorem zwX9_lostByTeeth_1 : (cX9_lostByTeeth.data.toList.drop 32).take 36 = zchX9_lostByTeeth_1 := by decide +kernel
def zchX9_lot_0 : List UInt8 := [42, 28, 182, 1, 19, 154, 0, 7, 20, 1, 22, 173, 27, 133, 10, 42, 180, 1, 16, 184, 0, 108, 133, 184, 0, 89, 153, 0, 13, 29, 133, 9, 10, 184, 0, 89]
theorem zwX9_lot_0 : (cX9_lot.data.toList.drop 0).take 36 = zchX9_lot_0 := by decide +kernel
def zchX9_lot_1 : List UInt8 := [10, 184, 0, 89, 154, 0, 7, 20, 1, 24, 173, 3, 54, 4, 3, 54, 5, 3, 54, 6, 21, 6, 16, 8, 162, 0, 79, 21, 4, 42, 21, 6, 182, 1, 19, 153]
theorem zwX9_lot_1 : (cX9_lot.data.toList.drop 32).take 36 = zchX9_lot_1 := by decide +kernel
def zchX9_lot_2 : List UInt8 := [182, 1, 19, 153, 0, 23, 42, 180, 0, 31, 21, 6, 46, 42, 180, 0, 31, 28, 46, 162, 0, 7, 4, 167, 0, 4, 3, 96, 54, 4, 21, 5, 42, 21, 6, 182]
theorem zwX9_lot_2 : (cX9_lot.data.toList.drop 64).take 36 = zchX9_lot_2 := by decide +kernel
def zchX9_lot_3 : List UInt8 := [42, 21, 6, 182, 1, 19, 153, 0, 23, 42, 180, 0, 31, 21, 6, 46, 42, 180, 0, 31, 28, 46, 160, 0, 7, 4, 167, 0, 4, 3, 96, 54, 5, 132, 6, 1]
theorem zwX9_lot_3 : (cX9_lot.data.toList.drop 96).take 36 = zchX9_lot_3 := by decide +kernel
def zchX9_lot_4 : List UInt8 := [5, 132, 6, 1, 167, 255, 176, 27, 21, 4, 100, 54, 6, 21, 6, 156, 0, 7, 9, 167, 0, 19, 21, 6, 21, 5, 164, 0, 9, 21, 5, 133, 167, 0, 6, 21]
theorem zwX9_lot_4 : (cX9_lot.data.toList.drop 128).take 36 = zchX9_lot_4 := by decide +kernel
def zchX9_lot_5 : List UInt8 := [167, 0, 6, 21, 6, 133, 21, 5, 133, 29, 184, 1, 26, 173]
theorem zwX9_lot_5 : (cX9_lot.data.toList.drop 160).take 36 = zchX9_lot_5 := by decide +kernel
def zchX9_lowest_0 : List UInt8 := [32, 55, 5, 30, 55, 7, 22, 7, 9, 148, 153, 0, 21, 22, 5, 22, 7, 113, 55, 9, 22, 7, 55, 5, 22, 9, 55, 7, 167, 255, 234, 21, 4, 154, 0, 10]
theorem zwX9_lowest_0 : (cX9_lowest.data.toList.drop 0).take 36 = zchX9_lowest_0 := by decide +kernel
def zchX9_lowest_1 : List UInt8 := [4, 154, 0, 10, 30, 22, 5, 109, 167, 0, 7, 32, 22, 5, 109, 173]
theorem zwX9_lowest_1 : (cX9_lowest.data.toList.drop 32).take 36 = zchX9_lowest_1 := by decide +kernel
def zchX9_mean_0 : List UInt8 := [42, 27, 182, 0, 112, 154, 0, 5, 2, 172, 28, 184, 0, 216, 153, 0, 20, 29, 184, 0, 219, 153, 0, 13, 42, 27, 28, 29, 182, 0, 212, 167, 0, 5, 16, 254]
theorem zwX9_mean_0 : (cX9_mean.data.toList.drop 0).take 36 = zchX9_mean_0 := by decide +kernel
def zchX9_mean_1 : List UInt8 := [0, 5, 16, 254, 172]
theorem zwX9_mean_1 : (cX9_mean.data.toList.drop 32).take 36 = zchX9_mean_1 := by decide +kernel
def zchX9_meanOf_0 : List UInt8 := [28, 154, 0, 14, 16, 10, 42, 27, 182, 0, 206, 104, 167, 0, 41, 28, 4, 160, 0, 17, 42, 29, 182, 0, 163, 42, 27, 182, 0, 209, 104, 167, 0, 22, 16, 10]
theorem zwX9_meanOf_0 : (cX9_meanOf.data.toList.drop 0).take 36 = zchX9_meanOf_0 := by decide +kernel
def zchX9_meanOf_1 : List UInt8 := [0, 22, 16, 10, 42, 180, 0, 69, 104, 42, 180, 0, 72, 104, 42, 180, 0, 7, 27, 46, 104, 172]
theorem zwX9_meanOf_1 : (cX9_meanOf.data.toList.drop 32).take 36 = zchX9_meanOf_1 := by decide +kernel
def zchX9_noOffers_0 : List UInt8 := [42, 180, 1, 6, 184, 0, 108, 60, 42, 3, 181, 1, 6, 27, 172]
theorem zwX9_noOffers_0 : (cX9_noOffers.data.toList.drop 0).take 36 = zchX9_noOffers_0 := by decide +kernel
def zchX9_offer_0 : List UInt8 := [27, 133, 9, 20, 1, 2, 184, 0, 89, 153, 0, 27, 28, 133, 9, 20, 0, 100, 184, 0, 89, 153, 0, 15, 29, 133, 9, 20, 1, 4, 184, 0, 89, 154, 0, 6]
theorem zwX9_offer_0 : (cX9_offer.data.toList.drop 0).take 36 = zchX9_offer_0 := by decide +kernel
def zchX9_offer_1 : List UInt8 := [89, 154, 0, 6, 16, 254, 172, 42, 180, 0, 25, 27, 28, 79, 42, 180, 0, 28, 27, 29, 79, 42, 89, 180, 1, 6, 4, 27, 120, 128, 181, 1, 6, 42, 180, 1]
theorem zwX9_offer_1 : (cX9_offer.data.toList.drop 32).take 36 = zchX9_offer_1 := by decide +kernel
def zchX9_offer_2 : List UInt8 := [6, 42, 180, 1, 6, 184, 0, 108, 172]
theorem zwX9_offer_2 : (cX9_offer.data.toList.drop 64).take 36 = zchX9_offer_2 := by decide +kernel
def zchX9_often_0 : List UInt8 := [27, 133, 10, 20, 1, 30, 184, 0, 89, 153, 0, 50, 28, 133, 9, 27, 133, 184, 0, 89, 153, 0, 39, 29, 133, 10, 20, 1, 30, 184, 0, 89, 153, 0, 27, 21]
theorem zwX9_often_0 : (cX9_often.data.toList.drop 0).take 36 = zchX9_often_0 := by decide +kernel
def zchX9_often_1 : List UInt8 := [153, 0, 27, 21, 4, 133, 9, 20, 1, 30, 184, 0, 89, 153, 0, 14, 21, 5, 133, 9, 10, 184, 0, 89, 154, 0, 7, 20, 1, 24, 173, 9, 55, 6, 21, 4]
theorem zwX9_often_1 : (cX9_often.data.toList.drop 32).take 36 = zchX9_often_1 := by decide +kernel
def zchX9_often_2 : List UInt8 := [55, 6, 21, 4, 54, 8, 21, 8, 29, 163, 0, 38, 22, 6, 29, 21, 8, 184, 1, 32, 28, 21, 8, 184, 1, 36, 105, 27, 28, 100, 29, 21, 8, 100, 184, 1]
theorem zwX9_often_2 : (cX9_often.data.toList.drop 64).take 36 = zchX9_often_2 := by decide +kernel
def zchX9_often_3 : List UInt8 := [8, 100, 184, 1, 36, 105, 97, 55, 6, 132, 8, 1, 167, 255, 218, 22, 6, 27, 29, 184, 1, 36, 21, 5, 184, 1, 26, 173]
theorem zwX9_often_3 : (cX9_often.data.toList.drop 96).take 36 = zchX9_often_3 := by decide +kernel
def zchX9_ones_0 : List UInt8 := [3, 60, 26, 61, 28, 153, 0, 15, 132, 1, 1, 28, 28, 4, 100, 126, 61, 167, 255, 243, 27, 172]
theorem zwX9_ones_0 : (cX9_ones.data.toList.drop 0).take 36 = zchX9_ones_0 := by decide +kernel
def zchX9_order_0 : List UInt8 := [42, 42, 27, 182, 0, 112, 154, 0, 7, 4, 167, 0, 18, 42, 180, 0, 19, 27, 46, 153, 0, 7, 5, 167, 0, 5, 16, 250, 181, 0, 169, 42, 180, 0, 169, 158]
theorem zwX9_order_0 : (cX9_order.data.toList.drop 0).take 36 = zchX9_order_0 := by decide +kernel
def zchX9_order_1 : List UInt8 := [180, 0, 169, 158, 0, 14, 42, 42, 180, 0, 172, 181, 0, 175, 167, 0, 37, 28, 16, 84, 160, 0, 11, 42, 27, 182, 0, 178, 167, 0, 23, 28, 16, 87, 160, 0]
theorem zwX9_order_1 : (cX9_order.data.toList.drop 32).take 36 = zchX9_order_1 := by decide +kernel
def zchX9_order_2 : List UInt8 := [16, 87, 160, 0, 12, 42, 27, 29, 182, 0, 182, 167, 0, 8, 42, 27, 182, 0, 186, 177]
theorem zwX9_order_2 : (cX9_order.data.toList.drop 64).take 36 = zchX9_order_2 := by decide +kernel
def zchX9_pass_0 : List UInt8 := [42, 180, 1, 46, 153, 0, 7, 27, 167, 0, 12, 42, 180, 0, 55, 42, 180, 1, 50, 46, 61, 42, 180, 0, 55, 42, 180, 1, 50, 28, 79, 42, 89, 180, 1, 50]
theorem zwX9_pass_0 : (cX9_pass.data.toList.drop 0).take 36 = zchX9_pass_0 := by decide +kernel
def zchX9_pass_1 : List UInt8 := [89, 180, 1, 50, 4, 96, 181, 1, 50, 28, 172]
theorem zwX9_pass_1 : (cX9_pass.data.toList.drop 32).take 36 = zchX9_pass_1 := by decide +kernel
def zchX9_passAll_0 : List UInt8 := [42, 182, 1, 56, 3, 60, 27, 16, 6, 162, 0, 105, 42, 180, 0, 7, 27, 42, 42, 180, 0, 7, 27, 46, 182, 1, 53, 79, 42, 180, 0, 13, 27, 42, 42, 180]
theorem zwX9_passAll_0 : (cX9_passAll.data.toList.drop 0).take 36 = zchX9_passAll_0 := by decide +kernel
def zchX9_passAll_1 : List UInt8 := [27, 42, 42, 180, 0, 13, 27, 46, 182, 1, 53, 79, 42, 180, 0, 16, 27, 42, 42, 180, 0, 16, 27, 46, 182, 1, 53, 79, 42, 180, 0, 19, 27, 42, 42, 180]
theorem zwX9_passAll_1 : (cX9_passAll.data.toList.drop 32).take 36 = zchX9_passAll_1 := by decide +kernel
def zchX9_passAll_2 : List UInt8 := [27, 42, 42, 180, 0, 19, 27, 46, 182, 1, 53, 79, 42, 180, 0, 34, 27, 42, 42, 180, 0, 34, 27, 46, 182, 1, 53, 79, 42, 180, 0, 37, 27, 42, 42, 180]
theorem zwX9_passAll_2 : (cX9_passAll.data.toList.drop 64).take 36 = zchX9_passAll_2 := by decide +kernel
def zchX9_passAll_3 : List UInt8 := [27, 42, 42, 180, 0, 37, 27, 46, 182, 1, 53, 79, 132, 1, 1, 167, 255, 151, 3, 60, 27, 7, 162, 0, 41, 42, 180, 0, 25, 27, 42, 42, 180, 0, 25, 27]
theorem zwX9_passAll_3 : (cX9_passAll.data.toList.drop 96).take 36 = zchX9_passAll_3 := by decide +kernel
def zchX9_passAll_4 : List UInt8 := [180, 0, 25, 27, 46, 182, 1, 53, 79, 42, 180, 0, 28, 27, 42, 42, 180, 0, 28, 27, 46, 182, 1, 53, 79, 132, 1, 1, 167, 255, 216, 3, 60, 27, 16, 8]
theorem zwX9_passAll_4 : (cX9_passAll.data.toList.drop 128).take 36 = zchX9_passAll_4 := by decide +kernel
def zchX9_passAll_5 : List UInt8 := [60, 27, 16, 8, 162, 0, 25, 42, 180, 0, 31, 27, 42, 42, 180, 0, 31, 27, 46, 182, 1, 53, 79, 132, 1, 1, 167, 255, 231, 3, 60, 27, 16, 24, 162, 0]
theorem zwX9_passAll_5 : (cX9_passAll.data.toList.drop 160).take 36 = zchX9_passAll_5 := by decide +kernel
def zchX9_passAll_6 : List UInt8 := [16, 24, 162, 0, 25, 42, 180, 0, 22, 27, 42, 42, 180, 0, 22, 27, 46, 182, 1, 53, 79, 132, 1, 1, 167, 255, 231, 177]
theorem zwX9_passAll_6 : (cX9_passAll.data.toList.drop 192).take 36 = zchX9_passAll_6 := by decide +kernel
def zchX9_passNumbers_0 : List UInt8 := [42, 42, 42, 180, 0, 97, 182, 1, 53, 181, 0, 97, 42, 42, 42, 180, 0, 62, 182, 1, 53, 181, 0, 62, 42, 42, 42, 180, 0, 66, 182, 1, 53, 181, 0, 66]
theorem zwX9_passNumbers_0 : (cX9_passNumbers.data.toList.drop 0).take 36 = zchX9_passNumbers_0 := by decide +kernel
def zchX9_passNumbers_1 : List UInt8 := [53, 181, 0, 66, 42, 42, 42, 180, 0, 69, 182, 1, 53, 181, 0, 69, 42, 42, 42, 180, 0, 72, 182, 1, 53, 181, 0, 72, 42, 42, 42, 180, 0, 75, 182, 1]
theorem zwX9_passNumbers_1 : (cX9_passNumbers.data.toList.drop 32).take 36 = zchX9_passNumbers_1 := by decide +kernel
def zchX9_passNumbers_2 : List UInt8 := [0, 75, 182, 1, 53, 181, 0, 75, 42, 42, 42, 180, 0, 78, 182, 1, 53, 181, 0, 78, 42, 42, 42, 180, 0, 115, 182, 1, 53, 181, 0, 115, 42, 42, 42, 180]
theorem zwX9_passNumbers_2 : (cX9_passNumbers.data.toList.drop 64).take 36 = zchX9_passNumbers_2 := by decide +kernel
def zchX9_passNumbers_3 : List UInt8 := [42, 42, 42, 180, 0, 81, 182, 1, 53, 181, 0, 81, 42, 42, 42, 180, 0, 84, 182, 1, 53, 181, 0, 84, 42, 42, 42, 180, 0, 151, 182, 1, 53, 181, 0, 151]
theorem zwX9_passNumbers_3 : (cX9_passNumbers.data.toList.drop 96).take 36 = zchX9_passNumbers_3 := by decide +kernel
def zchX9_passNumbers_4 : List UInt8 := [53, 181, 0, 151, 42, 42, 42, 180, 0, 154, 182, 1, 53, 181, 0, 154, 42, 42, 42, 180, 0, 166, 182, 1, 53, 181, 0, 166, 42, 42, 42, 180, 1, 6, 182, 1]
theorem zwX9_passNumbers_4 : (cX9_passNumbers.data.toList.drop 128).take 36 = zchX9_passNumbers_4 := by decide +kernel
def zchX9_passNumbers_5 : List UInt8 := [1, 6, 182, 1, 53, 181, 1, 6, 42, 42, 42, 180, 1, 16, 182, 1, 53, 181, 1, 16, 42, 42, 42, 180, 1, 41, 182, 1, 53, 181, 1, 41, 177]
theorem zwX9_passNumbers_5 : (cX9_passNumbers.data.toList.drop 160).take 36 = zchX9_passNumbers_5 := by decide +kernel
def zchX9_passNumbers_6 : List UInt8 := [177]
theorem zwX9_passNumbers_6 : (cX9_passNumbers.data.toList.drop 192).take 36 = zchX9_passNumbers_6 := by decide +kernel
def zchX9_persuaded_0 : List UInt8 := [42, 27, 182, 0, 112, 154, 0, 5, 2, 172, 28, 184, 0, 219, 154, 0, 6, 16, 254, 172, 42, 27, 28, 182, 0, 225, 62, 3, 54, 4, 21, 4, 16, 100, 162, 0]
theorem zwX9_persuaded_0 : (cX9_persuaded.data.toList.drop 0).take 36 = zchX9_persuaded_0 := by decide +kernel
def zchX9_persuaded_1 : List UInt8 := [16, 100, 162, 0, 24, 42, 27, 28, 21, 4, 182, 0, 255, 29, 160, 0, 6, 21, 4, 172, 132, 4, 1, 167, 255, 231, 16, 250, 172]
theorem zwX9_persuaded_1 : (cX9_persuaded.data.toList.drop 32).take 36 = zchX9_persuaded_1 := by decide +kernel
def zchX9_power_0 : List UInt8 := [10, 65, 3, 54, 4, 21, 4, 27, 162, 0, 14, 32, 26, 133, 105, 65, 132, 4, 1, 167, 255, 242, 32, 173]
theorem zwX9_power_0 : (cX9_power.data.toList.drop 0).take 36 = zchX9_power_0 := by decide +kernel
def zchX9_premiums_0 : List UInt8 := [3, 61, 3, 62, 29, 7, 162, 0, 31, 28, 27, 29, 122, 4, 126, 4, 160, 0, 12, 42, 180, 0, 25, 29, 46, 167, 0, 4, 3, 96, 61, 132, 3, 1, 167, 255]
theorem zwX9_premiums_0 : (cX9_premiums.data.toList.drop 0).take 36 = zchX9_premiums_0 := by decide +kernel
def zchX9_premiums_1 : List UInt8 := [3, 1, 167, 255, 226, 28, 172]
theorem zwX9_premiums_1 : (cX9_premiums.data.toList.drop 32).take 36 = zchX9_premiums_1 := by decide +kernel
def zchX9_putBack_0 : List UInt8 := [3, 60, 27, 16, 6, 162, 0, 66, 42, 180, 0, 7, 27, 42, 180, 0, 43, 27, 46, 79, 42, 180, 0, 13, 27, 42, 180, 0, 43, 16, 6, 27, 96, 46, 79, 42]
theorem zwX9_putBack_0 : (cX9_putBack.data.toList.drop 0).take 36 = zchX9_putBack_0 := by decide +kernel
def zchX9_putBack_1 : List UInt8 := [96, 46, 79, 42, 180, 0, 16, 27, 42, 180, 0, 43, 16, 12, 27, 96, 46, 79, 42, 180, 0, 19, 27, 42, 180, 0, 43, 16, 18, 27, 96, 46, 79, 132, 1, 1]
theorem zwX9_putBack_1 : (cX9_putBack.data.toList.drop 32).take 36 = zchX9_putBack_1 := by decide +kernel
def zchX9_putBack_2 : List UInt8 := [79, 132, 1, 1, 167, 255, 190, 42, 42, 180, 0, 43, 16, 24, 46, 181, 0, 81, 42, 42, 180, 0, 43, 16, 25, 46, 181, 0, 151, 42, 42, 180, 0, 43, 16, 26]
theorem zwX9_putBack_2 : (cX9_putBack.data.toList.drop 64).take 36 = zchX9_putBack_2 := by decide +kernel
def zchX9_putBack_3 : List UInt8 := [0, 43, 16, 26, 46, 181, 0, 154, 42, 42, 180, 0, 43, 16, 27, 46, 181, 0, 166, 177]
theorem zwX9_putBack_3 : (cX9_putBack.data.toList.drop 96).take 36 = zchX9_putBack_3 := by decide +kernel
def zchX9_restore_0 : List UInt8 := [27, 133, 9, 10, 184, 0, 89, 154, 0, 6, 16, 254, 172, 42, 180, 0, 58, 27, 51, 154, 0, 6, 16, 253, 172, 42, 16, 120, 27, 104, 181, 1, 50, 42, 3, 181]
theorem zwX9_restore_0 : (cX9_restore.data.toList.drop 0).take 36 = zchX9_restore_0 := by decide +kernel
def zchX9_restore_1 : List UInt8 := [50, 42, 3, 181, 1, 46, 42, 182, 1, 59, 4, 172]
theorem zwX9_restore_1 : (cX9_restore.data.toList.drop 32).take 36 = zchX9_restore_1 := by decide +kernel
def zchX9_roll_0 : List UInt8 := [27, 133, 9, 20, 1, 39, 184, 0, 89, 153, 0, 19, 28, 133, 27, 184, 0, 108, 133, 20, 1, 30, 184, 0, 89, 154, 0, 6, 16, 254, 172, 42, 180, 1, 41, 16]
theorem zwX9_roll_0 : (cX9_roll.data.toList.drop 0).take 36 = zchX9_roll_0 := by decide +kernel
def zchX9_roll_1 : List UInt8 := [180, 1, 41, 16, 6, 160, 0, 6, 16, 252, 172, 42, 180, 0, 34, 42, 180, 1, 41, 27, 79, 42, 180, 0, 37, 42, 180, 1, 41, 28, 79, 42, 89, 180, 1, 41]
theorem zwX9_roll_1 : (cX9_roll.data.toList.drop 32).take 36 = zchX9_roll_1 := by decide +kernel
def zchX9_roll_2 : List UInt8 := [89, 180, 1, 41, 4, 96, 181, 1, 41, 42, 180, 1, 41, 172]
theorem zwX9_roll_2 : (cX9_roll.data.toList.drop 64).take 36 = zchX9_roll_2 := by decide +kernel
def zchX9_say_0 : List UInt8 := [27, 133, 20, 0, 126, 20, 0, 128, 184, 0, 89, 154, 0, 6, 16, 254, 172, 42, 180, 0, 130, 16, 60, 160, 0, 6, 16, 252, 172, 42, 180, 0, 40, 42, 180, 0]
theorem zwX9_say_0 : (cX9_say.data.toList.drop 0).take 36 = zchX9_say_0 := by decide +kernel
def zchX9_say_1 : List UInt8 := [40, 42, 180, 0, 130, 27, 79, 42, 89, 180, 0, 130, 4, 96, 181, 0, 130, 42, 180, 0, 130, 172]
theorem zwX9_say_1 : (cX9_say.data.toList.drop 32).take 36 = zchX9_say_1 := by decide +kernel
def zchX9_scrap_0 : List UInt8 := [42, 27, 182, 0, 112, 154, 0, 5, 2, 172, 42, 89, 180, 0, 97, 4, 27, 120, 2, 130, 126, 181, 0, 97, 42, 180, 0, 97, 184, 0, 108, 172]
theorem zwX9_scrap_0 : (cX9_scrap.data.toList.drop 0).take 36 = zchX9_scrap_0 := by decide +kernel
def zchX9_set_0 : List UInt8 := [27, 133, 9, 20, 0, 118, 184, 0, 89, 153, 0, 25, 28, 133, 27, 154, 0, 7, 10, 167, 0, 4, 9, 27, 184, 0, 120, 133, 184, 0, 89, 154, 0, 6, 16, 254]
theorem zwX9_set_0 : (cX9_set.data.toList.drop 0).take 36 = zchX9_set_0 := by decide +kernel
def zchX9_set_1 : List UInt8 := [0, 6, 16, 254, 172, 42, 27, 182, 0, 123, 62, 42, 27, 154, 0, 7, 28, 167, 0, 7, 42, 180, 0, 62, 181, 0, 62, 42, 27, 4, 160, 0, 7, 28, 167, 0]
theorem zwX9_set_1 : (cX9_set.data.toList.drop 32).take 36 = zchX9_set_1 := by decide +kernel
def zchX9_set_2 : List UInt8 := [7, 28, 167, 0, 7, 42, 180, 0, 66, 181, 0, 66, 42, 27, 5, 160, 0, 7, 28, 167, 0, 7, 42, 180, 0, 69, 181, 0, 69, 42, 27, 6, 160, 0, 7, 28]
theorem zwX9_set_2 : (cX9_set.data.toList.drop 64).take 36 = zchX9_set_2 := by decide +kernel
def zchX9_set_3 : List UInt8 := [160, 0, 7, 28, 167, 0, 7, 42, 180, 0, 72, 181, 0, 72, 42, 27, 7, 160, 0, 7, 28, 167, 0, 7, 42, 180, 0, 75, 181, 0, 75, 42, 27, 8, 160, 0]
theorem zwX9_set_3 : (cX9_set.data.toList.drop 96).take 36 = zchX9_set_3 := by decide +kernel
def zchX9_set_4 : List UInt8 := [27, 8, 160, 0, 7, 28, 167, 0, 7, 42, 180, 0, 78, 181, 0, 78, 42, 27, 16, 6, 160, 0, 7, 28, 167, 0, 7, 42, 180, 0, 115, 181, 0, 115, 42, 27]
theorem zwX9_set_4 : (cX9_set.data.toList.drop 128).take 36 = zchX9_set_4 := by decide +kernel
def zchX9_set_5 : List UInt8 := [0, 115, 42, 27, 16, 7, 160, 0, 7, 28, 167, 0, 7, 42, 180, 0, 81, 181, 0, 81, 29, 172]
theorem zwX9_set_5 : (cX9_set.data.toList.drop 160).take 36 = zchX9_set_5 := by decide +kernel
def zchX9_ship_0 : List UInt8 := [27, 184, 0, 93, 154, 0, 5, 2, 172, 28, 133, 10, 20, 0, 104, 184, 0, 89, 153, 0, 28, 29, 133, 9, 20, 0, 106, 184, 0, 89, 153, 0, 16, 21, 4, 133]
theorem zwX9_ship_0 : (cX9_ship.data.toList.drop 0).take 36 = zchX9_ship_0 := by decide +kernel
def zchX9_ship_1 : List UInt8 := [16, 21, 4, 133, 9, 20, 0, 100, 184, 0, 89, 154, 0, 6, 16, 254, 172, 42, 180, 0, 7, 27, 28, 79, 42, 180, 0, 13, 27, 29, 79, 42, 180, 0, 16, 27]
theorem zwX9_ship_1 : (cX9_ship.data.toList.drop 32).take 36 = zchX9_ship_1 := by decide +kernel
def zchX9_ship_2 : List UInt8 := [180, 0, 16, 27, 21, 4, 79, 42, 180, 0, 19, 27, 3, 79, 42, 89, 180, 0, 97, 4, 27, 120, 128, 181, 0, 97, 42, 180, 0, 97, 184, 0, 108, 172]
theorem zwX9_ship_2 : (cX9_ship.data.toList.drop 64).take 36 = zchX9_ship_2 := by decide +kernel
def zchX9_ship_3 : List UInt8 := [108, 172]
theorem zwX9_ship_3 : (cX9_ship.data.toList.drop 96).take 36 = zchX9_ship_3 := by decide +kernel
def zchX9_state_0 : List UInt8 := [42, 27, 182, 0, 112, 154, 0, 5, 2, 172, 28, 133, 9, 20, 0, 102, 184, 0, 89, 153, 0, 12, 42, 27, 28, 182, 0, 202, 167, 0, 5, 16, 254, 172]
theorem zwX9_state_0 : (cX9_state.data.toList.drop 0).take 36 = zchX9_state_0 := by decide +kernel
def zchX9_state_1 : List UInt8 := [254, 172]
theorem zwX9_state_1 : (cX9_state.data.toList.drop 32).take 36 = zchX9_state_1 := by decide +kernel
def zchX9_stateOf_0 : List UInt8 := [28, 154, 0, 12, 42, 180, 0, 19, 27, 46, 167, 0, 23, 28, 4, 160, 0, 12, 42, 180, 0, 7, 27, 46, 167, 0, 9, 42, 180, 0, 13, 27, 46, 172]
theorem zwX9_stateOf_0 : (cX9_stateOf.data.toList.drop 0).take 36 = zchX9_stateOf_0 := by decide +kernel
def zchX9_stateOf_1 : List UInt8 := [46, 172]
theorem zwX9_stateOf_1 : (cX9_stateOf.data.toList.drop 32).take 36 = zchX9_stateOf_1 := by decide +kernel
def zchX9_sum_0 : List UInt8 := [27, 154, 0, 10, 42, 180, 0, 151, 167, 0, 29, 27, 4, 160, 0, 10, 42, 180, 0, 154, 167, 0, 17, 27, 5, 160, 0, 10, 42, 180, 0, 166, 167, 0, 5, 16]
theorem zwX9_sum_0 : (cX9_sum.data.toList.drop 0).take 36 = zchX9_sum_0 := by decide +kernel
def zchX9_sum_1 : List UInt8 := [167, 0, 5, 16, 254, 172]
theorem zwX9_sum_1 : (cX9_sum.data.toList.drop 32).take 36 = zchX9_sum_1 := by decide +kernel
def zchX9_teethTake_0 : List UInt8 := [42, 27, 182, 0, 148, 61, 42, 180, 0, 66, 28, 104, 28, 42, 180, 0, 7, 27, 46, 160, 0, 12, 42, 180, 0, 16, 27, 46, 167, 0, 4, 3, 96, 172]
theorem zwX9_teethTake_0 : (cX9_teethTake.data.toList.drop 0).take 36 = zchX9_teethTake_0 := by decide +kernel
def zchX9_teethTake_1 : List UInt8 := [96, 172]
theorem zwX9_teethTake_1 : (cX9_teethTake.data.toList.drop 32).take 36 = zchX9_teethTake_1 := by decide +kernel
def zchX9_tenths_0 : List UInt8 := [42, 180, 0, 22, 27, 42, 180, 0, 84, 112, 46, 172]
theorem zwX9_tenths_0 : (cX9_tenths.data.toList.drop 0).take 36 = zchX9_tenths_0 := by decide +kernel
def zchX9_tide_0 : List UInt8 := [42, 182, 0, 141, 155, 0, 6, 16, 251, 172, 3, 60, 27, 42, 180, 0, 130, 162, 0, 24, 42, 180, 0, 22, 27, 42, 180, 0, 40, 27, 46, 16, 48, 100, 79, 132]
theorem zwX9_tide_0 : (cX9_tide.data.toList.drop 0).take 36 = zchX9_tide_0 := by decide +kernel
def zchX9_tide_1 : List UInt8 := [48, 100, 79, 132, 1, 1, 167, 255, 230, 42, 42, 180, 0, 130, 181, 0, 84, 42, 3, 181, 0, 130, 42, 180, 0, 84, 172]
theorem zwX9_tide_1 : (cX9_tide.data.toList.drop 32).take 36 = zchX9_tide_1 := by decide +kernel
def zchX9_told_0 : List UInt8 := [27, 133, 20, 0, 102, 20, 0, 106, 184, 0, 89, 153, 0, 11, 42, 27, 5, 100, 182, 0, 123, 172, 27, 133, 20, 1, 62, 20, 1, 64, 184, 0, 89, 153, 0, 29]
theorem zwX9_told_0 : (cX9_told.data.toList.drop 0).take 36 = zchX9_told_0 := by decide +kernel
def zchX9_told_1 : List UInt8 := [89, 153, 0, 29, 42, 27, 16, 20, 100, 182, 1, 19, 153, 0, 15, 42, 180, 0, 31, 27, 16, 20, 100, 46, 167, 0, 5, 16, 254, 172, 27, 133, 20, 0, 104, 20]
theorem zwX9_told_1 : (cX9_told.data.toList.drop 32).take 36 = zchX9_told_1 := by decide +kernel
def zchX9_told_2 : List UInt8 := [20, 0, 104, 20, 1, 66, 184, 0, 89, 153, 0, 29, 42, 27, 16, 30, 100, 182, 0, 112, 153, 0, 15, 42, 180, 0, 16, 27, 16, 30, 100, 46, 167, 0, 5, 16]
theorem zwX9_told_2 : (cX9_told.data.toList.drop 64).take 36 = zchX9_told_2 := by decide +kernel
def zchX9_told_3 : List UInt8 := [167, 0, 5, 16, 254, 172, 27, 133, 20, 1, 68, 20, 1, 70, 184, 0, 89, 153, 0, 14, 42, 27, 16, 100, 100, 182, 0, 163, 167, 0, 8, 42, 27, 182, 1, 72]
theorem zwX9_told_3 : (cX9_told.data.toList.drop 96).take 36 = zchX9_told_3 := by decide +kernel
def zchX9_told_4 : List UInt8 := [27, 182, 1, 72, 172]
theorem zwX9_told_4 : (cX9_told.data.toList.drop 128).take 36 = zchX9_told_4 := by decide +kernel
def zchX9_toldMany_0 : List UInt8 := [27, 154, 0, 10, 42, 180, 0, 130, 167, 0, 69, 27, 4, 160, 0, 10, 42, 180, 0, 97, 167, 0, 57, 27, 16, 10, 160, 0, 10, 42, 180, 0, 84, 167, 0, 44]
theorem zwX9_toldMany_0 : (cX9_toldMany.data.toList.drop 0).take 36 = zchX9_toldMany_0 := by decide +kernel
def zchX9_toldMany_1 : List UInt8 := [84, 167, 0, 44, 27, 16, 11, 160, 0, 10, 42, 180, 1, 6, 167, 0, 31, 27, 16, 12, 160, 0, 10, 42, 180, 1, 16, 167, 0, 18, 27, 16, 13, 160, 0, 10]
theorem zwX9_toldMany_1 : (cX9_toldMany.data.toList.drop 32).take 36 = zchX9_toldMany_1 := by decide +kernel
def zchX9_toldMany_2 : List UInt8 := [13, 160, 0, 10, 42, 180, 1, 41, 167, 0, 5, 16, 254, 172]
theorem zwX9_toldMany_2 : (cX9_toldMany.data.toList.drop 64).take 36 = zchX9_toldMany_2 := by decide +kernel
def zchX9_toldSet_0 : List UInt8 := [27, 170, 0, 0, 0, 0, 0, 78, 0, 0, 0, 0, 0, 0, 0, 6, 0, 0, 0, 43, 0, 0, 0, 48, 0, 0, 0, 53, 0, 0, 0, 58, 0, 0, 0, 63]
theorem zwX9_toldSet_0 : (cX9_toldSet.data.toList.drop 0).take 36 = zchX9_toldSet_0 := by decide +kernel
def zchX9_toldSet_1 : List UInt8 := [0, 0, 0, 63, 0, 0, 0, 68, 0, 0, 0, 73, 42, 180, 0, 62, 172, 42, 180, 0, 66, 172, 42, 180, 0, 69, 172, 42, 180, 0, 72, 172, 42, 180, 0, 75]
theorem zwX9_toldSet_1 : (cX9_toldSet.data.toList.drop 32).take 36 = zchX9_toldSet_1 := by decide +kernel
def zchX9_toldSet_2 : List UInt8 := [42, 180, 0, 75, 172, 42, 180, 0, 78, 172, 42, 180, 0, 115, 172, 42, 180, 0, 81, 172]
theorem zwX9_toldSet_2 : (cX9_toldSet.data.toList.drop 64).take 36 = zchX9_toldSet_2 := by decide +kernel
def zchX9_twice_0 : List UInt8 := [27, 133, 9, 10, 184, 0, 89, 154, 0, 6, 16, 254, 172, 3, 61, 3, 62, 29, 16, 8, 162, 0, 120, 3, 54, 4, 3, 54, 5, 21, 5, 42, 180, 1, 41, 162]
theorem zwX9_twice_0 : (cX9_twice.data.toList.drop 0).take 36 = zchX9_twice_0 := by decide +kernel
def zchX9_twice_1 : List UInt8 := [180, 1, 41, 162, 0, 83, 42, 180, 0, 34, 21, 5, 46, 29, 122, 4, 126, 4, 160, 0, 7, 4, 167, 0, 4, 3, 54, 6, 27, 4, 160, 0, 27, 42, 180, 0]
theorem zwX9_twice_1 : (cX9_twice.data.toList.drop 32).take 36 = zchX9_twice_1 := by decide +kernel
def zchX9_twice_2 : List UInt8 := [27, 42, 180, 0, 37, 21, 5, 46, 42, 180, 0, 34, 21, 5, 46, 184, 0, 108, 164, 0, 7, 4, 167, 0, 4, 3, 54, 7, 21, 4, 21, 6, 154, 0, 8, 21]
theorem zwX9_twice_2 : (cX9_twice.data.toList.drop 64).take 36 = zchX9_twice_2 := by decide +kernel
def zchX9_twice_3 : List UInt8 := [154, 0, 8, 21, 7, 153, 0, 7, 4, 167, 0, 4, 3, 96, 54, 4, 132, 5, 1, 167, 255, 170, 28, 21, 4, 4, 164, 0, 9, 4, 29, 120, 167, 0, 4, 3]
theorem zwX9_twice_3 : (cX9_twice.data.toList.drop 96).take 36 = zchX9_twice_3 := by decide +kernel
def zchX9_twice_4 : List UInt8 := [167, 0, 4, 3, 128, 61, 132, 3, 1, 167, 255, 136, 28, 172]
theorem zwX9_twice_4 : (cX9_twice.data.toList.drop 128).take 36 = zchX9_twice_4 := by decide +kernel
def zchX9_wipe_0 : List UInt8 := [42, 180, 0, 130, 60, 42, 3, 181, 0, 130, 27, 172]
theorem zwX9_wipe_0 : (cX9_wipe.data.toList.drop 0).take 36 = zchX9_wipe_0 := by decide +kernel
def zchX9_worst_0 : List UInt8 := [42, 27, 182, 0, 112, 154, 0, 5, 2, 172, 28, 184, 0, 216, 153, 0, 20, 29, 184, 0, 219, 153, 0, 13, 42, 27, 28, 29, 182, 0, 222, 167, 0, 5, 16, 254]
theorem zwX9_worst_0 : (cX9_worst.data.toList.drop 0).take 36 = zchX9_worst_0 := by decide +kernel
def zchX9_worst_1 : List UInt8 := [0, 5, 16, 254, 172]
theorem zwX9_worst_1 : (cX9_worst.data.toList.drop 32).take 36 = zchX9_worst_1 := by decide +kernel
def zchX9_worstOf_0 : List UInt8 := [28, 154, 0, 11, 42, 27, 182, 0, 206, 167, 0, 44, 28, 4, 160, 0, 23, 42, 29, 182, 0, 163, 158, 0, 11, 42, 27, 182, 0, 209, 167, 0, 23, 3, 167, 0]
theorem zwX9_worstOf_0 : (cX9_worstOf.data.toList.drop 0).take 36 = zchX9_worstOf_0 := by decide +kernel
def zchX9_worstOf_1 : List UInt8 := [23, 3, 167, 0, 19, 42, 180, 0, 69, 42, 180, 0, 72, 104, 42, 180, 0, 7, 27, 46, 104, 172]
theorem zwX9_worstOf_1 : (cX9_worstOf.data.toList.drop 32).take 36 = zchX9_worstOf_1 := by decide +kernel
def zchX9_years_0 : List UInt8 := [42, 27, 182, 0, 112, 154, 0, 5, 2, 172, 28, 133, 9, 20, 1, 4, 184, 0, 89, 153, 0, 28, 29, 133, 10, 20, 1, 44, 184, 0, 89, 153, 0, 16, 21, 4]
theorem zwX9_years_0 : (cX9_years.data.toList.drop 0).take 36 = zchX9_years_0 := by decide +kernel
def zchX9_years_1 : List UInt8 := [0, 16, 21, 4, 133, 9, 20, 0, 102, 184, 0, 89, 154, 0, 6, 16, 254, 172, 28, 54, 5, 3, 54, 6, 3, 54, 7, 21, 7, 29, 162, 0, 57, 20, 0, 157]
theorem zwX9_years_1 : (cX9_years.data.toList.drop 32).take 36 = zchX9_years_1 := by decide +kernel
def zchX9_years_2 : List UInt8 := [57, 20, 0, 157, 21, 5, 133, 105, 20, 0, 159, 97, 20, 0, 161, 113, 136, 54, 5, 21, 6, 21, 5, 16, 24, 108, 16, 10, 112, 42, 21, 5, 16, 24, 112, 182]
theorem zwX9_years_2 : (cX9_years.data.toList.drop 64).take 36 = zchX9_years_2 := by decide +kernel
def zchX9_years_3 : List UInt8 := [16, 24, 112, 182, 0, 163, 162, 0, 7, 4, 167, 0, 4, 3, 96, 54, 6, 132, 7, 1, 167, 255, 199, 21, 4, 154, 0, 14, 21, 6, 42, 27, 182, 0, 209, 104]
theorem zwX9_years_3 : (cX9_years.data.toList.drop 96).take 36 = zchX9_years_3 := by decide +kernel
def zchX9_years_4 : List UInt8 := [182, 0, 209, 104, 167, 0, 21, 21, 4, 4, 160, 0, 13, 29, 42, 27, 182, 0, 206, 104, 167, 0, 5, 21, 6, 172]
theorem zwX9_years_4 : (cX9_years.data.toList.drop 128).take 36 = zchX9_years_4 := by decide +kernel
theorem d_X1_countDrawn_36 : decode cX1_countDrawn 36 = .ok (.iinc 3 1, 3) := by decide +kernel
theorem d_X1_countDrawn_39 : decode cX1_countDrawn 39 = .ok (.iinc 4 1, 3) := by decide +kernel
theorem d_X1_countDrawn_42 : decode cX1_countDrawn 42 = .ok (.goto (-37), 3) := zo_167 (a := 255) (b := 219) (zby_w zwX1_countDrawn_1 10 rfl) (zby_w zwX1_countDrawn_1 11 rfl) (zby_w zwX1_countDrawn_1 12 rfl) (by decide)
theorem d_X1_has_26 : decode cX1_has 26 = .ok (.iconst 0, 1) := zo_3 (zby_w zwX1_has_0 26 rfl)
theorem d_X2_commonSide_24 : decode cX2_commonSide 24 = .ok (.iinc 2 1, 3) := by decide +kernel
theorem d_X2_commonSide_27 : decode cX2_commonSide 27 = .ok (.goto (-23), 3) := zo_167 (a := 255) (b := 233) (zby_w zwX2_commonSide_0 27 rfl) (zby_w zwX2_commonSide_0 28 rfl) (zby_w zwX2_commonSide_0 29 rfl) (by decide)
theorem d_X2_drawLine_28 : decode cX2_drawLine 28 = .ok (.iinc 2 1, 3) := by decide +kernel
theorem d_X2_gather_80 : decode cX2_gather 80 = .ok (.iinc 4 1, 3) := by decide +kernel
theorem d_X2_gather_96 : decode cX2_gather 96 = .ok (.iinc 3 1, 3) := by decide +kernel
theorem d_X2_gather_99 : decode cX2_gather 99 = .ok (.goto (-92), 3) := zo_167 (a := 255) (b := 164) (zby_w zwX2_gather_3 3 rfl) (zby_w zwX2_gather_3 4 rfl) (zby_w zwX2_gather_3 5 rfl) (by decide)
theorem d_X2_leastWithin_59 : decode cX2_leastWithin 59 = .ok (.iload 4, 2) := zo_21 (a := 4) (zby_w zwX2_leastWithin_1 27 rfl) (zby_w zwX2_leastWithin_1 28 rfl) (by decide)
theorem d_X2_leastWithin_61 : decode cX2_leastWithin 61 = .ok (.istore_n 3, 1) := zo_62 (zby_w zwX2_leastWithin_1 29 rfl)
theorem d_X2_leastWithin_62 : decode cX2_leastWithin 62 = .ok (.iinc 4 1, 3) := by decide +kernel
theorem d_X2_leastWithin_65 : decode cX2_leastWithin 65 = .ok (.goto (-54), 3) := zo_167 (a := 255) (b := 202) (zby_w zwX2_leastWithin_2 1 rfl) (zby_w zwX2_leastWithin_2 2 rfl) (zby_w zwX2_leastWithin_2 3 rfl) (by decide)
theorem d_X2_meanOfAllBy_28 : decode cX2_meanOfAllBy 28 = .ok (.iinc 3 1, 3) := by decide +kernel
theorem d_X2_meanOfChoice_25 : decode cX2_meanOfChoice 25 = .ok (.ireturn, 1) := zo_172 (zby_w zwX2_meanOfChoice_0 25 rfl)
theorem d_X2_onLine_39 : decode cX2_onLine 39 = .ok (.ireturn, 1) := zo_172 (zby_w zwX2_onLine_1 7 rfl)
theorem d_X2_sideInChoice_34 : decode cX2_sideInChoice 34 = .ok (.iinc 4 (-1), 3) := by decide +kernel
theorem d_X2_spreadChoices_78 : decode cX2_spreadChoices 78 = .ok (.iinc 6 1, 3) := by decide +kernel
theorem d_X2_spreadChoices_84 : decode cX2_spreadChoices 84 = .ok (.iinc 3 (-1), 3) := by decide +kernel
theorem d_X2_spreadChoices_94 : decode cX2_spreadChoices 94 = .ok (.iinc 2 1, 3) := by decide +kernel
theorem d_X2_spreadChoices_100 : decode cX2_spreadChoices 100 = .ok (.iload_n 1, 1) := zo_27 (zby_w zwX2_spreadChoices_3 4 rfl)
theorem d_X2_spreadChoices_101 : decode cX2_spreadChoices 101 = .ok (.ireturn, 1) := zo_172 (zby_w zwX2_spreadChoices_3 5 rfl)
theorem d_X2_widenFront_130 : decode cX2_widenFront 130 = .ok (.iinc 3 1, 3) := by decide +kernel
theorem d_X2_widenFront_144 : decode cX2_widenFront 144 = .ok (.iinc 4 1, 3) := by decide +kernel
theorem d_X2_widenFront_150 : decode cX2_widenFront 150 = .ok (.iinc 5 1, 3) := by decide +kernel
theorem d_X2_widenFront_186 : decode cX2_widenFront 186 = .ok (.aload_n 0, 1) := zo_42 (zby_w zwX2_widenFront_5 26 rfl)
theorem d_X2_widenFront_187 : decode cX2_widenFront 187 = .ok (.getfield 29, 3) := zo_180 (a := 0) (b := 29) (zby_w zwX2_widenFront_5 27 rfl) (zby_w zwX2_widenFront_5 28 rfl) (zby_w zwX2_widenFront_5 29 rfl) (by decide)
theorem d_X2_widenFront_190 : decode cX2_widenFront 190 = .ok (.iload 6, 2) := zo_21 (a := 6) (zby_w zwX2_widenFront_5 30 rfl) (zby_w zwX2_widenFront_5 31 rfl) (by decide)
theorem d_X2_widenFront_192 : decode cX2_widenFront 192 = .ok (.lload 14, 2) := zo_22 (a := 14) (zby_w zwX2_widenFront_6 0 rfl) (zby_w zwX2_widenFront_6 1 rfl) (by decide)
theorem d_X2_widenFront_194 : decode cX2_widenFront 194 = .ok (.lastore, 1) := zo_80 (zby_w zwX2_widenFront_6 2 rfl)
theorem d_X2_widenFront_195 : decode cX2_widenFront 195 = .ok (.iinc 6 1, 3) := by decide +kernel
theorem d_X2_widenFront_198 : decode cX2_widenFront 198 = .ok (.iinc 7 1, 3) := by decide +kernel
theorem d_X2_widenFront_201 : decode cX2_widenFront 201 = .ok (.goto (-187), 3) := zo_167 (a := 255) (b := 69) (zby_w zwX2_widenFront_6 9 rfl) (zby_w zwX2_widenFront_6 10 rfl) (zby_w zwX2_widenFront_6 11 rfl) (by decide)
theorem d_X3_sumOver_30 : decode cX3_sumOver 30 = .ok (.iinc 3 1, 3) := by decide +kernel
theorem d_X3_sumOver_33 : decode cX3_sumOver 33 = .ok (.goto (-29), 3) := zo_167 (a := 255) (b := 227) (zby_w zwX3_sumOver_1 1 rfl) (zby_w zwX3_sumOver_1 2 rfl) (zby_w zwX3_sumOver_1 3 rfl) (by decide)
theorem d_X3_sumOver_36 : decode cX3_sumOver 36 = .ok (.iload_n 2, 1) := zo_28 (zby_w zwX3_sumOver_1 4 rfl)
theorem d_X3_sumOver_37 : decode cX3_sumOver 37 = .ok (.ireturn, 1) := zo_172 (zby_w zwX3_sumOver_1 5 rfl)
theorem d_X3_worthTaking_47 : decode cX3_worthTaking 47 = .ok (.iinc 3 1, 3) := by decide +kernel
theorem d_X3_worthTaking_50 : decode cX3_worthTaking 50 = .ok (.goto (-46), 3) := zo_167 (a := 255) (b := 210) (zby_w zwX3_worthTaking_1 18 rfl) (zby_w zwX3_worthTaking_1 19 rfl) (zby_w zwX3_worthTaking_1 20 rfl) (by decide)
theorem d_X4_faultAsSeason_58 : decode cX4_faultAsSeason 58 = .ok (.iconst 1, 1) := zo_4 (zby_w zwX4_faultAsSeason_1 26 rfl)
theorem d_X4_faultAsSeason_59 : decode cX4_faultAsSeason 59 = .ok (.goto 4, 3) := zo_167 (a := 0) (b := 4) (zby_w zwX4_faultAsSeason_1 27 rfl) (zby_w zwX4_faultAsSeason_1 28 rfl) (zby_w zwX4_faultAsSeason_1 29 rfl) (by decide)
theorem d_X4_faultAsSeason_86 : decode cX4_faultAsSeason 86 = .ok (.iconst 0, 1) := zo_3 (zby_w zwX4_faultAsSeason_2 22 rfl)
theorem d_X4_faultAsSeason_87 : decode cX4_faultAsSeason 87 = .ok (.istore_n 1, 1) := zo_60 (zby_w zwX4_faultAsSeason_2 23 rfl)
theorem d_X4_faultAsSeason_88 : decode cX4_faultAsSeason 88 = .ok (.iinc 2 1, 3) := by decide +kernel
theorem d_X4_faultAsSeason_91 : decode cX4_faultAsSeason 91 = .ok (.goto (-87), 3) := zo_167 (a := 255) (b := 169) (zby_w zwX4_faultAsSeason_2 27 rfl) (zby_w zwX4_faultAsSeason_2 28 rfl) (zby_w zwX4_faultAsSeason_2 29 rfl) (by decide)
theorem d_X4_faultAsSeason_94 : decode cX4_faultAsSeason 94 = .ok (.iload_n 1, 1) := zo_27 (zby_w zwX4_faultAsSeason_2 30 rfl)
theorem d_X4_faultAsSeason_95 : decode cX4_faultAsSeason 95 = .ok (.ifCond .eq 10, 3) := zo_153 (a := 0) (b := 10) (zby_w zwX4_faultAsSeason_2 31 rfl) (zby_w zwX4_faultAsSeason_2 32 rfl) (zby_w zwX4_faultAsSeason_2 33 rfl) (by decide)
theorem d_X4_faultAsSeason_98 : decode cX4_faultAsSeason 98 = .ok (.aload_n 0, 1) := zo_42 (zby_w zwX4_faultAsSeason_3 2 rfl)
theorem d_X4_faultAsSeason_99 : decode cX4_faultAsSeason 99 = .ok (.getfield 15, 3) := zo_180 (a := 0) (b := 15) (zby_w zwX4_faultAsSeason_3 3 rfl) (zby_w zwX4_faultAsSeason_3 4 rfl) (zby_w zwX4_faultAsSeason_3 5 rfl) (by decide)
theorem d_X4_faultAsSeason_102 : decode cX4_faultAsSeason 102 = .ok (.goto 5, 3) := zo_167 (a := 0) (b := 5) (zby_w zwX4_faultAsSeason_3 6 rfl) (zby_w zwX4_faultAsSeason_3 7 rfl) (zby_w zwX4_faultAsSeason_3 8 rfl) (by decide)
theorem d_X4_faultAsSeason_105 : decode cX4_faultAsSeason 105 = .ok (.bipush (-6), 2) := zo_16 (a := 250) (zby_w zwX4_faultAsSeason_3 9 rfl) (zby_w zwX4_faultAsSeason_3 10 rfl) (by decide)
theorem d_X4_faultAsSeason_107 : decode cX4_faultAsSeason 107 = .ok (.ireturn, 1) := zo_172 (zby_w zwX4_faultAsSeason_3 11 rfl)
theorem d_X4_faultAsTide_38 : decode cX4_faultAsTide 38 = .ok (.iload_n 1, 1) := zo_27 (zby_w zwX4_faultAsTide_1 6 rfl)
theorem d_X4_faultAsTide_39 : decode cX4_faultAsTide 39 = .ok (.ireturn, 1) := zo_172 (zby_w zwX4_faultAsTide_1 7 rfl)
theorem d_X4_faultAsTide_40 : decode cX4_faultAsTide 40 = .ok (.iinc 1 1, 3) := by decide +kernel
theorem d_X4_faultAsTide_46 : decode cX4_faultAsTide 46 = .ok (.aload_n 0, 1) := zo_42 (zby_w zwX4_faultAsTide_1 14 rfl)
theorem d_X4_faultAsTide_47 : decode cX4_faultAsTide 47 = .ok (.getfield 15, 3) := zo_180 (a := 0) (b := 15) (zby_w zwX4_faultAsTide_1 15 rfl) (zby_w zwX4_faultAsTide_1 16 rfl) (zby_w zwX4_faultAsTide_1 17 rfl) (by decide)
theorem d_X4_faultAsTide_50 : decode cX4_faultAsTide 50 = .ok (.ifCond .ne 7, 3) := zo_154 (a := 0) (b := 7) (zby_w zwX4_faultAsTide_1 18 rfl) (zby_w zwX4_faultAsTide_1 19 rfl) (zby_w zwX4_faultAsTide_1 20 rfl) (by decide)
theorem d_X4_faultAsTide_53 : decode cX4_faultAsTide 53 = .ok (.iconst 0, 1) := zo_3 (zby_w zwX4_faultAsTide_1 21 rfl)
theorem d_X4_faultAsTide_54 : decode cX4_faultAsTide 54 = .ok (.goto 5, 3) := zo_167 (a := 0) (b := 5) (zby_w zwX4_faultAsTide_1 22 rfl) (zby_w zwX4_faultAsTide_1 23 rfl) (zby_w zwX4_faultAsTide_1 24 rfl) (by decide)
theorem d_X4_faultAsTide_57 : decode cX4_faultAsTide 57 = .ok (.bipush (-6), 2) := zo_16 (a := 250) (zby_w zwX4_faultAsTide_1 25 rfl) (zby_w zwX4_faultAsTide_1 26 rfl) (by decide)
theorem d_X4_faultAsTide_59 : decode cX4_faultAsTide 59 = .ok (.ireturn, 1) := zo_172 (zby_w zwX4_faultAsTide_1 27 rfl)
theorem d_X4_holds_22 : decode cX4_holds 22 = .ok (.iconst 0, 1) := zo_3 (zby_w zwX4_holds_0 22 rfl)
theorem d_X4_hourPassesAt_23 : decode cX4_hourPassesAt 23 = .ok (.iconst 0, 1) := zo_3 (zby_w zwX4_hourPassesAt_0 23 rfl)
theorem d_X4_shipAt_36 : decode cX4_shipAt 36 = .ok (.bipush (-6), 2) := zo_16 (a := 250) (zby_w zwX4_shipAt_1 4 rfl) (zby_w zwX4_shipAt_1 5 rfl) (by decide)
theorem d_X4_shipAt_38 : decode cX4_shipAt 38 = .ok (.ireturn, 1) := zo_172 (zby_w zwX4_shipAt_1 6 rfl)
theorem d_X4_sideAt_17 : decode cX4_sideAt 17 = .ok (.lookupswitch 41 #[(67, 39), (84, 35), (87, 37)], 35) := by decide +kernel
theorem d_X5_namesOnTwo_26 : decode cX5_namesOnTwo 26 = .ok (.iinc 3 1, 3) := by decide +kernel
theorem d_X5_namesOnTwo_29 : decode cX5_namesOnTwo 29 = .ok (.goto (-25), 3) := zo_167 (a := 255) (b := 231) (zby_w zwX5_namesOnTwo_0 29 rfl) (zby_w zwX5_namesOnTwo_0 30 rfl) (zby_w zwX5_namesOnTwo_0 31 rfl) (by decide)
theorem d_X5_rollsWith_50 : decode cX5_rollsWith 50 = .ok (.iinc 3 1, 3) := by decide +kernel
theorem d_X5_rollsWith_53 : decode cX5_rollsWith 53 = .ok (.iinc 4 1, 3) := by decide +kernel
theorem d_X5_rollsWith_56 : decode cX5_rollsWith 56 = .ok (.goto (-51), 3) := zo_167 (a := 255) (b := 205) (zby_w zwX5_rollsWith_1 24 rfl) (zby_w zwX5_rollsWith_1 25 rfl) (zby_w zwX5_rollsWith_1 26 rfl) (by decide)
theorem d_X5_rollsWith_59 : decode cX5_rollsWith 59 = .ok (.iload_n 3, 1) := zo_29 (zby_w zwX5_rollsWith_1 27 rfl)
theorem d_X5_rollsWith_60 : decode cX5_rollsWith 60 = .ok (.ireturn, 1) := zo_172 (zby_w zwX5_rollsWith_1 28 rfl)
theorem d_X6_captainGets_71 : decode cX6_captainGets 71 = .ok (.ireturn, 1) := zo_172 (zby_w zwX6_captainGets_2 7 rfl)
theorem d_X6_captainsSide_37 : decode cX6_captainsSide 37 = .ok (.iinc 5 1, 3) := by decide +kernel
theorem d_X6_captainsSide_40 : decode cX6_captainsSide 40 = .ok (.goto (-34), 3) := zo_167 (a := 255) (b := 222) (zby_w zwX6_captainsSide_1 8 rfl) (zby_w zwX6_captainsSide_1 9 rfl) (zby_w zwX6_captainsSide_1 10 rfl) (by decide)
theorem d_X6_digitAt_17 : decode cX6_digitAt 17 = .ok (.iconst 0, 1) := zo_3 (zby_w zwX6_digitAt_0 17 rfl)
theorem d_X6_digitAt_18 : decode cX6_digitAt 18 = .ok (.ireturn, 1) := zo_172 (zby_w zwX6_digitAt_0 18 rfl)
theorem d_X6_has_25 : decode cX6_has 25 = .ok (.iconst 0, 1) := zo_3 (zby_w zwX6_has_0 25 rfl)
theorem d_X6_meanBy_36 : decode cX6_meanBy 36 = .ok (.imul, 1) := zo_104 (zby_w zwX6_meanBy_1 4 rfl)
theorem d_X6_meanBy_37 : decode cX6_meanBy 37 = .ok (.ireturn, 1) := zo_172 (zby_w zwX6_meanBy_1 5 rfl)
theorem d_X6_moored_21 : decode cX6_moored 21 = .ok (.iconst 0, 1) := zo_3 (zby_w zwX6_moored_0 21 rfl)
theorem d_X6_ownersSide_32 : decode cX6_ownersSide 32 = .ok (.iinc 4 1, 3) := by decide +kernel
theorem d_X6_ownersSide_35 : decode cX6_ownersSide 35 = .ok (.goto (-30), 3) := zo_167 (a := 255) (b := 226) (zby_w zwX6_ownersSide_1 3 rfl) (zby_w zwX6_ownersSide_1 4 rfl) (zby_w zwX6_ownersSide_1 5 rfl) (by decide)
theorem d_X6_send_56 : decode cX6_send 56 = .ok (.return_, 1) := zo_177 (zby_w zwX6_send_1 24 rfl)
theorem d_X6_sendByTeeth_63 : decode cX6_sendByTeeth 63 = .ok (.return_, 1) := zo_177 (zby_w zwX6_sendByTeeth_1 31 rfl)
theorem d_X6_sendByWhirl_40 : decode cX6_sendByWhirl 40 = .ok (.return_, 1) := zo_177 (zby_w zwX6_sendByWhirl_1 8 rfl)
theorem d_X6_worstBy_22 : decode cX6_worstBy 22 = .ok (.ireturn, 1) := zo_172 (zby_w zwX6_worstBy_0 22 rfl)
theorem d_X6_worstBy_40 : decode cX6_worstBy 40 = .ok (.ireturn, 1) := zo_172 (zby_w zwX6_worstBy_1 8 rfl)
theorem d_X7_tryOut_42 : decode cX7_tryOut 42 = .ok (.iinc 3 1, 3) := by decide +kernel
theorem d_X7_tryOut_79 : decode cX7_tryOut 79 = .ok (.iinc 4 1, 3) := by decide +kernel
theorem d_X7_tryOut_98 : decode cX7_tryOut 98 = .ok (.aload_n 0, 1) := zo_42 (zby_w zwX7_tryOut_3 2 rfl)
theorem d_X7_tryOut_99 : decode cX7_tryOut 99 = .ok (.dup, 1) := zo_89 (zby_w zwX7_tryOut_3 3 rfl)
theorem d_X7_tryOut_100 : decode cX7_tryOut 100 = .ok (.getfield 18, 3) := zo_180 (a := 0) (b := 18) (zby_w zwX7_tryOut_3 4 rfl) (zby_w zwX7_tryOut_3 5 rfl) (zby_w zwX7_tryOut_3 6 rfl) (by decide)
theorem d_X7_tryOut_103 : decode cX7_tryOut 103 = .ok (.iconst 1, 1) := zo_4 (zby_w zwX7_tryOut_3 7 rfl)
theorem d_X7_tryOut_104 : decode cX7_tryOut 104 = .ok (.iadd, 1) := zo_96 (zby_w zwX7_tryOut_3 8 rfl)
theorem d_X7_tryOut_105 : decode cX7_tryOut 105 = .ok (.putfield 18, 3) := zo_181 (a := 0) (b := 18) (zby_w zwX7_tryOut_3 9 rfl) (zby_w zwX7_tryOut_3 10 rfl) (zby_w zwX7_tryOut_3 11 rfl) (by decide)
theorem d_X7_tryOut_108 : decode cX7_tryOut 108 = .ok (.iinc 4 1, 3) := by decide +kernel
theorem d_X7_tryOut_111 : decode cX7_tryOut 111 = .ok (.goto (-87), 3) := zo_167 (a := 255) (b := 169) (zby_w zwX7_tryOut_3 15 rfl) (zby_w zwX7_tryOut_3 16 rfl) (zby_w zwX7_tryOut_3 17 rfl) (by decide)
theorem d_X8_behind_52 : decode cX8_behind 52 = .ok (.ireturn, 1) := zo_172 (zby_w zwX8_behind_1 20 rfl)
theorem d_X8_bound_21 : decode cX8_bound 21 = .ok (.iload_n 1, 1) := zo_27 (zby_w zwX8_bound_0 21 rfl)
theorem d_X8_bound_22 : decode cX8_bound 22 = .ok (.invokestatic 145, 3) := zo_184 (a := 0) (b := 145) (zby_w zwX8_bound_0 22 rfl) (zby_w zwX8_bound_0 23 rfl) (zby_w zwX8_bound_0 24 rfl) (by decide)
theorem d_X8_bound_25 : decode cX8_bound 25 = .ok (.ifCond .eq 13, 3) := zo_153 (a := 0) (b := 13) (zby_w zwX8_bound_0 25 rfl) (zby_w zwX8_bound_0 26 rfl) (zby_w zwX8_bound_0 27 rfl) (by decide)
theorem d_X8_bound_28 : decode cX8_bound 28 = .ok (.iload_n 2, 1) := zo_28 (zby_w zwX8_bound_0 28 rfl)
theorem d_X8_bound_29 : decode cX8_bound 29 = .ok (.iconst 0, 1) := zo_3 (zby_w zwX8_bound_0 29 rfl)
theorem d_X8_bound_30 : decode cX8_bound 30 = .ok (.ldc 167, 2) := zo_18 (a := 167) (zby_w zwX8_bound_0 30 rfl) (zby_w zwX8_bound_0 31 rfl) (by decide)
theorem d_X8_bound_32 : decode cX8_bound 32 = .ok (.invokestatic 47, 3) := zo_184 (a := 0) (b := 47) (zby_w zwX8_bound_1 0 rfl) (zby_w zwX8_bound_1 1 rfl) (zby_w zwX8_bound_1 2 rfl) (by decide)
theorem d_X8_bound_35 : decode cX8_bound 35 = .ok (.ifCond .ne 6, 3) := zo_154 (a := 0) (b := 6) (zby_w zwX8_bound_1 3 rfl) (zby_w zwX8_bound_1 4 rfl) (zby_w zwX8_bound_1 5 rfl) (by decide)
theorem d_X8_bound_38 : decode cX8_bound 38 = .ok (.bipush (-2), 2) := zo_16 (a := 254) (zby_w zwX8_bound_1 6 rfl) (zby_w zwX8_bound_1 7 rfl) (by decide)
theorem d_X8_bound_40 : decode cX8_bound 40 = .ok (.ireturn, 1) := zo_172 (zby_w zwX8_bound_1 8 rfl)
theorem d_X8_bound_41 : decode cX8_bound 41 = .ok (.aload_n 0, 1) := zo_42 (zby_w zwX8_bound_1 9 rfl)
theorem d_X8_bound_42 : decode cX8_bound 42 = .ok (.getfield 43, 3) := zo_180 (a := 0) (b := 43) (zby_w zwX8_bound_1 10 rfl) (zby_w zwX8_bound_1 11 rfl) (zby_w zwX8_bound_1 12 rfl) (by decide)
theorem d_X8_bound_45 : decode cX8_bound 45 = .ok (.aload_n 0, 1) := zo_42 (zby_w zwX8_bound_1 13 rfl)
theorem d_X8_bound_46 : decode cX8_bound 46 = .ok (.getfield 10, 3) := zo_180 (a := 0) (b := 10) (zby_w zwX8_bound_1 14 rfl) (zby_w zwX8_bound_1 15 rfl) (zby_w zwX8_bound_1 16 rfl) (by decide)
theorem d_X8_bound_49 : decode cX8_bound 49 = .ok (.getfield 51, 3) := zo_180 (a := 0) (b := 51) (zby_w zwX8_bound_1 17 rfl) (zby_w zwX8_bound_1 18 rfl) (zby_w zwX8_bound_1 19 rfl) (by decide)
theorem d_X8_bound_52 : decode cX8_bound 52 = .ok (.iload_n 1, 1) := zo_27 (zby_w zwX8_bound_1 20 rfl)
theorem d_X8_bound_53 : decode cX8_bound 53 = .ok (.invokevirtual 168, 3) := zo_182 (a := 0) (b := 168) (zby_w zwX8_bound_1 21 rfl) (zby_w zwX8_bound_1 22 rfl) (zby_w zwX8_bound_1 23 rfl) (by decide)
theorem d_X8_bound_56 : decode cX8_bound 56 = .ok (.aload_n 0, 1) := zo_42 (zby_w zwX8_bound_1 24 rfl)
theorem d_X8_bound_57 : decode cX8_bound 57 = .ok (.getfield 43, 3) := zo_180 (a := 0) (b := 43) (zby_w zwX8_bound_1 25 rfl) (zby_w zwX8_bound_1 26 rfl) (zby_w zwX8_bound_1 27 rfl) (by decide)
theorem d_X8_bound_60 : decode cX8_bound 60 = .ok (.iload_n 2, 1) := zo_28 (zby_w zwX8_bound_1 28 rfl)
theorem d_X8_bound_61 : decode cX8_bound 61 = .ok (.invokevirtual 172, 3) := zo_182 (a := 0) (b := 172) (zby_w zwX8_bound_1 29 rfl) (zby_w zwX8_bound_1 30 rfl) (zby_w zwX8_bound_1 31 rfl) (by decide)
theorem d_X8_bound_64 : decode cX8_bound 64 = .ok (.istore 4, 2) := zo_54 (a := 4) (zby_w zwX8_bound_2 0 rfl) (zby_w zwX8_bound_2 1 rfl) (by decide)
theorem d_X8_bound_66 : decode cX8_bound 66 = .ok (.iload 4, 2) := zo_21 (a := 4) (zby_w zwX8_bound_2 2 rfl) (zby_w zwX8_bound_2 3 rfl) (by decide)
theorem d_X8_bound_68 : decode cX8_bound 68 = .ok (.bipush (-6), 2) := zo_16 (a := 250) (zby_w zwX8_bound_2 4 rfl) (zby_w zwX8_bound_2 5 rfl) (by decide)
theorem d_X8_bound_70 : decode cX8_bound 70 = .ok (.if_icmp .ne 6, 3) := zo_160 (a := 0) (b := 6) (zby_w zwX8_bound_2 6 rfl) (zby_w zwX8_bound_2 7 rfl) (zby_w zwX8_bound_2 8 rfl) (by decide)
theorem d_X8_bound_73 : decode cX8_bound 73 = .ok (.bipush (-6), 2) := zo_16 (a := 250) (zby_w zwX8_bound_2 9 rfl) (zby_w zwX8_bound_2 10 rfl) (by decide)
theorem d_X8_bound_75 : decode cX8_bound 75 = .ok (.ireturn, 1) := zo_172 (zby_w zwX8_bound_2 11 rfl)
theorem d_X8_bound_76 : decode cX8_bound 76 = .ok (.iload_n 3, 1) := zo_29 (zby_w zwX8_bound_2 12 rfl)
theorem d_X8_bound_77 : decode cX8_bound 77 = .ok (.iconst (-1), 1) := zo_2 (zby_w zwX8_bound_2 13 rfl)
theorem d_X8_bound_78 : decode cX8_bound 78 = .ok (.if_icmp .ne 15, 3) := zo_160 (a := 0) (b := 15) (zby_w zwX8_bound_2 14 rfl) (zby_w zwX8_bound_2 15 rfl) (zby_w zwX8_bound_2 16 rfl) (by decide)
theorem d_X8_bound_81 : decode cX8_bound 81 = .ok (.aload_n 0, 1) := zo_42 (zby_w zwX8_bound_2 17 rfl)
theorem d_X8_bound_82 : decode cX8_bound 82 = .ok (.getfield 43, 3) := zo_180 (a := 0) (b := 43) (zby_w zwX8_bound_2 18 rfl) (zby_w zwX8_bound_2 19 rfl) (zby_w zwX8_bound_2 20 rfl) (by decide)
theorem d_X8_bound_85 : decode cX8_bound 85 = .ok (.iload 4, 2) := zo_21 (a := 4) (zby_w zwX8_bound_2 21 rfl) (zby_w zwX8_bound_2 22 rfl) (by decide)
theorem d_X8_bound_87 : decode cX8_bound 87 = .ok (.invokevirtual 175, 3) := zo_182 (a := 0) (b := 175) (zby_w zwX8_bound_2 23 rfl) (zby_w zwX8_bound_2 24 rfl) (zby_w zwX8_bound_2 25 rfl) (by decide)
theorem d_X8_bound_90 : decode cX8_bound 90 = .ok (.goto 13, 3) := zo_167 (a := 0) (b := 13) (zby_w zwX8_bound_2 26 rfl) (zby_w zwX8_bound_2 27 rfl) (zby_w zwX8_bound_2 28 rfl) (by decide)
theorem d_X8_bound_93 : decode cX8_bound 93 = .ok (.aload_n 0, 1) := zo_42 (zby_w zwX8_bound_2 29 rfl)
theorem d_X8_bound_94 : decode cX8_bound 94 = .ok (.getfield 43, 3) := zo_180 (a := 0) (b := 43) (zby_w zwX8_bound_2 30 rfl) (zby_w zwX8_bound_2 31 rfl) (zby_w zwX8_bound_2 32 rfl) (by decide)
theorem d_X8_bound_97 : decode cX8_bound 97 = .ok (.iload 4, 2) := zo_21 (a := 4) (zby_w zwX8_bound_3 1 rfl) (zby_w zwX8_bound_3 2 rfl) (by decide)
theorem d_X8_bound_99 : decode cX8_bound 99 = .ok (.iload_n 3, 1) := zo_29 (zby_w zwX8_bound_3 3 rfl)
theorem d_X8_bound_100 : decode cX8_bound 100 = .ok (.invokevirtual 178, 3) := zo_182 (a := 0) (b := 178) (zby_w zwX8_bound_3 4 rfl) (zby_w zwX8_bound_3 5 rfl) (zby_w zwX8_bound_3 6 rfl) (by decide)
theorem d_X8_bound_103 : decode cX8_bound 103 = .ok (.ireturn, 1) := zo_172 (zby_w zwX8_bound_3 7 rfl)
theorem d_X8_burnt_55 : decode cX8_burnt 55 = .ok (.iinc 4 1, 3) := by decide +kernel
theorem d_X8_burnt_61 : decode cX8_burnt 61 = .ok (.lload_n 2, 1) := zo_32 (zby_w zwX8_burnt_1 29 rfl)
theorem d_X8_burnt_62 : decode cX8_burnt 62 = .ok (.lreturn, 1) := zo_173 (zby_w zwX8_burnt_1 30 rfl)
theorem d_X8_captain_40 : decode cX8_captain 40 = .ok (.ireturn, 1) := zo_172 (zby_w zwX8_captain_1 8 rfl)
theorem d_X8_choice_27 : decode cX8_choice 27 = .ok (.ireturn, 1) := zo_172 (zby_w zwX8_choice_0 27 rfl)
theorem d_X8_commonDivisor_39 : decode cX8_commonDivisor 39 = .ok (.iinc 8 1, 3) := by decide +kernel
theorem d_X8_commonDivisor_45 : decode cX8_commonDivisor 45 = .ok (.lload 4, 2) := zo_22 (a := 4) (zby_w zwX8_commonDivisor_1 13 rfl) (zby_w zwX8_commonDivisor_1 14 rfl) (by decide)
theorem d_X8_commonDivisor_47 : decode cX8_commonDivisor 47 = .ok (.lreturn, 1) := zo_173 (zby_w zwX8_commonDivisor_1 15 rfl)
theorem d_X8_convoy_16 : decode cX8_convoy 16 = .ok (.bipush (-2), 2) := zo_16 (a := 254) (zby_w zwX8_convoy_0 16 rfl) (zby_w zwX8_convoy_0 17 rfl) (by decide)
theorem d_X8_convoy_18 : decode cX8_convoy 18 = .ok (.ireturn, 1) := zo_172 (zby_w zwX8_convoy_0 18 rfl)
theorem d_X8_convoy_58 : decode cX8_convoy 58 = .ok (.ireturn, 1) := zo_172 (zby_w zwX8_convoy_1 26 rfl)
theorem d_X8_fault_33 : decode cX8_fault 33 = .ok (.ireturn, 1) := zo_172 (zby_w zwX8_fault_1 1 rfl)
theorem d_X8_held_40 : decode cX8_held 40 = .ok (.bipush (-2), 2) := zo_16 (a := 254) (zby_w zwX8_held_1 8 rfl) (zby_w zwX8_held_1 9 rfl) (by decide)
theorem d_X8_held_42 : decode cX8_held 42 = .ok (.ireturn, 1) := zo_172 (zby_w zwX8_held_1 10 rfl)
theorem d_X8_held_108 : decode cX8_held 108 = .ok (.iinc 7 1, 3) := by decide +kernel
theorem d_X8_held_111 : decode cX8_held 111 = .ok (.goto (-53), 3) := zo_167 (a := 255) (b := 203) (zby_w zwX8_held_3 15 rfl) (zby_w zwX8_held_3 16 rfl) (zby_w zwX8_held_3 17 rfl) (by decide)
theorem d_X8_held_139 : decode cX8_held 139 = .ok (.ireturn, 1) := zo_172 (zby_w zwX8_held_4 11 rfl)
theorem d_X8_imageBooks_15 : decode cX8_imageBooks 15 = .ok (.areturn, 1) := zo_176 (zby_w zwX8_imageBooks_0 15 rfl)
theorem d_X8_insured_32 : decode cX8_insured 32 = .ok (.bipush (-2), 2) := zo_16 (a := 254) (zby_w zwX8_insured_1 0 rfl) (zby_w zwX8_insured_1 1 rfl) (by decide)
theorem d_X8_insured_34 : decode cX8_insured 34 = .ok (.ireturn, 1) := zo_172 (zby_w zwX8_insured_1 2 rfl)
theorem d_X8_judge_62 : decode cX8_judge 62 = .ok (.aload_n 0, 1) := zo_42 (zby_w zwX8_judge_1 30 rfl)
theorem d_X8_judge_63 : decode cX8_judge 63 = .ok (.getfield 36, 3) := zo_180 (a := 0) (b := 36) (zby_w zwX8_judge_1 31 rfl) (zby_w zwX8_judge_1 32 rfl) (zby_w zwX8_judge_1 33 rfl) (by decide)
theorem d_X8_judge_66 : decode cX8_judge 66 = .ok (.getfield 124, 3) := zo_180 (a := 0) (b := 124) (zby_w zwX8_judge_2 2 rfl) (zby_w zwX8_judge_2 3 rfl) (zby_w zwX8_judge_2 4 rfl) (by decide)
theorem d_X8_judge_69 : decode cX8_judge 69 = .ok (.goto 10, 3) := zo_167 (a := 0) (b := 10) (zby_w zwX8_judge_2 5 rfl) (zby_w zwX8_judge_2 6 rfl) (zby_w zwX8_judge_2 7 rfl) (by decide)
theorem d_X8_line_21 : decode cX8_line 21 = .ok (.bipush (-2), 2) := zo_16 (a := 254) (zby_w zwX8_line_0 21 rfl) (zby_w zwX8_line_0 22 rfl) (by decide)
theorem d_X8_line_23 : decode cX8_line 23 = .ok (.ireturn, 1) := zo_172 (zby_w zwX8_line_0 23 rfl)
theorem d_X8_line_76 : decode cX8_line 76 = .ok (.ireturn, 1) := zo_172 (zby_w zwX8_line_2 12 rfl)
theorem d_X8_lot_47 : decode cX8_lot 47 = .ok (.ldc2_w 241, 3) := zo_20 (a := 0) (b := 241) (zby_w zwX8_lot_1 15 rfl) (zby_w zwX8_lot_1 16 rfl) (zby_w zwX8_lot_1 17 rfl) (by decide)
theorem d_X8_lot_50 : decode cX8_lot 50 = .ok (.lreturn, 1) := zo_173 (zby_w zwX8_lot_1 18 rfl)
theorem d_X8_mean_32 : decode cX8_mean 32 = .ok (.bipush (-2), 2) := zo_16 (a := 254) (zby_w zwX8_mean_1 0 rfl) (zby_w zwX8_mean_1 1 rfl) (by decide)
theorem d_X8_mean_34 : decode cX8_mean 34 = .ok (.ireturn, 1) := zo_172 (zby_w zwX8_mean_1 2 rfl)
theorem d_X8_offer_31 : decode cX8_offer 31 = .ok (.bipush (-2), 2) := zo_16 (a := 254) (zby_w zwX8_offer_0 31 rfl) (zby_w zwX8_offer_0 32 rfl) (by decide)
theorem d_X8_offer_33 : decode cX8_offer 33 = .ok (.ireturn, 1) := zo_172 (zby_w zwX8_offer_1 1 rfl)
theorem d_X8_often_50 : decode cX8_often 50 = .ok (.ldc2_w 241, 3) := zo_20 (a := 0) (b := 241) (zby_w zwX8_often_1 18 rfl) (zby_w zwX8_often_1 19 rfl) (zby_w zwX8_often_1 20 rfl) (by decide)
theorem d_X8_often_53 : decode cX8_often 53 = .ok (.lreturn, 1) := zo_173 (zby_w zwX8_often_1 21 rfl)
theorem d_X8_often_96 : decode cX8_often 96 = .ok (.iinc 8 1, 3) := by decide +kernel
theorem d_X8_persuaded_68 : decode cX8_persuaded 68 = .ok (.iinc 5 1, 3) := by decide +kernel
theorem d_X8_power_16 : decode cX8_power 16 = .ok (.iinc 4 1, 3) := by decide +kernel
theorem d_X8_roll_24 : decode cX8_roll 24 = .ok (.bipush (-2), 2) := zo_16 (a := 254) (zby_w zwX8_roll_0 24 rfl) (zby_w zwX8_roll_0 25 rfl) (by decide)
theorem d_X8_roll_26 : decode cX8_roll 26 = .ok (.ireturn, 1) := zo_172 (zby_w zwX8_roll_0 26 rfl)
theorem d_X8_set_27 : decode cX8_set 27 = .ok (.bipush (-2), 2) := zo_16 (a := 254) (zby_w zwX8_set_0 27 rfl) (zby_w zwX8_set_0 28 rfl) (by decide)
theorem d_X8_set_29 : decode cX8_set 29 = .ok (.ireturn, 1) := zo_172 (zby_w zwX8_set_0 29 rfl)
theorem d_X8_ship_43 : decode cX8_ship 43 = .ok (.bipush (-2), 2) := zo_16 (a := 254) (zby_w zwX8_ship_1 11 rfl) (zby_w zwX8_ship_1 12 rfl) (by decide)
theorem d_X8_ship_45 : decode cX8_ship 45 = .ok (.ireturn, 1) := zo_172 (zby_w zwX8_ship_1 13 rfl)
theorem d_X8_tide_67 : decode cX8_tide 67 = .ok (.iinc 2 1, 3) := by decide +kernel
theorem d_X8_told_150 : decode cX8_told 150 = .ok (.tableswitch 133 0 13 #[70, 78, 133, 133, 133, 133, 133, 133, 133, 133, 89, 100, 111, 122], 70) := by decide +kernel
theorem d_X8_told_283 : decode cX8_told 283 = .ok (.bipush (-2), 2) := zo_16 (a := 254) (zby_w zwX8_told_8 27 rfl) (zby_w zwX8_told_8 28 rfl) (by decide)
theorem d_X8_told_285 : decode cX8_told 285 = .ok (.ireturn, 1) := zo_172 (zby_w zwX8_told_8 29 rfl)
theorem d_X8_twice_34 : decode cX8_twice 34 = .ok (.ireturn, 1) := zo_172 (zby_w zwX8_twice_1 2 rfl)
theorem d_X8_ways_9 : decode cX8_ways 9 = .ok (.lconst 0, 1) := zo_9 (zby_w zwX8_ways_0 9 rfl)
theorem d_X8_ways_10 : decode cX8_ways 10 = .ok (.lreturn, 1) := zo_173 (zby_w zwX8_ways_0 10 rfl)
theorem d_X8_ways_36 : decode cX8_ways 36 = .ok (.iinc 4 1, 3) := by decide +kernel
theorem d_X8_within_14 : decode cX8_within 14 = .ok (.iconst 0, 1) := zo_3 (zby_w zwX8_within_0 14 rfl)
theorem d_X8_worst_32 : decode cX8_worst 32 = .ok (.bipush (-2), 2) := zo_16 (a := 254) (zby_w zwX8_worst_1 0 rfl) (zby_w zwX8_worst_1 1 rfl) (by decide)
theorem d_X8_worst_34 : decode cX8_worst 34 = .ok (.ireturn, 1) := zo_172 (zby_w zwX8_worst_1 2 rfl)
theorem d_X8_years_51 : decode cX8_years 51 = .ok (.bipush (-2), 2) := zo_16 (a := 254) (zby_w zwX8_years_1 19 rfl) (zby_w zwX8_years_1 20 rfl) (by decide)
theorem d_X8_years_53 : decode cX8_years 53 = .ok (.ireturn, 1) := zo_172 (zby_w zwX8_years_1 21 rfl)
theorem d_X8_years_112 : decode cX8_years 112 = .ok (.iinc 7 1, 3) := by decide +kernel
theorem d_X8_years_115 : decode cX8_years 115 = .ok (.iinc 8 1, 3) := by decide +kernel
theorem d_X8_years_118 : decode cX8_years 118 = .ok (.goto (-40), 3) := zo_167 (a := 255) (b := 216) (zby_w zwX8_years_3 22 rfl) (zby_w zwX8_years_3 23 rfl) (zby_w zwX8_years_3 24 rfl) (by decide)
theorem d_X8_years_141 : decode cX8_years 141 = .ok (.ireturn, 1) := zo_172 (zby_w zwX8_years_4 13 rfl)
theorem d_X9_behindIt_28 : decode cX9_behindIt 28 = .ok (.iinc 3 1, 3) := by decide +kernel
theorem d_X9_bound_15 : decode cX9_bound 15 = .ok (.iload_n 1, 1) := zo_27 (zby_w zwX9_bound_0 15 rfl)
theorem d_X9_bound_16 : decode cX9_bound 16 = .ok (.invokestatic 219, 3) := zo_184 (a := 0) (b := 219) (zby_w zwX9_bound_0 16 rfl) (zby_w zwX9_bound_0 17 rfl) (zby_w zwX9_bound_0 18 rfl) (by decide)
theorem d_X9_bound_19 : decode cX9_bound 19 = .ok (.ifCond .eq 15, 3) := zo_153 (a := 0) (b := 15) (zby_w zwX9_bound_0 19 rfl) (zby_w zwX9_bound_0 20 rfl) (zby_w zwX9_bound_0 21 rfl) (by decide)
theorem d_X9_bound_22 : decode cX9_bound 22 = .ok (.iload_n 2, 1) := zo_28 (zby_w zwX9_bound_0 22 rfl)
theorem d_X9_bound_23 : decode cX9_bound 23 = .ok (.i2l, 1) := zo_133 (zby_w zwX9_bound_0 23 rfl)
theorem d_X9_bound_24 : decode cX9_bound 24 = .ok (.lconst 0, 1) := zo_9 (zby_w zwX9_bound_0 24 rfl)
theorem d_X9_bound_25 : decode cX9_bound 25 = .ok (.ldc2_w 237, 3) := zo_20 (a := 0) (b := 237) (zby_w zwX9_bound_0 25 rfl) (zby_w zwX9_bound_0 26 rfl) (zby_w zwX9_bound_0 27 rfl) (by decide)
theorem d_X9_bound_28 : decode cX9_bound 28 = .ok (.invokestatic 89, 3) := zo_184 (a := 0) (b := 89) (zby_w zwX9_bound_0 28 rfl) (zby_w zwX9_bound_0 29 rfl) (zby_w zwX9_bound_0 30 rfl) (by decide)
theorem d_X9_bound_31 : decode cX9_bound 31 = .ok (.ifCond .ne 6, 3) := zo_154 (a := 0) (b := 6) (zby_w zwX9_bound_0 31 rfl) (zby_w zwX9_bound_0 32 rfl) (zby_w zwX9_bound_0 33 rfl) (by decide)
theorem d_X9_bound_34 : decode cX9_bound 34 = .ok (.bipush (-2), 2) := zo_16 (a := 254) (zby_w zwX9_bound_1 2 rfl) (zby_w zwX9_bound_1 3 rfl) (by decide)
theorem d_X9_bound_36 : decode cX9_bound 36 = .ok (.ireturn, 1) := zo_172 (zby_w zwX9_bound_1 4 rfl)
theorem d_X9_bound_37 : decode cX9_bound 37 = .ok (.aload_n 0, 1) := zo_42 (zby_w zwX9_bound_1 5 rfl)
theorem d_X9_bound_38 : decode cX9_bound 38 = .ok (.iload_n 1, 1) := zo_27 (zby_w zwX9_bound_1 6 rfl)
theorem d_X9_bound_39 : decode cX9_bound 39 = .ok (.invokevirtual 239, 3) := zo_182 (a := 0) (b := 239) (zby_w zwX9_bound_1 7 rfl) (zby_w zwX9_bound_1 8 rfl) (zby_w zwX9_bound_1 9 rfl) (by decide)
theorem d_X9_bound_42 : decode cX9_bound 42 = .ok (.bipush (-6), 2) := zo_16 (a := 250) (zby_w zwX9_bound_1 10 rfl) (zby_w zwX9_bound_1 11 rfl) (by decide)
theorem d_X9_bound_44 : decode cX9_bound 44 = .ok (.istore 4, 2) := zo_54 (a := 4) (zby_w zwX9_bound_1 12 rfl) (zby_w zwX9_bound_1 13 rfl) (by decide)
theorem d_X9_bound_46 : decode cX9_bound 46 = .ok (.iconst 0, 1) := zo_3 (zby_w zwX9_bound_1 14 rfl)
theorem d_X9_bound_47 : decode cX9_bound 47 = .ok (.istore 5, 2) := zo_54 (a := 5) (zby_w zwX9_bound_1 15 rfl) (zby_w zwX9_bound_1 16 rfl) (by decide)
theorem d_X9_bound_91 : decode cX9_bound 91 = .ok (.iconst 1, 1) := zo_4 (zby_w zwX9_bound_2 27 rfl)
theorem d_X9_bound_92 : decode cX9_bound 92 = .ok (.goto 4, 3) := zo_167 (a := 0) (b := 4) (zby_w zwX9_bound_2 28 rfl) (zby_w zwX9_bound_2 29 rfl) (zby_w zwX9_bound_2 30 rfl) (by decide)
theorem d_X9_bound_95 : decode cX9_bound 95 = .ok (.iconst 0, 1) := zo_3 (zby_w zwX9_bound_2 31 rfl)
theorem d_X9_bound_112 : decode cX9_bound 112 = .ok (.iinc 5 1, 3) := by decide +kernel
theorem d_X9_bound_118 : decode cX9_bound 118 = .ok (.iload 4, 2) := zo_21 (a := 4) (zby_w zwX9_bound_3 22 rfl) (zby_w zwX9_bound_3 23 rfl) (by decide)
theorem d_X9_bound_120 : decode cX9_bound 120 = .ok (.ifCond .ge 8, 3) := zo_156 (a := 0) (b := 8) (zby_w zwX9_bound_3 24 rfl) (zby_w zwX9_bound_3 25 rfl) (zby_w zwX9_bound_3 26 rfl) (by decide)
theorem d_X9_bound_123 : decode cX9_bound 123 = .ok (.bipush (-6), 2) := zo_16 (a := 250) (zby_w zwX9_bound_3 27 rfl) (zby_w zwX9_bound_3 28 rfl) (by decide)
theorem d_X9_bound_125 : decode cX9_bound 125 = .ok (.goto 28, 3) := zo_167 (a := 0) (b := 28) (zby_w zwX9_bound_3 29 rfl) (zby_w zwX9_bound_3 30 rfl) (zby_w zwX9_bound_3 31 rfl) (by decide)
theorem d_X9_bound_128 : decode cX9_bound 128 = .ok (.iload_n 3, 1) := zo_29 (zby_w zwX9_bound_4 0 rfl)
theorem d_X9_bound_129 : decode cX9_bound 129 = .ok (.iconst (-1), 1) := zo_2 (zby_w zwX9_bound_4 1 rfl)
theorem d_X9_bound_130 : decode cX9_bound 130 = .ok (.if_icmp .ne 13, 3) := zo_160 (a := 0) (b := 13) (zby_w zwX9_bound_4 2 rfl) (zby_w zwX9_bound_4 3 rfl) (zby_w zwX9_bound_4 4 rfl) (by decide)
theorem d_X9_bound_133 : decode cX9_bound 133 = .ok (.aload_n 0, 1) := zo_42 (zby_w zwX9_bound_4 5 rfl)
theorem d_X9_bound_134 : decode cX9_bound 134 = .ok (.getfield 46, 3) := zo_180 (a := 0) (b := 46) (zby_w zwX9_bound_4 6 rfl) (zby_w zwX9_bound_4 7 rfl) (zby_w zwX9_bound_4 8 rfl) (by decide)
theorem d_X9_bound_137 : decode cX9_bound 137 = .ok (.iload 4, 2) := zo_21 (a := 4) (zby_w zwX9_bound_4 9 rfl) (zby_w zwX9_bound_4 10 rfl) (by decide)
theorem d_X9_bound_139 : decode cX9_bound 139 = .ok (.iaload, 1) := zo_46 (zby_w zwX9_bound_4 11 rfl)
theorem d_X9_bound_140 : decode cX9_bound 140 = .ok (.goto 13, 3) := zo_167 (a := 0) (b := 13) (zby_w zwX9_bound_4 12 rfl) (zby_w zwX9_bound_4 13 rfl) (zby_w zwX9_bound_4 14 rfl) (by decide)
theorem d_X9_bound_143 : decode cX9_bound 143 = .ok (.iload 4, 2) := zo_21 (a := 4) (zby_w zwX9_bound_4 15 rfl) (zby_w zwX9_bound_4 16 rfl) (by decide)
theorem d_X9_bound_145 : decode cX9_bound 145 = .ok (.aload_n 0, 1) := zo_42 (zby_w zwX9_bound_4 17 rfl)
theorem d_X9_bound_146 : decode cX9_bound 146 = .ok (.iload_n 3, 1) := zo_29 (zby_w zwX9_bound_4 18 rfl)
theorem d_X9_bound_147 : decode cX9_bound 147 = .ok (.invokevirtual 242, 3) := zo_182 (a := 0) (b := 242) (zby_w zwX9_bound_4 19 rfl) (zby_w zwX9_bound_4 20 rfl) (zby_w zwX9_bound_4 21 rfl) (by decide)
theorem d_X9_bound_150 : decode cX9_bound 150 = .ok (.idiv, 1) := zo_108 (zby_w zwX9_bound_4 22 rfl)
theorem d_X9_bound_151 : decode cX9_bound 151 = .ok (.iconst 3, 1) := zo_6 (zby_w zwX9_bound_4 23 rfl)
theorem d_X9_bound_152 : decode cX9_bound 152 = .ok (.irem, 1) := zo_112 (zby_w zwX9_bound_4 24 rfl)
theorem d_X9_bound_153 : decode cX9_bound 153 = .ok (.ireturn, 1) := zo_172 (zby_w zwX9_bound_4 25 rfl)
theorem d_X9_burnt_43 : decode cX9_burnt 43 = .ok (.iinc 3 1, 3) := by decide +kernel
theorem d_X9_captain_32 : decode cX9_captain 32 = .ok (.ireturn, 1) := zo_172 (zby_w zwX9_captain_1 0 rfl)
theorem d_X9_captainBy_42 : decode cX9_captainBy 42 = .ok (.iinc 5 1, 3) := by decide +kernel
theorem d_X9_choice_28 : decode cX9_choice 28 = .ok (.ireturn, 1) := zo_172 (zby_w zwX9_choice_0 28 rfl)
theorem d_X9_choiceOf_36 : decode cX9_choiceOf 36 = .ok (.iinc 4 1, 3) := by decide +kernel
theorem d_X9_choose_25 : decode cX9_choose 25 = .ok (.iinc 4 1, 3) := by decide +kernel
theorem d_X9_convoy_17 : decode cX9_convoy 17 = .ok (.bipush (-2), 2) := zo_16 (a := 254) (zby_w zwX9_convoy_0 17 rfl) (zby_w zwX9_convoy_0 18 rfl) (by decide)
theorem d_X9_convoy_19 : decode cX9_convoy 19 = .ok (.ireturn, 1) := zo_172 (zby_w zwX9_convoy_0 19 rfl)
theorem d_X9_convoy_72 : decode cX9_convoy 72 = .ok (.iadd, 1) := zo_96 (zby_w zwX9_convoy_2 8 rfl)
theorem d_X9_convoy_73 : decode cX9_convoy 73 = .ok (.istore 6, 2) := zo_54 (a := 6) (zby_w zwX9_convoy_2 9 rfl) (zby_w zwX9_convoy_2 10 rfl) (by decide)
theorem d_X9_convoy_75 : decode cX9_convoy 75 = .ok (.iinc 7 1, 3) := by decide +kernel
theorem d_X9_convoy_78 : decode cX9_convoy 78 = .ok (.goto (-37), 3) := zo_167 (a := 255) (b := 219) (zby_w zwX9_convoy_2 14 rfl) (zby_w zwX9_convoy_2 15 rfl) (zby_w zwX9_convoy_2 16 rfl) (by decide)
theorem d_X9_convoy_111 : decode cX9_convoy 111 = .ok (.iinc 5 1, 3) := by decide +kernel
theorem d_X9_fault_25 : decode cX9_fault 25 = .ok (.ireturn, 1) := zo_172 (zby_w zwX9_fault_0 25 rfl)
theorem d_X9_faultOfSeason_41 : decode cX9_faultOfSeason 41 = .ok (.iconst 1, 1) := zo_4 (zby_w zwX9_faultOfSeason_1 9 rfl)
theorem d_X9_faultOfSeason_42 : decode cX9_faultOfSeason 42 = .ok (.goto 32, 3) := zo_167 (a := 0) (b := 32) (zby_w zwX9_faultOfSeason_1 10 rfl) (zby_w zwX9_faultOfSeason_1 11 rfl) (zby_w zwX9_faultOfSeason_1 12 rfl) (by decide)
theorem d_X9_faultOfSeason_69 : decode cX9_faultOfSeason 69 = .ok (.iconst 1, 1) := zo_4 (zby_w zwX9_faultOfSeason_2 5 rfl)
theorem d_X9_faultOfSeason_70 : decode cX9_faultOfSeason 70 = .ok (.goto 4, 3) := zo_167 (a := 0) (b := 4) (zby_w zwX9_faultOfSeason_2 6 rfl) (zby_w zwX9_faultOfSeason_2 7 rfl) (zby_w zwX9_faultOfSeason_2 8 rfl) (by decide)
theorem d_X9_faultOfSeason_97 : decode cX9_faultOfSeason 97 = .ok (.iconst 0, 1) := zo_3 (zby_w zwX9_faultOfSeason_3 1 rfl)
theorem d_X9_faultOfSeason_99 : decode cX9_faultOfSeason 99 = .ok (.iinc 2 1, 3) := by decide +kernel
theorem d_X9_faultOfTide_35 : decode cX9_faultOfTide 35 = .ok (.iload_n 1, 1) := zo_27 (zby_w zwX9_faultOfTide_1 3 rfl)
theorem d_X9_faultOfTide_36 : decode cX9_faultOfTide 36 = .ok (.ireturn, 1) := zo_172 (zby_w zwX9_faultOfTide_1 4 rfl)
theorem d_X9_faultOfTide_37 : decode cX9_faultOfTide 37 = .ok (.iinc 1 1, 3) := by decide +kernel
theorem d_X9_gets_112 : decode cX9_gets 112 = .ok (.ireturn, 1) := zo_172 (zby_w zwX9_gets_3 16 rfl)
theorem d_X9_goSeason_47 : decode cX9_goSeason 47 = .ok (.iinc 1 1, 3) := by decide +kernel
theorem d_X9_goSeason_75 : decode cX9_goSeason 75 = .ok (.iinc 2 1, 3) := by decide +kernel
theorem d_X9_goSeason_78 : decode cX9_goSeason 78 = .ok (.aload_n 0, 1) := zo_42 (zby_w zwX9_goSeason_2 14 rfl)
theorem d_X9_goSeason_79 : decode cX9_goSeason 79 = .ok (.dup, 1) := zo_89 (zby_w zwX9_goSeason_2 15 rfl)
theorem d_X9_goSeason_80 : decode cX9_goSeason 80 = .ok (.getfield 172, 3) := zo_180 (a := 0) (b := 172) (zby_w zwX9_goSeason_2 16 rfl) (zby_w zwX9_goSeason_2 17 rfl) (zby_w zwX9_goSeason_2 18 rfl) (by decide)
theorem d_X9_goSeason_83 : decode cX9_goSeason 83 = .ok (.iconst 1, 1) := zo_4 (zby_w zwX9_goSeason_2 19 rfl)
theorem d_X9_goSeason_84 : decode cX9_goSeason 84 = .ok (.iadd, 1) := zo_96 (zby_w zwX9_goSeason_2 20 rfl)
theorem d_X9_goSeason_85 : decode cX9_goSeason 85 = .ok (.putfield 172, 3) := zo_181 (a := 0) (b := 172) (zby_w zwX9_goSeason_2 21 rfl) (zby_w zwX9_goSeason_2 22 rfl) (zby_w zwX9_goSeason_2 23 rfl) (by decide)
theorem d_X9_goSeason_88 : decode cX9_goSeason 88 = .ok (.iinc 2 1, 3) := by decide +kernel
theorem d_X9_goSeason_91 : decode cX9_goSeason 91 = .ok (.goto (-70), 3) := zo_167 (a := 255) (b := 186) (zby_w zwX9_goSeason_2 27 rfl) (zby_w zwX9_goSeason_2 28 rfl) (zby_w zwX9_goSeason_2 29 rfl) (by decide)
theorem d_X9_goSeason_94 : decode cX9_goSeason 94 = .ok (.return_, 1) := zo_177 (zby_w zwX9_goSeason_2 30 rfl)
theorem d_X9_goWhirl_113 : decode cX9_goWhirl 113 = .ok (.return_, 1) := zo_177 (zby_w zwX9_goWhirl_3 17 rfl)
theorem d_X9_got_31 : decode cX9_got 31 = .ok (.iinc 3 1, 3) := by decide +kernel
theorem d_X9_held_34 : decode cX9_held 34 = .ok (.bipush (-2), 2) := zo_16 (a := 254) (zby_w zwX9_held_1 2 rfl) (zby_w zwX9_held_1 3 rfl) (by decide)
theorem d_X9_held_36 : decode cX9_held 36 = .ok (.ireturn, 1) := zo_172 (zby_w zwX9_held_1 4 rfl)
theorem d_X9_held_117 : decode cX9_held 117 = .ok (.iinc 6 1, 3) := by decide +kernel
theorem d_X9_held_149 : decode cX9_held 149 = .ok (.ireturn, 1) := zo_172 (zby_w zwX9_held_4 21 rfl)
theorem d_X9_in_17 : decode cX9_in 17 = .ok (.iconst 0, 1) := zo_3 (zby_w zwX9_in_0 17 rfl)
theorem d_X9_insured_29 : decode cX9_insured 29 = .ok (.bipush (-2), 2) := zo_16 (a := 254) (zby_w zwX9_insured_0 29 rfl) (zby_w zwX9_insured_0 30 rfl) (by decide)
theorem d_X9_insured_31 : decode cX9_insured 31 = .ok (.ireturn, 1) := zo_172 (zby_w zwX9_insured_0 31 rfl)
theorem d_X9_insured_106 : decode cX9_insured 106 = .ok (.iconst 0, 1) := zo_3 (zby_w zwX9_insured_3 10 rfl)
theorem d_X9_insured_137 : decode cX9_insured 137 = .ok (.iinc 7 1, 3) := by decide +kernel
theorem d_X9_isAboard_28 : decode cX9_isAboard 28 = .ok (.iconst 0, 1) := zo_3 (zby_w zwX9_isAboard_0 28 rfl)
theorem d_X9_isInHarbour_21 : decode cX9_isInHarbour 21 = .ok (.iconst 0, 1) := zo_3 (zby_w zwX9_isInHarbour_0 21 rfl)
theorem d_X9_isOnLine_50 : decode cX9_isOnLine 50 = .ok (.iconst 0, 1) := zo_3 (zby_w zwX9_isOnLine_1 18 rfl)
theorem d_X9_isOnLine_83 : decode cX9_isOnLine 83 = .ok (.iconst 1, 1) := zo_4 (zby_w zwX9_isOnLine_2 19 rfl)
theorem d_X9_isOnLine_84 : decode cX9_isOnLine 84 = .ok (.goto 4, 3) := zo_167 (a := 0) (b := 4) (zby_w zwX9_isOnLine_2 20 rfl) (zby_w zwX9_isOnLine_2 21 rfl) (zby_w zwX9_isOnLine_2 22 rfl) (by decide)
theorem d_X9_isOnLine_105 : decode cX9_isOnLine 105 = .ok (.iconst 1, 1) := zo_4 (zby_w zwX9_isOnLine_3 9 rfl)
theorem d_X9_isOnLine_106 : decode cX9_isOnLine 106 = .ok (.goto 4, 3) := zo_167 (a := 0) (b := 4) (zby_w zwX9_isOnLine_3 10 rfl) (zby_w zwX9_isOnLine_3 11 rfl) (zby_w zwX9_isOnLine_3 12 rfl) (by decide)
theorem d_X9_isOnLine_109 : decode cX9_isOnLine 109 = .ok (.iconst 0, 1) := zo_3 (zby_w zwX9_isOnLine_3 13 rfl)
theorem d_X9_isOnLine_111 : decode cX9_isOnLine 111 = .ok (.iinc 3 1, 3) := by decide +kernel
theorem d_X9_isOnLine_117 : decode cX9_isOnLine 117 = .ok (.iload_n 2, 1) := zo_28 (zby_w zwX9_isOnLine_3 21 rfl)
theorem d_X9_isOnLine_118 : decode cX9_isOnLine 118 = .ok (.ireturn, 1) := zo_172 (zby_w zwX9_isOnLine_3 22 rfl)
theorem d_X9_isShip_23 : decode cX9_isShip 23 = .ok (.iconst 0, 1) := zo_3 (zby_w zwX9_isShip_0 23 rfl)
theorem d_X9_keepNow_65 : decode cX9_keepNow 65 = .ok (.iinc 1 1, 3) := by decide +kernel
theorem d_X9_layFleet_109 : decode cX9_layFleet 109 = .ok (.iinc 4 1, 3) := by decide +kernel
theorem d_X9_layFleet_115 : decode cX9_layFleet 115 = .ok (.iinc 3 (-1), 3) := by decide +kernel
theorem d_X9_layFleet_131 : decode cX9_layFleet 131 = .ok (.iinc 2 (-1), 3) := by decide +kernel
theorem d_X9_layFleet_134 : decode cX9_layFleet 134 = .ok (.goto (-113), 3) := zo_167 (a := 255) (b := 143) (zby_w zwX9_layFleet_4 6 rfl) (zby_w zwX9_layFleet_4 7 rfl) (zby_w zwX9_layFleet_4 8 rfl) (by decide)
theorem d_X9_lessThan_42 : decode cX9_lessThan 42 = .ok (.iconst 0, 1) := zo_3 (zby_w zwX9_lessThan_1 10 rfl)
theorem d_X9_lessThan_45 : decode cX9_lessThan 45 = .ok (.iinc 3 1, 3) := by decide +kernel
theorem d_X9_line_17 : decode cX9_line 17 = .ok (.bipush (-2), 2) := zo_16 (a := 254) (zby_w zwX9_line_0 17 rfl) (zby_w zwX9_line_0 18 rfl) (by decide)
theorem d_X9_line_19 : decode cX9_line 19 = .ok (.ireturn, 1) := zo_172 (zby_w zwX9_line_0 19 rfl)
theorem d_X9_line_72 : decode cX9_line 72 = .ok (.iinc 5 1, 3) := by decide +kernel
theorem d_X9_line_97 : decode cX9_line 97 = .ok (.iload_n 2, 1) := zo_28 (zby_w zwX9_line_3 1 rfl)
theorem d_X9_line_98 : decode cX9_line 98 = .ok (.iconst (-1), 1) := zo_2 (zby_w zwX9_line_3 2 rfl)
theorem d_X9_line_99 : decode cX9_line 99 = .ok (.if_icmp .ne 8, 3) := zo_160 (a := 0) (b := 8) (zby_w zwX9_line_3 3 rfl) (zby_w zwX9_line_3 4 rfl) (zby_w zwX9_line_3 5 rfl) (by decide)
theorem d_X9_line_102 : decode cX9_line 102 = .ok (.iload 4, 2) := zo_21 (a := 4) (zby_w zwX9_line_3 6 rfl) (zby_w zwX9_line_3 7 rfl) (by decide)
theorem d_X9_line_104 : decode cX9_line 104 = .ok (.goto 5, 3) := zo_167 (a := 0) (b := 5) (zby_w zwX9_line_3 8 rfl) (zby_w zwX9_line_3 9 rfl) (zby_w zwX9_line_3 10 rfl) (by decide)
theorem d_X9_line_107 : decode cX9_line 107 = .ok (.bipush (-6), 2) := zo_16 (a := 250) (zby_w zwX9_line_3 11 rfl) (zby_w zwX9_line_3 12 rfl) (by decide)
theorem d_X9_line_109 : decode cX9_line 109 = .ok (.ireturn, 1) := zo_172 (zby_w zwX9_line_3 13 rfl)
theorem d_X9_line_165 : decode cX9_line 165 = .ok (.iinc 5 1, 3) := by decide +kernel
theorem d_X9_line_168 : decode cX9_line 168 = .ok (.goto (-55), 3) := zo_167 (a := 255) (b := 201) (zby_w zwX9_line_5 8 rfl) (zby_w zwX9_line_5 9 rfl) (zby_w zwX9_line_5 10 rfl) (by decide)
theorem d_X9_lot_39 : decode cX9_lot 39 = .ok (.ldc2_w 280, 3) := zo_20 (a := 1) (b := 24) (zby_w zwX9_lot_1 7 rfl) (zby_w zwX9_lot_1 8 rfl) (zby_w zwX9_lot_1 9 rfl) (by decide)
theorem d_X9_lot_42 : decode cX9_lot 42 = .ok (.lreturn, 1) := zo_173 (zby_w zwX9_lot_1 10 rfl)
theorem d_X9_lot_90 : decode cX9_lot 90 = .ok (.iconst 0, 1) := zo_3 (zby_w zwX9_lot_2 26 rfl)
theorem d_X9_lot_125 : decode cX9_lot 125 = .ok (.iconst 0, 1) := zo_3 (zby_w zwX9_lot_3 29 rfl)
theorem d_X9_lot_129 : decode cX9_lot 129 = .ok (.iinc 6 1, 3) := by decide +kernel
theorem d_X9_mean_34 : decode cX9_mean 34 = .ok (.bipush (-2), 2) := zo_16 (a := 254) (zby_w zwX9_mean_1 2 rfl) (zby_w zwX9_mean_1 3 rfl) (by decide)
theorem d_X9_mean_36 : decode cX9_mean 36 = .ok (.ireturn, 1) := zo_172 (zby_w zwX9_mean_1 4 rfl)
theorem d_X9_meanOf_53 : decode cX9_meanOf 53 = .ok (.ireturn, 1) := zo_172 (zby_w zwX9_meanOf_1 21 rfl)
theorem d_X9_offer_36 : decode cX9_offer 36 = .ok (.bipush (-2), 2) := zo_16 (a := 254) (zby_w zwX9_offer_1 4 rfl) (zby_w zwX9_offer_1 5 rfl) (by decide)
theorem d_X9_offer_38 : decode cX9_offer 38 = .ok (.ireturn, 1) := zo_172 (zby_w zwX9_offer_1 6 rfl)
theorem d_X9_often_59 : decode cX9_often 59 = .ok (.ldc2_w 280, 3) := zo_20 (a := 1) (b := 24) (zby_w zwX9_often_1 27 rfl) (zby_w zwX9_often_1 28 rfl) (zby_w zwX9_often_1 29 rfl) (by decide)
theorem d_X9_often_62 : decode cX9_often 62 = .ok (.lreturn, 1) := zo_173 (zby_w zwX9_often_1 30 rfl)
theorem d_X9_often_105 : decode cX9_often 105 = .ok (.iinc 8 1, 3) := by decide +kernel
theorem d_X9_ones_8 : decode cX9_ones 8 = .ok (.iinc 1 1, 3) := by decide +kernel
theorem d_X9_order_83 : decode cX9_order 83 = .ok (.return_, 1) := zo_177 (zby_w zwX9_order_2 19 rfl)
theorem d_X9_passAll_108 : decode cX9_passAll 108 = .ok (.iinc 1 1, 3) := by decide +kernel
theorem d_X9_passAll_153 : decode cX9_passAll 153 = .ok (.iinc 1 1, 3) := by decide +kernel
theorem d_X9_passAll_183 : decode cX9_passAll 183 = .ok (.iinc 1 1, 3) := by decide +kernel
theorem d_X9_passAll_213 : decode cX9_passAll 213 = .ok (.iinc 1 1, 3) := by decide +kernel
theorem d_X9_persuaded_52 : decode cX9_persuaded 52 = .ok (.iinc 4 1, 3) := by decide +kernel
theorem d_X9_power_16 : decode cX9_power 16 = .ok (.iinc 4 1, 3) := by decide +kernel
theorem d_X9_premiums_31 : decode cX9_premiums 31 = .ok (.iinc 3 1, 3) := by decide +kernel
theorem d_X9_putBack_65 : decode cX9_putBack 65 = .ok (.iinc 1 1, 3) := by decide +kernel
theorem d_X9_roll_28 : decode cX9_roll 28 = .ok (.bipush (-2), 2) := zo_16 (a := 254) (zby_w zwX9_roll_0 28 rfl) (zby_w zwX9_roll_0 29 rfl) (by decide)
theorem d_X9_roll_30 : decode cX9_roll 30 = .ok (.ireturn, 1) := zo_172 (zby_w zwX9_roll_0 30 rfl)
theorem d_X9_set_34 : decode cX9_set 34 = .ok (.bipush (-2), 2) := zo_16 (a := 254) (zby_w zwX9_set_1 2 rfl) (zby_w zwX9_set_1 3 rfl) (by decide)
theorem d_X9_set_36 : decode cX9_set 36 = .ok (.ireturn, 1) := zo_172 (zby_w zwX9_set_1 4 rfl)
theorem d_X9_set_177 : decode cX9_set 177 = .ok (.putfield 81, 3) := zo_181 (a := 0) (b := 81) (zby_w zwX9_set_5 17 rfl) (zby_w zwX9_set_5 18 rfl) (zby_w zwX9_set_5 19 rfl) (by decide)
theorem d_X9_set_180 : decode cX9_set 180 = .ok (.iload_n 3, 1) := zo_29 (zby_w zwX9_set_5 20 rfl)
theorem d_X9_set_181 : decode cX9_set 181 = .ok (.ireturn, 1) := zo_172 (zby_w zwX9_set_5 21 rfl)
theorem d_X9_ship_46 : decode cX9_ship 46 = .ok (.bipush (-2), 2) := zo_16 (a := 254) (zby_w zwX9_ship_1 14 rfl) (zby_w zwX9_ship_1 15 rfl) (by decide)
theorem d_X9_ship_48 : decode cX9_ship 48 = .ok (.ireturn, 1) := zo_172 (zby_w zwX9_ship_1 16 rfl)
theorem d_X9_state_33 : decode cX9_state 33 = .ok (.ireturn, 1) := zo_172 (zby_w zwX9_state_1 1 rfl)
theorem d_X9_tide_35 : decode cX9_tide 35 = .ok (.iinc 1 1, 3) := by decide +kernel
theorem d_X9_told_132 : decode cX9_told 132 = .ok (.ireturn, 1) := zo_172 (zby_w zwX9_told_4 4 rfl)
theorem d_X9_toldSet_1 : decode cX9_toldSet 1 = .ok (.tableswitch 78 0 6 #[43, 48, 53, 58, 63, 68, 73], 43) := by decide +kernel
theorem d_X9_twice_89 : decode cX9_twice 89 = .ok (.iconst 0, 1) := zo_3 (zby_w zwX9_twice_2 25 rfl)
theorem d_X9_twice_104 : decode cX9_twice 104 = .ok (.iconst 1, 1) := zo_4 (zby_w zwX9_twice_3 8 rfl)
theorem d_X9_twice_105 : decode cX9_twice 105 = .ok (.goto 4, 3) := zo_167 (a := 0) (b := 4) (zby_w zwX9_twice_3 9 rfl) (zby_w zwX9_twice_3 10 rfl) (zby_w zwX9_twice_3 11 rfl) (by decide)
theorem d_X9_twice_112 : decode cX9_twice 112 = .ok (.iinc 5 1, 3) := by decide +kernel
theorem d_X9_twice_134 : decode cX9_twice 134 = .ok (.iinc 3 1, 3) := by decide +kernel
theorem d_X9_worst_34 : decode cX9_worst 34 = .ok (.bipush (-2), 2) := zo_16 (a := 254) (zby_w zwX9_worst_1 2 rfl) (zby_w zwX9_worst_1 3 rfl) (by decide)
theorem d_X9_worst_36 : decode cX9_worst 36 = .ok (.ireturn, 1) := zo_172 (zby_w zwX9_worst_1 4 rfl)
theorem d_X9_worstOf_53 : decode cX9_worstOf 53 = .ok (.ireturn, 1) := zo_172 (zby_w zwX9_worstOf_1 21 rfl)
theorem d_X9_years_47 : decode cX9_years 47 = .ok (.bipush (-2), 2) := zo_16 (a := 254) (zby_w zwX9_years_1 15 rfl) (zby_w zwX9_years_1 16 rfl) (by decide)
theorem d_X9_years_49 : decode cX9_years 49 = .ok (.ireturn, 1) := zo_172 (zby_w zwX9_years_1 17 rfl)
theorem d_X9_years_113 : decode cX9_years 113 = .ok (.iinc 7 1, 3) := by decide +kernel
theorem d_X9_years_153 : decode cX9_years 153 = .ok (.ireturn, 1) := zo_172 (zby_w zwX9_years_4 25 rfl)
