/-! ===== decoding: the opcode's number looked up once for each opcode ===== -/
noncomputable def nthB (l : List UInt8) : Nat → Nat := List.rec (motive := fun _ => Nat → Nat) (fun _ => 256) (fun x _ ih n => Nat.rec (motive := fun _ => Nat) x.toNat (fun m _ => ih m) n) l
theorem nthB_get : ∀ (l : List UInt8) (p k : Nat), k < 256 → nthB l p = k → ∃ h : p < l.length, (l[p]'h).toNat = k := by
  intro l
  induction l with
  | nil =>
    intro p k hk h
    exfalso
    have h2 : 256 = k := h
    omega
  | cons x l ih =>
    intro p k hk h
    cases p with
    | zero => exact ⟨Nat.zero_lt_succ _, h⟩
    | succ m =>
      obtain ⟨h1, h2⟩ := ih m k hk h
      exact ⟨Nat.succ_lt_succ h1, h2⟩
theorem u1_at {c : ByteArray} {p k : Nat} (h : nthB c.data.toList p = k) (hk : k < 256) : (Reader.u1 : Decoder Nat) c p = .ok (k, p + 1) := by
  obtain ⟨h1, h2⟩ := nthB_get _ _ _ hk h
  have hs : p < c.size := h1
  show (dite (p < c.size) (fun h => (do set (p + 1); pure (c[p]'h).toNat : Decoder Nat)) (fun _ => throw (HasTruncated.truncated p))) c p = _
  rw [dif_pos hs]
  exact congrArg (fun k => Except.ok (k, p + 1)) h2
theorem bind_at {α β : Type} {x : Decoder α} {f : α → Decoder β} {c : ByteArray} {p p2 : Nat} {a : α} (h : x c p = .ok (a, p2)) : (x >>= f) c p = f a c p2 := by
  show Except.bind (x c p) (fun q => f q.1 c q.2) = _
  rw [h]; rfl
theorem map_at {α β : Type} {x : Decoder α} {f : α → β} {c : ByteArray} {p p2 : Nat} {a : α} (h : x c p = .ok (a, p2)) : (f <$> x) c p = .ok (f a, p2) := by
  show Except.bind (x c p) (fun q => Except.ok (f q.1, q.2)) = _
  rw [h]; rfl
theorem dec_at {c : ByteArray} {pc : Nat} {i : Instr} {q : Nat} (h : (Decoder.instr pc) c pc = .ok (i, pc + q)) : decode c pc = .ok (i, q) := by
  show Except.bind ((Decoder.instr pc) c pc) (fun z => Except.ok (z.1, z.2 - pc)) = _
  rw [h]
  show Except.ok (i, pc + q - pc) = _
  rw [Nat.add_sub_cancel_left]
noncomputable def ck1 (l : List UInt8) (p k : Nat) : Bool := Nat.beq (nthB l p) k
noncomputable def cu1 (l : List UInt8) (p n : Nat) : Bool := Nat.ble n 255 && Nat.beq (nthB l p) n
noncomputable def cs1 (l : List UInt8) (p : Nat) (n : Int) : Bool := Nat.ble (nthB l p) 255 && decide (Reader.signed 8 (nthB l p) = n)
noncomputable def cu2 (l : List UInt8) (p n : Nat) : Bool := Nat.ble (nthB l p) 255 && (Nat.ble (nthB l (p + 1)) 255 && Nat.beq (nthB l p * 256 + nthB l (p + 1)) n)
noncomputable def cs2 (l : List UInt8) (p : Nat) (n : Int) : Bool := Nat.ble (nthB l p) 255 && (Nat.ble (nthB l (p + 1)) 255 && decide (Reader.signed 16 (nthB l p * 256 + nthB l (p + 1)) = n))
theorem ck_1 {l : List UInt8} {p k : Nat} (h : ck1 l p k = true) : nthB l p = k := Nat.eq_of_beq_eq_true h
theorem u1_c {c : ByteArray} {p n : Nat} (h : cu1 c.data.toList p n = true) : (Reader.u1 : Decoder Nat) c p = .ok (n, p + 1) := by
  unfold cu1 at h
  obtain ⟨a, b⟩ := Bool.and_eq_true_iff.mp h
  exact u1_at (Nat.eq_of_beq_eq_true b) (Nat.lt_succ_of_le (Nat.le_of_ble_eq_true a))
theorem s1_c {c : ByteArray} {p : Nat} {n : Int} (h : cs1 c.data.toList p n = true) : (Reader.s1 : Decoder Int) c p = .ok (n, p + 1) := by
  unfold cs1 at h
  obtain ⟨a, b⟩ := Bool.and_eq_true_iff.mp h
  have e := of_decide_eq_true b
  rw [← e]
  exact map_at (u1_at rfl (Nat.lt_succ_of_le (Nat.le_of_ble_eq_true a)))
theorem u2_k {c : ByteArray} {p : Nat} (a : Nat.ble (nthB c.data.toList p) 255 = true) (b : Nat.ble (nthB c.data.toList (p + 1)) 255 = true) : (Reader.u2 : Decoder Nat) c p = .ok (nthB c.data.toList p * 256 + nthB c.data.toList (p + 1), p + 2) := by
  unfold Reader.u2
  rw [bind_at (u1_at rfl (Nat.lt_succ_of_le (Nat.le_of_ble_eq_true a))), bind_at (u1_at rfl (Nat.lt_succ_of_le (Nat.le_of_ble_eq_true b)))]
  rfl
theorem u2_c {c : ByteArray} {p n : Nat} (h : cu2 c.data.toList p n = true) : (Reader.u2 : Decoder Nat) c p = .ok (n, p + 2) := by
  unfold cu2 at h
  obtain ⟨a, h2⟩ := Bool.and_eq_true_iff.mp h
  obtain ⟨b, d⟩ := Bool.and_eq_true_iff.mp h2
  rw [← Nat.eq_of_beq_eq_true d]
  exact u2_k a b
theorem s2_c {c : ByteArray} {p : Nat} {n : Int} (h : cs2 c.data.toList p n = true) : (Reader.s2 : Decoder Int) c p = .ok (n, p + 2) := by
  unfold cs2 at h
  obtain ⟨a, h2⟩ := Bool.and_eq_true_iff.mp h
  obtain ⟨b, d⟩ := Bool.and_eq_true_iff.mp h2
  rw [← of_decide_eq_true d]
  exact map_at (u2_k a b)
set_option maxRecDepth 100000 in
theorem op_1 {c : ByteArray} {pc : Nat} (h : ck1 c.data.toList pc 1 = true) : decode c pc = .ok (.aconst_null, 1) := dec_at (by
  unfold Decoder.instr
  rw [bind_at (u1_at (ck_1 h) (by decide))]
  rfl)
set_option maxRecDepth 100000 in
theorem op_2 {c : ByteArray} {pc : Nat} (h : ck1 c.data.toList pc 2 = true) : decode c pc = .ok (.iconst (-1), 1) := dec_at (by
  unfold Decoder.instr
  rw [bind_at (u1_at (ck_1 h) (by decide))]
  rfl)
set_option maxRecDepth 100000 in
theorem op_3 {c : ByteArray} {pc : Nat} (h : ck1 c.data.toList pc 3 = true) : decode c pc = .ok (.iconst 0, 1) := dec_at (by
  unfold Decoder.instr
  rw [bind_at (u1_at (ck_1 h) (by decide))]
  rfl)
set_option maxRecDepth 100000 in
theorem op_4 {c : ByteArray} {pc : Nat} (h : ck1 c.data.toList pc 4 = true) : decode c pc = .ok (.iconst 1, 1) := dec_at (by
  unfold Decoder.instr
  rw [bind_at (u1_at (ck_1 h) (by decide))]
  rfl)
set_option maxRecDepth 100000 in
theorem op_5 {c : ByteArray} {pc : Nat} (h : ck1 c.data.toList pc 5 = true) : decode c pc = .ok (.iconst 2, 1) := dec_at (by
  unfold Decoder.instr
  rw [bind_at (u1_at (ck_1 h) (by decide))]
  rfl)
set_option maxRecDepth 100000 in
theorem op_6 {c : ByteArray} {pc : Nat} (h : ck1 c.data.toList pc 6 = true) : decode c pc = .ok (.iconst 3, 1) := dec_at (by
  unfold Decoder.instr
  rw [bind_at (u1_at (ck_1 h) (by decide))]
  rfl)
set_option maxRecDepth 100000 in
theorem op_7 {c : ByteArray} {pc : Nat} (h : ck1 c.data.toList pc 7 = true) : decode c pc = .ok (.iconst 4, 1) := dec_at (by
  unfold Decoder.instr
  rw [bind_at (u1_at (ck_1 h) (by decide))]
  rfl)
set_option maxRecDepth 100000 in
theorem op_8 {c : ByteArray} {pc : Nat} (h : ck1 c.data.toList pc 8 = true) : decode c pc = .ok (.iconst 5, 1) := dec_at (by
  unfold Decoder.instr
  rw [bind_at (u1_at (ck_1 h) (by decide))]
  rfl)
set_option maxRecDepth 100000 in
theorem op_9 {c : ByteArray} {pc : Nat} (h : ck1 c.data.toList pc 9 = true) : decode c pc = .ok (.lconst 0, 1) := dec_at (by
  unfold Decoder.instr
  rw [bind_at (u1_at (ck_1 h) (by decide))]
  rfl)
set_option maxRecDepth 100000 in
theorem op_10 {c : ByteArray} {pc : Nat} (h : ck1 c.data.toList pc 10 = true) : decode c pc = .ok (.lconst 1, 1) := dec_at (by
  unfold Decoder.instr
  rw [bind_at (u1_at (ck_1 h) (by decide))]
  rfl)
set_option maxRecDepth 100000 in
theorem op_16 {c : ByteArray} {pc : Nat} {n : Int} (h : (ck1 c.data.toList pc 16 && cs1 c.data.toList (pc + 1) n) = true) : decode c pc = .ok (.bipush n, 2) := dec_at (by
  obtain ⟨a, b⟩ := Bool.and_eq_true_iff.mp h
  unfold Decoder.instr
  rw [bind_at (u1_at (ck_1 a) (by decide))]
  show ((do let x ← Reader.s1; pure (.bipush x)) : Decoder Instr) c (pc + 1) = _
  rw [bind_at (s1_c b)]
  rfl)
set_option maxRecDepth 100000 in
theorem op_17 {c : ByteArray} {pc : Nat} {n : Int} (h : (ck1 c.data.toList pc 17 && cs2 c.data.toList (pc + 1) n) = true) : decode c pc = .ok (.sipush n, 3) := dec_at (by
  obtain ⟨a, b⟩ := Bool.and_eq_true_iff.mp h
  unfold Decoder.instr
  rw [bind_at (u1_at (ck_1 a) (by decide))]
  show ((do let x ← Reader.s2; pure (.sipush x)) : Decoder Instr) c (pc + 1) = _
  rw [bind_at (s2_c b)]
  rfl)
set_option maxRecDepth 100000 in
theorem op_18 {c : ByteArray} {pc : Nat} {n : Nat} (h : (ck1 c.data.toList pc 18 && cu1 c.data.toList (pc + 1) n) = true) : decode c pc = .ok (.ldc n, 2) := dec_at (by
  obtain ⟨a, b⟩ := Bool.and_eq_true_iff.mp h
  unfold Decoder.instr
  rw [bind_at (u1_at (ck_1 a) (by decide))]
  show ((do let x ← Reader.u1; pure (.ldc x)) : Decoder Instr) c (pc + 1) = _
  rw [bind_at (u1_c b)]
  rfl)
set_option maxRecDepth 100000 in
theorem op_19 {c : ByteArray} {pc : Nat} {n : Nat} (h : (ck1 c.data.toList pc 19 && cu2 c.data.toList (pc + 1) n) = true) : decode c pc = .ok (.ldc_w n, 3) := dec_at (by
  obtain ⟨a, b⟩ := Bool.and_eq_true_iff.mp h
  unfold Decoder.instr
  rw [bind_at (u1_at (ck_1 a) (by decide))]
  show ((do let x ← Reader.u2; pure (.ldc_w x)) : Decoder Instr) c (pc + 1) = _
  rw [bind_at (u2_c b)]
  rfl)
set_option maxRecDepth 100000 in
theorem op_20 {c : ByteArray} {pc : Nat} {n : Nat} (h : (ck1 c.data.toList pc 20 && cu2 c.data.toList (pc + 1) n) = true) : decode c pc = .ok (.ldc2_w n, 3) := dec_at (by
  obtain ⟨a, b⟩ := Bool.and_eq_true_iff.mp h
  unfold Decoder.instr
  rw [bind_at (u1_at (ck_1 a) (by decide))]
  show ((do let x ← Reader.u2; pure (.ldc2_w x)) : Decoder Instr) c (pc + 1) = _
  rw [bind_at (u2_c b)]
  rfl)
set_option maxRecDepth 100000 in
theorem op_21 {c : ByteArray} {pc : Nat} {n : Nat} (h : (ck1 c.data.toList pc 21 && cu1 c.data.toList (pc + 1) n) = true) : decode c pc = .ok (.iload n, 2) := dec_at (by
  obtain ⟨a, b⟩ := Bool.and_eq_true_iff.mp h
  unfold Decoder.instr
  rw [bind_at (u1_at (ck_1 a) (by decide))]
  show ((do let x ← Reader.u1; pure (.iload x)) : Decoder Instr) c (pc + 1) = _
  rw [bind_at (u1_c b)]
  rfl)
set_option maxRecDepth 100000 in
theorem op_22 {c : ByteArray} {pc : Nat} {n : Nat} (h : (ck1 c.data.toList pc 22 && cu1 c.data.toList (pc + 1) n) = true) : decode c pc = .ok (.lload n, 2) := dec_at (by
  obtain ⟨a, b⟩ := Bool.and_eq_true_iff.mp h
  unfold Decoder.instr
  rw [bind_at (u1_at (ck_1 a) (by decide))]
  show ((do let x ← Reader.u1; pure (.lload x)) : Decoder Instr) c (pc + 1) = _
  rw [bind_at (u1_c b)]
  rfl)
set_option maxRecDepth 100000 in
theorem op_25 {c : ByteArray} {pc : Nat} {n : Nat} (h : (ck1 c.data.toList pc 25 && cu1 c.data.toList (pc + 1) n) = true) : decode c pc = .ok (.aload n, 2) := dec_at (by
  obtain ⟨a, b⟩ := Bool.and_eq_true_iff.mp h
  unfold Decoder.instr
  rw [bind_at (u1_at (ck_1 a) (by decide))]
  show ((do let x ← Reader.u1; pure (.aload x)) : Decoder Instr) c (pc + 1) = _
  rw [bind_at (u1_c b)]
  rfl)
set_option maxRecDepth 100000 in
theorem op_26 {c : ByteArray} {pc : Nat} (h : ck1 c.data.toList pc 26 = true) : decode c pc = .ok (.iload_n 0, 1) := dec_at (by
  unfold Decoder.instr
  rw [bind_at (u1_at (ck_1 h) (by decide))]
  rfl)
set_option maxRecDepth 100000 in
theorem op_27 {c : ByteArray} {pc : Nat} (h : ck1 c.data.toList pc 27 = true) : decode c pc = .ok (.iload_n 1, 1) := dec_at (by
  unfold Decoder.instr
  rw [bind_at (u1_at (ck_1 h) (by decide))]
  rfl)
set_option maxRecDepth 100000 in
theorem op_28 {c : ByteArray} {pc : Nat} (h : ck1 c.data.toList pc 28 = true) : decode c pc = .ok (.iload_n 2, 1) := dec_at (by
  unfold Decoder.instr
  rw [bind_at (u1_at (ck_1 h) (by decide))]
  rfl)
set_option maxRecDepth 100000 in
theorem op_29 {c : ByteArray} {pc : Nat} (h : ck1 c.data.toList pc 29 = true) : decode c pc = .ok (.iload_n 3, 1) := dec_at (by
  unfold Decoder.instr
  rw [bind_at (u1_at (ck_1 h) (by decide))]
  rfl)
set_option maxRecDepth 100000 in
theorem op_30 {c : ByteArray} {pc : Nat} (h : ck1 c.data.toList pc 30 = true) : decode c pc = .ok (.lload_n 0, 1) := dec_at (by
  unfold Decoder.instr
  rw [bind_at (u1_at (ck_1 h) (by decide))]
  rfl)
set_option maxRecDepth 100000 in
theorem op_31 {c : ByteArray} {pc : Nat} (h : ck1 c.data.toList pc 31 = true) : decode c pc = .ok (.lload_n 1, 1) := dec_at (by
  unfold Decoder.instr
  rw [bind_at (u1_at (ck_1 h) (by decide))]
  rfl)
set_option maxRecDepth 100000 in
theorem op_33 {c : ByteArray} {pc : Nat} (h : ck1 c.data.toList pc 33 = true) : decode c pc = .ok (.lload_n 3, 1) := dec_at (by
  unfold Decoder.instr
  rw [bind_at (u1_at (ck_1 h) (by decide))]
  rfl)
set_option maxRecDepth 100000 in
theorem op_42 {c : ByteArray} {pc : Nat} (h : ck1 c.data.toList pc 42 = true) : decode c pc = .ok (.aload_n 0, 1) := dec_at (by
  unfold Decoder.instr
  rw [bind_at (u1_at (ck_1 h) (by decide))]
  rfl)
set_option maxRecDepth 100000 in
theorem op_43 {c : ByteArray} {pc : Nat} (h : ck1 c.data.toList pc 43 = true) : decode c pc = .ok (.aload_n 1, 1) := dec_at (by
  unfold Decoder.instr
  rw [bind_at (u1_at (ck_1 h) (by decide))]
  rfl)
set_option maxRecDepth 100000 in
theorem op_44 {c : ByteArray} {pc : Nat} (h : ck1 c.data.toList pc 44 = true) : decode c pc = .ok (.aload_n 2, 1) := dec_at (by
  unfold Decoder.instr
  rw [bind_at (u1_at (ck_1 h) (by decide))]
  rfl)
set_option maxRecDepth 100000 in
theorem op_45 {c : ByteArray} {pc : Nat} (h : ck1 c.data.toList pc 45 = true) : decode c pc = .ok (.aload_n 3, 1) := dec_at (by
  unfold Decoder.instr
  rw [bind_at (u1_at (ck_1 h) (by decide))]
  rfl)
set_option maxRecDepth 100000 in
theorem op_46 {c : ByteArray} {pc : Nat} (h : ck1 c.data.toList pc 46 = true) : decode c pc = .ok (.iaload, 1) := dec_at (by
  unfold Decoder.instr
  rw [bind_at (u1_at (ck_1 h) (by decide))]
  rfl)
set_option maxRecDepth 100000 in
theorem op_47 {c : ByteArray} {pc : Nat} (h : ck1 c.data.toList pc 47 = true) : decode c pc = .ok (.laload, 1) := dec_at (by
  unfold Decoder.instr
  rw [bind_at (u1_at (ck_1 h) (by decide))]
  rfl)
set_option maxRecDepth 100000 in
theorem op_50 {c : ByteArray} {pc : Nat} (h : ck1 c.data.toList pc 50 = true) : decode c pc = .ok (.aaload, 1) := dec_at (by
  unfold Decoder.instr
  rw [bind_at (u1_at (ck_1 h) (by decide))]
  rfl)
set_option maxRecDepth 100000 in
theorem op_51 {c : ByteArray} {pc : Nat} (h : ck1 c.data.toList pc 51 = true) : decode c pc = .ok (.baload, 1) := dec_at (by
  unfold Decoder.instr
  rw [bind_at (u1_at (ck_1 h) (by decide))]
  rfl)
set_option maxRecDepth 100000 in
theorem op_54 {c : ByteArray} {pc : Nat} {n : Nat} (h : (ck1 c.data.toList pc 54 && cu1 c.data.toList (pc + 1) n) = true) : decode c pc = .ok (.istore n, 2) := dec_at (by
  obtain ⟨a, b⟩ := Bool.and_eq_true_iff.mp h
  unfold Decoder.instr
  rw [bind_at (u1_at (ck_1 a) (by decide))]
  show ((do let x ← Reader.u1; pure (.istore x)) : Decoder Instr) c (pc + 1) = _
  rw [bind_at (u1_c b)]
  rfl)
set_option maxRecDepth 100000 in
theorem op_55 {c : ByteArray} {pc : Nat} {n : Nat} (h : (ck1 c.data.toList pc 55 && cu1 c.data.toList (pc + 1) n) = true) : decode c pc = .ok (.lstore n, 2) := dec_at (by
  obtain ⟨a, b⟩ := Bool.and_eq_true_iff.mp h
  unfold Decoder.instr
  rw [bind_at (u1_at (ck_1 a) (by decide))]
  show ((do let x ← Reader.u1; pure (.lstore x)) : Decoder Instr) c (pc + 1) = _
  rw [bind_at (u1_c b)]
  rfl)
set_option maxRecDepth 100000 in
theorem op_58 {c : ByteArray} {pc : Nat} {n : Nat} (h : (ck1 c.data.toList pc 58 && cu1 c.data.toList (pc + 1) n) = true) : decode c pc = .ok (.astore n, 2) := dec_at (by
  obtain ⟨a, b⟩ := Bool.and_eq_true_iff.mp h
  unfold Decoder.instr
  rw [bind_at (u1_at (ck_1 a) (by decide))]
  show ((do let x ← Reader.u1; pure (.astore x)) : Decoder Instr) c (pc + 1) = _
  rw [bind_at (u1_c b)]
  rfl)
set_option maxRecDepth 100000 in
theorem op_59 {c : ByteArray} {pc : Nat} (h : ck1 c.data.toList pc 59 = true) : decode c pc = .ok (.istore_n 0, 1) := dec_at (by
  unfold Decoder.instr
  rw [bind_at (u1_at (ck_1 h) (by decide))]
  rfl)
set_option maxRecDepth 100000 in
theorem op_60 {c : ByteArray} {pc : Nat} (h : ck1 c.data.toList pc 60 = true) : decode c pc = .ok (.istore_n 1, 1) := dec_at (by
  unfold Decoder.instr
  rw [bind_at (u1_at (ck_1 h) (by decide))]
  rfl)
set_option maxRecDepth 100000 in
theorem op_61 {c : ByteArray} {pc : Nat} (h : ck1 c.data.toList pc 61 = true) : decode c pc = .ok (.istore_n 2, 1) := dec_at (by
  unfold Decoder.instr
  rw [bind_at (u1_at (ck_1 h) (by decide))]
  rfl)
set_option maxRecDepth 100000 in
theorem op_62 {c : ByteArray} {pc : Nat} (h : ck1 c.data.toList pc 62 = true) : decode c pc = .ok (.istore_n 3, 1) := dec_at (by
  unfold Decoder.instr
  rw [bind_at (u1_at (ck_1 h) (by decide))]
  rfl)
set_option maxRecDepth 100000 in
theorem op_63 {c : ByteArray} {pc : Nat} (h : ck1 c.data.toList pc 63 = true) : decode c pc = .ok (.lstore_n 0, 1) := dec_at (by
  unfold Decoder.instr
  rw [bind_at (u1_at (ck_1 h) (by decide))]
  rfl)
set_option maxRecDepth 100000 in
theorem op_66 {c : ByteArray} {pc : Nat} (h : ck1 c.data.toList pc 66 = true) : decode c pc = .ok (.lstore_n 3, 1) := dec_at (by
  unfold Decoder.instr
  rw [bind_at (u1_at (ck_1 h) (by decide))]
  rfl)
set_option maxRecDepth 100000 in
theorem op_76 {c : ByteArray} {pc : Nat} (h : ck1 c.data.toList pc 76 = true) : decode c pc = .ok (.astore_n 1, 1) := dec_at (by
  unfold Decoder.instr
  rw [bind_at (u1_at (ck_1 h) (by decide))]
  rfl)
set_option maxRecDepth 100000 in
theorem op_77 {c : ByteArray} {pc : Nat} (h : ck1 c.data.toList pc 77 = true) : decode c pc = .ok (.astore_n 2, 1) := dec_at (by
  unfold Decoder.instr
  rw [bind_at (u1_at (ck_1 h) (by decide))]
  rfl)
set_option maxRecDepth 100000 in
theorem op_78 {c : ByteArray} {pc : Nat} (h : ck1 c.data.toList pc 78 = true) : decode c pc = .ok (.astore_n 3, 1) := dec_at (by
  unfold Decoder.instr
  rw [bind_at (u1_at (ck_1 h) (by decide))]
  rfl)
set_option maxRecDepth 100000 in
theorem op_79 {c : ByteArray} {pc : Nat} (h : ck1 c.data.toList pc 79 = true) : decode c pc = .ok (.iastore, 1) := dec_at (by
  unfold Decoder.instr
  rw [bind_at (u1_at (ck_1 h) (by decide))]
  rfl)
set_option maxRecDepth 100000 in
theorem op_80 {c : ByteArray} {pc : Nat} (h : ck1 c.data.toList pc 80 = true) : decode c pc = .ok (.lastore, 1) := dec_at (by
  unfold Decoder.instr
  rw [bind_at (u1_at (ck_1 h) (by decide))]
  rfl)
set_option maxRecDepth 100000 in
theorem op_83 {c : ByteArray} {pc : Nat} (h : ck1 c.data.toList pc 83 = true) : decode c pc = .ok (.aastore, 1) := dec_at (by
  unfold Decoder.instr
  rw [bind_at (u1_at (ck_1 h) (by decide))]
  rfl)
set_option maxRecDepth 100000 in
theorem op_84 {c : ByteArray} {pc : Nat} (h : ck1 c.data.toList pc 84 = true) : decode c pc = .ok (.bastore, 1) := dec_at (by
  unfold Decoder.instr
  rw [bind_at (u1_at (ck_1 h) (by decide))]
  rfl)
set_option maxRecDepth 100000 in
theorem op_87 {c : ByteArray} {pc : Nat} (h : ck1 c.data.toList pc 87 = true) : decode c pc = .ok (.pop, 1) := dec_at (by
  unfold Decoder.instr
  rw [bind_at (u1_at (ck_1 h) (by decide))]
  rfl)
set_option maxRecDepth 100000 in
theorem op_89 {c : ByteArray} {pc : Nat} (h : ck1 c.data.toList pc 89 = true) : decode c pc = .ok (.dup, 1) := dec_at (by
  unfold Decoder.instr
  rw [bind_at (u1_at (ck_1 h) (by decide))]
  rfl)
set_option maxRecDepth 100000 in
theorem op_92 {c : ByteArray} {pc : Nat} (h : ck1 c.data.toList pc 92 = true) : decode c pc = .ok (.dup2, 1) := dec_at (by
  unfold Decoder.instr
  rw [bind_at (u1_at (ck_1 h) (by decide))]
  rfl)
set_option maxRecDepth 100000 in
theorem op_96 {c : ByteArray} {pc : Nat} (h : ck1 c.data.toList pc 96 = true) : decode c pc = .ok (.iadd, 1) := dec_at (by
  unfold Decoder.instr
  rw [bind_at (u1_at (ck_1 h) (by decide))]
  rfl)
set_option maxRecDepth 100000 in
theorem op_97 {c : ByteArray} {pc : Nat} (h : ck1 c.data.toList pc 97 = true) : decode c pc = .ok (.ladd, 1) := dec_at (by
  unfold Decoder.instr
  rw [bind_at (u1_at (ck_1 h) (by decide))]
  rfl)
set_option maxRecDepth 100000 in
theorem op_100 {c : ByteArray} {pc : Nat} (h : ck1 c.data.toList pc 100 = true) : decode c pc = .ok (.isub, 1) := dec_at (by
  unfold Decoder.instr
  rw [bind_at (u1_at (ck_1 h) (by decide))]
  rfl)
set_option maxRecDepth 100000 in
theorem op_101 {c : ByteArray} {pc : Nat} (h : ck1 c.data.toList pc 101 = true) : decode c pc = .ok (.lsub, 1) := dec_at (by
  unfold Decoder.instr
  rw [bind_at (u1_at (ck_1 h) (by decide))]
  rfl)
set_option maxRecDepth 100000 in
theorem op_104 {c : ByteArray} {pc : Nat} (h : ck1 c.data.toList pc 104 = true) : decode c pc = .ok (.imul, 1) := dec_at (by
  unfold Decoder.instr
  rw [bind_at (u1_at (ck_1 h) (by decide))]
  rfl)
set_option maxRecDepth 100000 in
theorem op_108 {c : ByteArray} {pc : Nat} (h : ck1 c.data.toList pc 108 = true) : decode c pc = .ok (.idiv, 1) := dec_at (by
  unfold Decoder.instr
  rw [bind_at (u1_at (ck_1 h) (by decide))]
  rfl)
set_option maxRecDepth 100000 in
theorem op_112 {c : ByteArray} {pc : Nat} (h : ck1 c.data.toList pc 112 = true) : decode c pc = .ok (.irem, 1) := dec_at (by
  unfold Decoder.instr
  rw [bind_at (u1_at (ck_1 h) (by decide))]
  rfl)
set_option maxRecDepth 100000 in
theorem op_116 {c : ByteArray} {pc : Nat} (h : ck1 c.data.toList pc 116 = true) : decode c pc = .ok (.ineg, 1) := dec_at (by
  unfold Decoder.instr
  rw [bind_at (u1_at (ck_1 h) (by decide))]
  rfl)
set_option maxRecDepth 100000 in
theorem op_120 {c : ByteArray} {pc : Nat} (h : ck1 c.data.toList pc 120 = true) : decode c pc = .ok (.ishl, 1) := dec_at (by
  unfold Decoder.instr
  rw [bind_at (u1_at (ck_1 h) (by decide))]
  rfl)
set_option maxRecDepth 100000 in
theorem op_121 {c : ByteArray} {pc : Nat} (h : ck1 c.data.toList pc 121 = true) : decode c pc = .ok (.lshl, 1) := dec_at (by
  unfold Decoder.instr
  rw [bind_at (u1_at (ck_1 h) (by decide))]
  rfl)
set_option maxRecDepth 100000 in
theorem op_122 {c : ByteArray} {pc : Nat} (h : ck1 c.data.toList pc 122 = true) : decode c pc = .ok (.ishr, 1) := dec_at (by
  unfold Decoder.instr
  rw [bind_at (u1_at (ck_1 h) (by decide))]
  rfl)
set_option maxRecDepth 100000 in
theorem op_123 {c : ByteArray} {pc : Nat} (h : ck1 c.data.toList pc 123 = true) : decode c pc = .ok (.lshr, 1) := dec_at (by
  unfold Decoder.instr
  rw [bind_at (u1_at (ck_1 h) (by decide))]
  rfl)
set_option maxRecDepth 100000 in
theorem op_124 {c : ByteArray} {pc : Nat} (h : ck1 c.data.toList pc 124 = true) : decode c pc = .ok (.iushr, 1) := dec_at (by
  unfold Decoder.instr
  rw [bind_at (u1_at (ck_1 h) (by decide))]
  rfl)
set_option maxRecDepth 100000 in
theorem op_125 {c : ByteArray} {pc : Nat} (h : ck1 c.data.toList pc 125 = true) : decode c pc = .ok (.lushr, 1) := dec_at (by
  unfold Decoder.instr
  rw [bind_at (u1_at (ck_1 h) (by decide))]
  rfl)
set_option maxRecDepth 100000 in
theorem op_126 {c : ByteArray} {pc : Nat} (h : ck1 c.data.toList pc 126 = true) : decode c pc = .ok (.iand, 1) := dec_at (by
  unfold Decoder.instr
  rw [bind_at (u1_at (ck_1 h) (by decide))]
  rfl)
set_option maxRecDepth 100000 in
theorem op_127 {c : ByteArray} {pc : Nat} (h : ck1 c.data.toList pc 127 = true) : decode c pc = .ok (.land, 1) := dec_at (by
  unfold Decoder.instr
  rw [bind_at (u1_at (ck_1 h) (by decide))]
  rfl)
set_option maxRecDepth 100000 in
theorem op_128 {c : ByteArray} {pc : Nat} (h : ck1 c.data.toList pc 128 = true) : decode c pc = .ok (.ior, 1) := dec_at (by
  unfold Decoder.instr
  rw [bind_at (u1_at (ck_1 h) (by decide))]
  rfl)
set_option maxRecDepth 100000 in
theorem op_129 {c : ByteArray} {pc : Nat} (h : ck1 c.data.toList pc 129 = true) : decode c pc = .ok (.lor, 1) := dec_at (by
  unfold Decoder.instr
  rw [bind_at (u1_at (ck_1 h) (by decide))]
  rfl)
set_option maxRecDepth 100000 in
theorem op_130 {c : ByteArray} {pc : Nat} (h : ck1 c.data.toList pc 130 = true) : decode c pc = .ok (.ixor, 1) := dec_at (by
  unfold Decoder.instr
  rw [bind_at (u1_at (ck_1 h) (by decide))]
  rfl)
set_option maxRecDepth 100000 in
theorem op_131 {c : ByteArray} {pc : Nat} (h : ck1 c.data.toList pc 131 = true) : decode c pc = .ok (.lxor, 1) := dec_at (by
  unfold Decoder.instr
  rw [bind_at (u1_at (ck_1 h) (by decide))]
  rfl)
set_option maxRecDepth 100000 in
theorem op_132 {c : ByteArray} {pc n : Nat} {z : Int} (h : (ck1 c.data.toList pc 132 && (cu1 c.data.toList (pc + 1) n && cs1 c.data.toList (pc + 2) z)) = true) : decode c pc = .ok (.iinc n z, 3) := dec_at (by
  obtain ⟨a, h2⟩ := Bool.and_eq_true_iff.mp h
  obtain ⟨b, d⟩ := Bool.and_eq_true_iff.mp h2
  unfold Decoder.instr
  rw [bind_at (u1_at (ck_1 a) (by decide))]
  show ((do let x ← Reader.u1; let y ← Reader.s1; pure (.iinc x y)) : Decoder Instr) c (pc + 1) = _
  rw [bind_at (u1_c b), bind_at (s1_c d)]
  rfl)
set_option maxRecDepth 100000 in
theorem op_133 {c : ByteArray} {pc : Nat} (h : ck1 c.data.toList pc 133 = true) : decode c pc = .ok (.i2l, 1) := dec_at (by
  unfold Decoder.instr
  rw [bind_at (u1_at (ck_1 h) (by decide))]
  rfl)
set_option maxRecDepth 100000 in
theorem op_136 {c : ByteArray} {pc : Nat} (h : ck1 c.data.toList pc 136 = true) : decode c pc = .ok (.l2i, 1) := dec_at (by
  unfold Decoder.instr
  rw [bind_at (u1_at (ck_1 h) (by decide))]
  rfl)
set_option maxRecDepth 100000 in
theorem op_145 {c : ByteArray} {pc : Nat} (h : ck1 c.data.toList pc 145 = true) : decode c pc = .ok (.i2b, 1) := dec_at (by
  unfold Decoder.instr
  rw [bind_at (u1_at (ck_1 h) (by decide))]
  rfl)
set_option maxRecDepth 100000 in
theorem op_146 {c : ByteArray} {pc : Nat} (h : ck1 c.data.toList pc 146 = true) : decode c pc = .ok (.i2c, 1) := dec_at (by
  unfold Decoder.instr
  rw [bind_at (u1_at (ck_1 h) (by decide))]
  rfl)
set_option maxRecDepth 100000 in
theorem op_148 {c : ByteArray} {pc : Nat} (h : ck1 c.data.toList pc 148 = true) : decode c pc = .ok (.lcmp, 1) := dec_at (by
  unfold Decoder.instr
  rw [bind_at (u1_at (ck_1 h) (by decide))]
  rfl)
set_option maxRecDepth 100000 in
theorem op_153 {c : ByteArray} {pc : Nat} {n : Int} (h : (ck1 c.data.toList pc 153 && cs2 c.data.toList (pc + 1) n) = true) : decode c pc = .ok (.ifCond .eq n, 3) := dec_at (by
  obtain ⟨a, b⟩ := Bool.and_eq_true_iff.mp h
  unfold Decoder.instr
  rw [bind_at (u1_at (ck_1 a) (by decide))]
  show ((do let x ← Reader.s2; pure (.ifCond .eq x)) : Decoder Instr) c (pc + 1) = _
  rw [bind_at (s2_c b)]
  rfl)
set_option maxRecDepth 100000 in
theorem op_154 {c : ByteArray} {pc : Nat} {n : Int} (h : (ck1 c.data.toList pc 154 && cs2 c.data.toList (pc + 1) n) = true) : decode c pc = .ok (.ifCond .ne n, 3) := dec_at (by
  obtain ⟨a, b⟩ := Bool.and_eq_true_iff.mp h
  unfold Decoder.instr
  rw [bind_at (u1_at (ck_1 a) (by decide))]
  show ((do let x ← Reader.s2; pure (.ifCond .ne x)) : Decoder Instr) c (pc + 1) = _
  rw [bind_at (s2_c b)]
  rfl)
set_option maxRecDepth 100000 in
theorem op_155 {c : ByteArray} {pc : Nat} {n : Int} (h : (ck1 c.data.toList pc 155 && cs2 c.data.toList (pc + 1) n) = true) : decode c pc = .ok (.ifCond .lt n, 3) := dec_at (by
  obtain ⟨a, b⟩ := Bool.and_eq_true_iff.mp h
  unfold Decoder.instr
  rw [bind_at (u1_at (ck_1 a) (by decide))]
  show ((do let x ← Reader.s2; pure (.ifCond .lt x)) : Decoder Instr) c (pc + 1) = _
  rw [bind_at (s2_c b)]
  rfl)
set_option maxRecDepth 100000 in
theorem op_156 {c : ByteArray} {pc : Nat} {n : Int} (h : (ck1 c.data.toList pc 156 && cs2 c.data.toList (pc + 1) n) = true) : decode c pc = .ok (.ifCond .ge n, 3) := dec_at (by
  obtain ⟨a, b⟩ := Bool.and_eq_true_iff.mp h
  unfold Decoder.instr
  rw [bind_at (u1_at (ck_1 a) (by decide))]
  show ((do let x ← Reader.s2; pure (.ifCond .ge x)) : Decoder Instr) c (pc + 1) = _
  rw [bind_at (s2_c b)]
  rfl)
set_option maxRecDepth 100000 in
theorem op_158 {c : ByteArray} {pc : Nat} {n : Int} (h : (ck1 c.data.toList pc 158 && cs2 c.data.toList (pc + 1) n) = true) : decode c pc = .ok (.ifCond .le n, 3) := dec_at (by
  obtain ⟨a, b⟩ := Bool.and_eq_true_iff.mp h
  unfold Decoder.instr
  rw [bind_at (u1_at (ck_1 a) (by decide))]
  show ((do let x ← Reader.s2; pure (.ifCond .le x)) : Decoder Instr) c (pc + 1) = _
  rw [bind_at (s2_c b)]
  rfl)
set_option maxRecDepth 100000 in
theorem op_159 {c : ByteArray} {pc : Nat} {n : Int} (h : (ck1 c.data.toList pc 159 && cs2 c.data.toList (pc + 1) n) = true) : decode c pc = .ok (.if_icmp .eq n, 3) := dec_at (by
  obtain ⟨a, b⟩ := Bool.and_eq_true_iff.mp h
  unfold Decoder.instr
  rw [bind_at (u1_at (ck_1 a) (by decide))]
  show ((do let x ← Reader.s2; pure (.if_icmp .eq x)) : Decoder Instr) c (pc + 1) = _
  rw [bind_at (s2_c b)]
  rfl)
set_option maxRecDepth 100000 in
theorem op_160 {c : ByteArray} {pc : Nat} {n : Int} (h : (ck1 c.data.toList pc 160 && cs2 c.data.toList (pc + 1) n) = true) : decode c pc = .ok (.if_icmp .ne n, 3) := dec_at (by
  obtain ⟨a, b⟩ := Bool.and_eq_true_iff.mp h
  unfold Decoder.instr
  rw [bind_at (u1_at (ck_1 a) (by decide))]
  show ((do let x ← Reader.s2; pure (.if_icmp .ne x)) : Decoder Instr) c (pc + 1) = _
  rw [bind_at (s2_c b)]
  rfl)
set_option maxRecDepth 100000 in
theorem op_161 {c : ByteArray} {pc : Nat} {n : Int} (h : (ck1 c.data.toList pc 161 && cs2 c.data.toList (pc + 1) n) = true) : decode c pc = .ok (.if_icmp .lt n, 3) := dec_at (by
  obtain ⟨a, b⟩ := Bool.and_eq_true_iff.mp h
  unfold Decoder.instr
  rw [bind_at (u1_at (ck_1 a) (by decide))]
  show ((do let x ← Reader.s2; pure (.if_icmp .lt x)) : Decoder Instr) c (pc + 1) = _
  rw [bind_at (s2_c b)]
  rfl)
set_option maxRecDepth 100000 in
theorem op_162 {c : ByteArray} {pc : Nat} {n : Int} (h : (ck1 c.data.toList pc 162 && cs2 c.data.toList (pc + 1) n) = true) : decode c pc = .ok (.if_icmp .ge n, 3) := dec_at (by
  obtain ⟨a, b⟩ := Bool.and_eq_true_iff.mp h
  unfold Decoder.instr
  rw [bind_at (u1_at (ck_1 a) (by decide))]
  show ((do let x ← Reader.s2; pure (.if_icmp .ge x)) : Decoder Instr) c (pc + 1) = _
  rw [bind_at (s2_c b)]
  rfl)
set_option maxRecDepth 100000 in
theorem op_163 {c : ByteArray} {pc : Nat} {n : Int} (h : (ck1 c.data.toList pc 163 && cs2 c.data.toList (pc + 1) n) = true) : decode c pc = .ok (.if_icmp .gt n, 3) := dec_at (by
  obtain ⟨a, b⟩ := Bool.and_eq_true_iff.mp h
  unfold Decoder.instr
  rw [bind_at (u1_at (ck_1 a) (by decide))]
  show ((do let x ← Reader.s2; pure (.if_icmp .gt x)) : Decoder Instr) c (pc + 1) = _
  rw [bind_at (s2_c b)]
  rfl)
set_option maxRecDepth 100000 in
theorem op_164 {c : ByteArray} {pc : Nat} {n : Int} (h : (ck1 c.data.toList pc 164 && cs2 c.data.toList (pc + 1) n) = true) : decode c pc = .ok (.if_icmp .le n, 3) := dec_at (by
  obtain ⟨a, b⟩ := Bool.and_eq_true_iff.mp h
  unfold Decoder.instr
  rw [bind_at (u1_at (ck_1 a) (by decide))]
  show ((do let x ← Reader.s2; pure (.if_icmp .le x)) : Decoder Instr) c (pc + 1) = _
  rw [bind_at (s2_c b)]
  rfl)
set_option maxRecDepth 100000 in
theorem op_167 {c : ByteArray} {pc : Nat} {n : Int} (h : (ck1 c.data.toList pc 167 && cs2 c.data.toList (pc + 1) n) = true) : decode c pc = .ok (.goto n, 3) := dec_at (by
  obtain ⟨a, b⟩ := Bool.and_eq_true_iff.mp h
  unfold Decoder.instr
  rw [bind_at (u1_at (ck_1 a) (by decide))]
  show ((do let x ← Reader.s2; pure (.goto x)) : Decoder Instr) c (pc + 1) = _
  rw [bind_at (s2_c b)]
  rfl)
set_option maxRecDepth 100000 in
theorem op_172 {c : ByteArray} {pc : Nat} (h : ck1 c.data.toList pc 172 = true) : decode c pc = .ok (.ireturn, 1) := dec_at (by
  unfold Decoder.instr
  rw [bind_at (u1_at (ck_1 h) (by decide))]
  rfl)
set_option maxRecDepth 100000 in
theorem op_173 {c : ByteArray} {pc : Nat} (h : ck1 c.data.toList pc 173 = true) : decode c pc = .ok (.lreturn, 1) := dec_at (by
  unfold Decoder.instr
  rw [bind_at (u1_at (ck_1 h) (by decide))]
  rfl)
set_option maxRecDepth 100000 in
theorem op_176 {c : ByteArray} {pc : Nat} (h : ck1 c.data.toList pc 176 = true) : decode c pc = .ok (.areturn, 1) := dec_at (by
  unfold Decoder.instr
  rw [bind_at (u1_at (ck_1 h) (by decide))]
  rfl)
set_option maxRecDepth 100000 in
theorem op_177 {c : ByteArray} {pc : Nat} (h : ck1 c.data.toList pc 177 = true) : decode c pc = .ok (.return_, 1) := dec_at (by
  unfold Decoder.instr
  rw [bind_at (u1_at (ck_1 h) (by decide))]
  rfl)
set_option maxRecDepth 100000 in
theorem op_178 {c : ByteArray} {pc : Nat} {n : Nat} (h : (ck1 c.data.toList pc 178 && cu2 c.data.toList (pc + 1) n) = true) : decode c pc = .ok (.getstatic n, 3) := dec_at (by
  obtain ⟨a, b⟩ := Bool.and_eq_true_iff.mp h
  unfold Decoder.instr
  rw [bind_at (u1_at (ck_1 a) (by decide))]
  show ((do let x ← Reader.u2; pure (.getstatic x)) : Decoder Instr) c (pc + 1) = _
  rw [bind_at (u2_c b)]
  rfl)
set_option maxRecDepth 100000 in
theorem op_180 {c : ByteArray} {pc : Nat} {n : Nat} (h : (ck1 c.data.toList pc 180 && cu2 c.data.toList (pc + 1) n) = true) : decode c pc = .ok (.getfield n, 3) := dec_at (by
  obtain ⟨a, b⟩ := Bool.and_eq_true_iff.mp h
  unfold Decoder.instr
  rw [bind_at (u1_at (ck_1 a) (by decide))]
  show ((do let x ← Reader.u2; pure (.getfield x)) : Decoder Instr) c (pc + 1) = _
  rw [bind_at (u2_c b)]
  rfl)
set_option maxRecDepth 100000 in
theorem op_181 {c : ByteArray} {pc : Nat} {n : Nat} (h : (ck1 c.data.toList pc 181 && cu2 c.data.toList (pc + 1) n) = true) : decode c pc = .ok (.putfield n, 3) := dec_at (by
  obtain ⟨a, b⟩ := Bool.and_eq_true_iff.mp h
  unfold Decoder.instr
  rw [bind_at (u1_at (ck_1 a) (by decide))]
  show ((do let x ← Reader.u2; pure (.putfield x)) : Decoder Instr) c (pc + 1) = _
  rw [bind_at (u2_c b)]
  rfl)
set_option maxRecDepth 100000 in
theorem op_182 {c : ByteArray} {pc : Nat} {n : Nat} (h : (ck1 c.data.toList pc 182 && cu2 c.data.toList (pc + 1) n) = true) : decode c pc = .ok (.invokevirtual n, 3) := dec_at (by
  obtain ⟨a, b⟩ := Bool.and_eq_true_iff.mp h
  unfold Decoder.instr
  rw [bind_at (u1_at (ck_1 a) (by decide))]
  show ((do let x ← Reader.u2; pure (.invokevirtual x)) : Decoder Instr) c (pc + 1) = _
  rw [bind_at (u2_c b)]
  rfl)
set_option maxRecDepth 100000 in
theorem op_183 {c : ByteArray} {pc : Nat} {n : Nat} (h : (ck1 c.data.toList pc 183 && cu2 c.data.toList (pc + 1) n) = true) : decode c pc = .ok (.invokespecial n, 3) := dec_at (by
  obtain ⟨a, b⟩ := Bool.and_eq_true_iff.mp h
  unfold Decoder.instr
  rw [bind_at (u1_at (ck_1 a) (by decide))]
  show ((do let x ← Reader.u2; pure (.invokespecial x)) : Decoder Instr) c (pc + 1) = _
  rw [bind_at (u2_c b)]
  rfl)
set_option maxRecDepth 100000 in
theorem op_184 {c : ByteArray} {pc : Nat} {n : Nat} (h : (ck1 c.data.toList pc 184 && cu2 c.data.toList (pc + 1) n) = true) : decode c pc = .ok (.invokestatic n, 3) := dec_at (by
  obtain ⟨a, b⟩ := Bool.and_eq_true_iff.mp h
  unfold Decoder.instr
  rw [bind_at (u1_at (ck_1 a) (by decide))]
  show ((do let x ← Reader.u2; pure (.invokestatic x)) : Decoder Instr) c (pc + 1) = _
  rw [bind_at (u2_c b)]
  rfl)
set_option maxRecDepth 100000 in
theorem op_187 {c : ByteArray} {pc : Nat} {n : Nat} (h : (ck1 c.data.toList pc 187 && cu2 c.data.toList (pc + 1) n) = true) : decode c pc = .ok (.new n, 3) := dec_at (by
  obtain ⟨a, b⟩ := Bool.and_eq_true_iff.mp h
  unfold Decoder.instr
  rw [bind_at (u1_at (ck_1 a) (by decide))]
  show ((do let x ← Reader.u2; pure (.new x)) : Decoder Instr) c (pc + 1) = _
  rw [bind_at (u2_c b)]
  rfl)
set_option maxRecDepth 100000 in
theorem op_189 {c : ByteArray} {pc : Nat} {n : Nat} (h : (ck1 c.data.toList pc 189 && cu2 c.data.toList (pc + 1) n) = true) : decode c pc = .ok (.anewarray n, 3) := dec_at (by
  obtain ⟨a, b⟩ := Bool.and_eq_true_iff.mp h
  unfold Decoder.instr
  rw [bind_at (u1_at (ck_1 a) (by decide))]
  show ((do let x ← Reader.u2; pure (.anewarray x)) : Decoder Instr) c (pc + 1) = _
  rw [bind_at (u2_c b)]
  rfl)
set_option maxRecDepth 100000 in
theorem op_190 {c : ByteArray} {pc : Nat} (h : ck1 c.data.toList pc 190 = true) : decode c pc = .ok (.arraylength, 1) := dec_at (by
  unfold Decoder.instr
  rw [bind_at (u1_at (ck_1 h) (by decide))]
  rfl)
set_option maxRecDepth 100000 in
theorem op_191 {c : ByteArray} {pc : Nat} (h : ck1 c.data.toList pc 191 = true) : decode c pc = .ok (.athrow, 1) := dec_at (by
  unfold Decoder.instr
  rw [bind_at (u1_at (ck_1 h) (by decide))]
  rfl)
set_option maxRecDepth 100000 in
theorem op_198 {c : ByteArray} {pc : Nat} {n : Int} (h : (ck1 c.data.toList pc 198 && cs2 c.data.toList (pc + 1) n) = true) : decode c pc = .ok (.ifnull n, 3) := dec_at (by
  obtain ⟨a, b⟩ := Bool.and_eq_true_iff.mp h
  unfold Decoder.instr
  rw [bind_at (u1_at (ck_1 a) (by decide))]
  show ((do let x ← Reader.s2; pure (.ifnull x)) : Decoder Instr) c (pc + 1) = _
  rw [bind_at (s2_c b)]
  rfl)
set_option maxRecDepth 100000 in
theorem op_199 {c : ByteArray} {pc : Nat} {n : Int} (h : (ck1 c.data.toList pc 199 && cs2 c.data.toList (pc + 1) n) = true) : decode c pc = .ok (.ifnonnull n, 3) := dec_at (by
  obtain ⟨a, b⟩ := Bool.and_eq_true_iff.mp h
  unfold Decoder.instr
  rw [bind_at (u1_at (ck_1 a) (by decide))]
  show ((do let x ← Reader.s2; pure (.ifnonnull x)) : Decoder Instr) c (pc + 1) = _
  rw [bind_at (s2_c b)]
  rfl)
