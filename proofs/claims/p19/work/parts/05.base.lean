/-! ===== numbers: Java's, as integers ===== -/
def wI (x : Int) : Int := (x + 2147483648) % 4294967296 - 2147483648
def wL (x : Int) : Int := (x + 9223372036854775808) % 18446744073709551616 - 9223372036854775808
def InI (x : Int) : Prop := -2147483648 ≤ x ∧ x < 2147483648
def InL (x : Int) : Prop := -9223372036854775808 ≤ x ∧ x < 9223372036854775808
theorem wI_in (x : Int) : InI (wI x) := by unfold InI wI; omega
theorem wL_in (x : Int) : InL (wL x) := by unfold InL wL; omega
theorem wI_id {x : Int} (h1 : -2147483648 ≤ x) (h2 : x < 2147483648) : wI x = x := by unfold wI; omega
theorem wL_id {x : Int} (h1 : -9223372036854775808 ≤ x) (h2 : x < 9223372036854775808) : wL x = x := by unfold wL; omega
def iand (x y : Int) : Int := (Int32.ofInt x &&& Int32.ofInt y).toInt
def ior (x y : Int) : Int := (Int32.ofInt x ||| Int32.ofInt y).toInt
def ixor (x y : Int) : Int := (Int32.ofInt x ^^^ Int32.ofInt y).toInt
def ishl (x y : Int) : Int := (Int32.ofInt x <<< (Int32.ofInt y &&& 31)).toInt
def ishr (x y : Int) : Int := (Int32.ofInt x >>> (Int32.ofInt y &&& 31)).toInt
def iushr (x y : Int) : Int := ((Int32.ofInt x).toUInt32 >>> ((Int32.ofInt y).toUInt32 &&& Int32.toUInt32 31)).toInt32.toInt
def ineg (x : Int) : Int := wI (-x)
def idiv (x y : Int) : Int := (Int32.ofInt x / Int32.ofInt y).toInt
def irem (x y : Int) : Int := (Int32.ofInt x - Int32.ofInt x / Int32.ofInt y * Int32.ofInt y).toInt
def land (x y : Int) : Int := (Int64.ofInt x &&& Int64.ofInt y).toInt
def lor (x y : Int) : Int := (Int64.ofInt x ||| Int64.ofInt y).toInt
def lxor (x y : Int) : Int := (Int64.ofInt x ^^^ Int64.ofInt y).toInt
def lshl (x y : Int) : Int := (Int64.ofInt x <<< ((Int32.ofInt y).toInt64 &&& 63)).toInt
def lshr (x y : Int) : Int := (Int64.ofInt x >>> ((Int32.ofInt y).toInt64 &&& 63)).toInt
def lushr (x y : Int) : Int := ((Int64.ofInt x).toUInt64 >>> (((Int32.ofInt y).toInt64 &&& 63).toUInt64)).toInt64.toInt
def lcmp (x y : Int) : Int := if x < y then -1 else if x = y then 0 else 1
def i2l (x : Int) : Int := x
def l2i (x : Int) : Int := (Int64.ofInt x).toInt32.toInt
def i2b (x : Int) : Int := (Int32.ofInt x).toInt8.toInt32.toInt
theorem ofInt_wI (x : Int) : Int32.ofInt (wI x) = Int32.ofInt x := by
  apply Int32.toInt_inj.mp
  rw [Int32.toInt_ofInt, Int32.toInt_ofInt]
  unfold wI Int.bmod
  simp only [Int.reducePow, Nat.reducePow, Int32.size, UInt32.size]
  split <;> split <;> omega
theorem ofInt_wL (x : Int) : Int64.ofInt (wL x) = Int64.ofInt x := by
  apply Int64.toInt_inj.mp
  rw [Int64.toInt_ofInt, Int64.toInt_ofInt]
  unfold wL Int.bmod
  simp only [Int.reducePow, Nat.reducePow, Int64.size, UInt64.size]
  split <;> split <;> omega
theorem i32_in (x : Int32) : InI x.toInt := ⟨by have := x.le_toInt; simpa using this, by have := x.toInt_lt; simpa using this⟩
theorem i64_in (x : Int64) : InL x.toInt := ⟨by have := x.le_toInt; simpa using this, by have := x.toInt_lt; simpa using this⟩
theorem toInt_I {x : Int} (h : InI x) : (Int32.ofInt x).toInt = x := Int32.toInt_ofInt_of_le (by have := h.1; simpa using this) (by have := h.2; simpa using this)
theorem toInt_L {x : Int} (h : InL x) : (Int64.ofInt x).toInt = x := Int64.toInt_ofInt_of_le (by have := h.1; simpa using this) (by have := h.2; simpa using this)
theorem inj_I {x y : Int} (hx : InI x) (hy : InI y) : Int32.ofInt x = Int32.ofInt y ↔ x = y := ⟨fun h => by rw [← toInt_I hx, ← toInt_I hy, h], fun h => by rw [h]⟩
theorem lt_I {x y : Int} (hx : InI x) (hy : InI y) : Int32.ofInt x < Int32.ofInt y ↔ x < y := by rw [Int32.lt_iff_toInt_lt, toInt_I hx, toInt_I hy]
theorem le_I {x y : Int} (hx : InI x) (hy : InI y) : Int32.ofInt x ≤ Int32.ofInt y ↔ x ≤ y := by rw [Int32.le_iff_toInt_le, toInt_I hx, toInt_I hy]
theorem inj_L {x y : Int} (hx : InL x) (hy : InL y) : Int64.ofInt x = Int64.ofInt y ↔ x = y := ⟨fun h => by rw [← toInt_L hx, ← toInt_L hy, h], fun h => by rw [h]⟩
theorem lt_L {x y : Int} (hx : InL x) (hy : InL y) : Int64.ofInt x < Int64.ofInt y ↔ x < y := by rw [Int64.lt_iff_toInt_lt, toInt_L hx, toInt_L hy]
theorem clamp_I {x : Int} (hx : InI x) (h0 : 0 ≤ x) : ((Int32.ofInt x).toNatClampNeg : Int) = x := by
  show (((Int32.ofInt x).toInt.toNat : Nat) : Int) = x
  rw [toInt_I hx]; omega
theorem clampN_I {x : Int} (hx : InI x) (h0 : 0 ≤ x) : (Int32.ofInt x).toNatClampNeg = x.toNat := by
  show (Int32.ofInt x).toInt.toNat = _
  rw [toInt_I hx]
theorem neg_I {x : Int} (hx : InI x) : Int32.ofInt x < 0 ↔ x < 0 := lt_I hx (y := 0) (by unfold InI; omega)
theorem zero_I {x : Int} (hx : InI x) : Int32.ofInt x = 0 ↔ x = 0 := inj_I hx (y := 0) (by unfold InI; omega)

/-! ===== values, memory, and what a heap must be ===== -/
/-- a value: 0 int, 1 long, 2 reference (0 null, from 1 on the cells that the law makes, below 0 what stands there before) -/
abbrev V : Type := Nat × Int
abbrev vI (x : Int) : V := (0, x)
abbrev vL (x : Int) : V := (1, x)
abbrev vR (x : Int) : V := (2, x)
abbrev En : Type := va_G × Nat × (Nat → ClassId) × (Nat → Nat)
abbrev eB (E : En) : Nat := E.2.1
def e_rf (E : En) (x : Int) : Option Nat := if x = 0 then none else if 0 < x then some (E.2.1 + (x - 1).toNat) else some (E.2.2.2 (-x).toNat)
def e_v (E : En) (v : V) : Value := match v.1 with
  | 0 => .int (Int32.ofInt v.2)
  | 1 => .long (Int64.ofInt v.2)
  | _ => va_rf (e_rf E v.2)
def vok (v : V) : Prop := match v.1 with
  | 0 => InI v.2
  | 1 => InL v.2
  | _ => True
def vcat (v : V) : Nat := match v.1 with
  | 1 => 2
  | _ => 1
/-- memory: of each cell its kind (class, or array's kind, with length), what it holds, how many there are -/
abbrev Mem : Type := (Int → Nat × Nat) × (Int → Int → Int) × Nat
abbrev mK (M : Mem) (a : Int) : Nat × Nat := M.1 a
abbrev mG (M : Mem) (a i : Int) : Int := M.2.1 a i
abbrev mN (M : Mem) : Nat := M.2.2
def mS (M : Mem) (a i x : Int) : Mem := (M.1, fun b j => if b = a ∧ j = i then x else M.2.1 b j, M.2.2)
def mNew (M : Mem) (kd : Nat × Nat) : Mem := (fun b => if b = (M.2.2 : Int) + 1 then kd else M.1 b, fun b j => if b = (M.2.2 : Int) + 1 then 0 else M.2.1 b j, M.2.2 + 1)

def ftags : List (List Nat) := [[2, 2, 2, 2, 2, 0], [2, 2, 2, 2, 0, 0, 0, 0], [2, 2, 0, 2, 0, 2, 2, 0, 0, 0, 0, 0], [2, 2, 2, 2, 2, 2, 0, 0], [2, 2, 2, 2, 0, 2, 2, 2, 2, 2, 0, 2], [2, 2, 2, 2, 2, 0], [2, 1, 2, 2, 2, 0, 0, 0, 2, 2, 2, 0, 2, 0, 0, 2, 2, 2, 0], [2, 0, 0], [2, 2, 2, 2, 2], [0, 2, 2, 2, 2, 2, 2, 2, 2, 2, 2, 2, 2, 2, 2, 2, 2, 2, 2, 2, 2, 2, 2, 2, 2, 2, 2, 2, 2, 0, 0, 0, 0, 0, 1, 0, 0, 0, 0, 2, 0, 2, 2, 2, 2, 2, 0, 2, 0, 0, 0, 2, 0, 0, 0, 2, 2, 0, 2, 2, 2, 2, 2]]
def nfl (c : Nat) : Nat := (ftags.getD c []).length
def ftag (c k : Nat) : Nat := (ftags.getD c []).getD k 2
def atag (c : Nat) : Nat := if c < 13 then 0 else if c = 13 then 1 else 2
def aty (c : Nat) : FieldType := match c with
  | 10 => .int
  | 11 => .boolean
  | 12 => .byte
  | 13 => .long
  | 14 => .object "VillageStories$Text"
  | 15 => .object "VillageStories$Told"
  | _ => .object "VillageStories$WorldSet"
/-- the cell's tag at a place -/
def mT (M : Mem) (a : Int) (k : Nat) : Nat := if (mK M a).1 < 10 then ftag (mK M a).1 k else atag (mK M a).1
def MOK (M : Mem) : Prop := (∀ (a : Int) (k : Nat), vok (mT M a k, mG M a k)) ∧ (∀ a : Int, (mK M a).1 < 17 → 0 < a ∧ a ≤ (mN M : Int)) ∧ ∀ a : Int, (mK M a).2 < 2147483648
def acell (E : En) (M : Mem) (a : Int) : vp_A := ((mK M a).2, match atag (mK M a).1 with
  | 0 => .inl (fun j => Int32.ofInt (mG M a j))
  | 1 => .inr (.inl (fun j => Int64.ofInt (mG M a j)))
  | _ => .inr (.inr (.inr (.inr (fun j => e_rf E (mG M a j))))))
def cellOf (E : En) (M : Mem) (a : Int) : va_E := if (mK M a).1 < 10 then .inr ((mK M a).1, (List.range (nfl (mK M a).1)).map fun k => e_v E (ftag (mK M a).1 k, mG M a k)) else .inl (E.2.2.1 (mK M a).1, acell E M a)
def Rep (E : En) (M : Mem) (H : Heap) : Prop := H.size = eB E + mN M ∧ ∀ q : Nat, q < mN M → (mK M ((q : Int) + 1)).1 < 17 ∧ va_at E.1 vwCl (eB E + q, cellOf E M ((q : Int) + 1)) H
abbrev AE (E : En) : Nat → Prop := fun q => eB E ≤ q
def tysOf (E : En) : List (ClassId × FieldType) := (List.range 7).map fun k => (E.2.2.1 (10 + k), aty (10 + k))
theorem tysOf_at (E : En) {c : Nat} (h1 : 10 ≤ c) (h2 : c < 17) : (tysOf E)[c - 10]? = some (E.2.2.1 c, aty c) := by
  have h3 : c - 10 < 7 := by omega
  simp [tysOf, h3, show 10 + (c - 10) = c by omega]

def sLen : List Nat := [3, 4, 5, 4, 3, 3, 2, 2, 4, 5, 4, 3, 5, 3]
def sByt : List (List Int32) := [[97, 108, 108], [115, 111, 109, 101], [108, 101, 97, 115, 116], [109, 111, 115, 116], [110, 111, 116], [97, 110, 100], [111, 114], [105, 102], [115, 97, 109, 101], [114, 101, 97, 99, 104], [116, 114, 101, 101], [109, 97, 110], [104, 111, 117, 115, 101], [100, 97, 121]]
def sIdx : List Nat := [118, 124, 126, 128, 130, 132, 134, 136, 138, 140, 142, 207, 209, 211]
def sTx : List String := ["all", "some", "least", "most", "not", "and", "or", "if", "same", "reach", "tree", "man", "house", "day"]
def patL : List Int := [-6148914691236517206, -3689348814741910324, -1085102592571150096, -71777214294589696, -281470681808896, -4294967296]
def ordL : List Int := [0, 1, 2, 1, 0, 2, 0, 2, 1, 1, 2, 0, 2, 0, 1, 2, 1, 0]
def ordN : List Int := [1, 1, 2, 6]
def nestM : List (String × Nat × MethodName) := [("VillageStories$Solver", 11, ⟨"VillageStories$Told", "<init>", "()V"⟩), ("VillageStories$Told", 11, ⟨"VillageStories$Shape", "<init>", "()V"⟩), ("VillageStories$Solver", 20, ⟨"VillageStories$Judge", "<init>", "()V"⟩), ("VillageStories$Solver", 27, ⟨"VillageStories$OtherNumbers", "<init>", "()V"⟩), ("VillageStories$OtherNumbers", 20, ⟨"VillageStories$WorldSet", "<init>", "()V"⟩), ("VillageStories$Solver", 42, ⟨"VillageStories$WorldSet", "<init>", "()V"⟩), ("VillageStories$Solver", 55, ⟨"VillageStories$Shape", "<init>", "()V"⟩), ("VillageStories", 23, ⟨"VillageStories$Reader", "<init>", "()V"⟩), ("VillageStories", 38, ⟨"VillageStories$Told", "<init>", "()V"⟩)]
/-- the tables' words that don't keep by rule -/
def NwF (U : State) : Prop := (∀ q ∈ nestM, va_Nw (.methodLinkNest q.1 q.2.1 q.2.2 "VillageStories") U) ∧ va_Nw (.fieldLinkNest "VillageStories$WorldSet" 57 "VillageStories" "PATTERNS" "[J" "VillageStories") U ∧ va_AO "VillageStories$Text" U ∧ va_AO "VillageStories$Told" U ∧ va_AO "VillageStories$WorldSet" U
theorem NwF.same {u U : State} (hv : U.vm = u.vm) (h : NwF u) : NwF U := by
  have hA : u.vm.Alike U.vm := by rw [hv]; exact Vm.Alike.refl _
  exact ⟨fun q hq => va_Nw.same rfl hv.symm (h.1 q hq), va_Nw.same rfl hv.symm h.2.1, h.2.2.1.moved hA, h.2.2.2.1.moved hA, h.2.2.2.2.moved hA⟩
theorem NwF.warm {s U : State} (hW : s.WarmedH U.vm) (h : NwF s) : NwF U :=
  ⟨fun q hq => va_Nw.warmM hW (h.1 q hq), va_Nw.warmF hW h.2.1, h.2.2.1.moved hW.alike, h.2.2.2.1.moved hW.alike, h.2.2.2.2.moved hW.alike⟩
/-- what stands there before the law, outside of what it makes: static rows, text constants -/
def SpF (E : En) (U : State) (H : Heap) : Prop :=
  (va_Z "VillageStories" "PATTERNS" "[J" (.ref (E.2.2.2 1)) (AE E) U H ∧ va_T .long (E.2.2.2 1) 6 (fun j => .long (Int64.ofInt (patL.getD j 0))) (AE E) U H) ∧
  (va_Z "VillageStories$OtherNumbers" "ORDERS" "[I" (.ref (E.2.2.2 2)) (AE E) U H ∧ va_T .int (E.2.2.2 2) 18 (fun j => .int (Int32.ofInt (ordL.getD j 0))) (AE E) U H) ∧
  (va_Z "VillageStories$OtherNumbers" "ORDERS_OF" "[I" (.ref (E.2.2.2 3)) (AE E) U H ∧ va_T .int (E.2.2.2 3) 4 (fun j => .int (Int32.ofInt (ordN.getD j 0))) (AE E) U H) ∧
  va_Z "java/lang/String" "COMPACT_STRINGS" "Z" (.int 1) (AE E) U H ∧ (va_Z "jdk/internal/util/Preconditions" "SIOOBE_FORMATTER" "Ljava/util/function/BiFunction;" .null (AE E) U H ∨ va_Z "jdk/internal/util/Preconditions" "SIOOBE_FORMATTER" "Ljava/util/function/BiFunction;" (.ref (E.2.2.2 60)) (AE E) U H) ∧
  vk_S 14 sLen sByt (fun i => E.2.2.2 (100 + i)) (fun i => E.2.2.2 (200 + i)) (AE E) U H ∧ (∀ i : Nat, i < 14 → vk_R "VillageStories$Reader" (sIdx.getD i 0) (sTx.getD i "") (E.2.2.2 (100 + i)) U) ∧ NwF U
theorem SpF.same {E : En} {u U : State} {H : Heap} (hv : U.vm = u.vm) (h : SpF E u H) : SpF E U H := by
  have hA : u.vm.Alike U.vm := by rw [hv]; exact Vm.Alike.refl _
  obtain ⟨⟨a1, a2⟩, ⟨b1, b2⟩, ⟨c1, c2⟩, d1, d2, e1, f1, g1⟩ := h
  exact ⟨⟨a1.moved hA, a2.moved hA⟩, ⟨b1.moved hA, b2.moved hA⟩, ⟨c1.moved hA, c2.moved hA⟩, d1.moved hA, d2.imp (va_Z.moved hA) (va_Z.moved hA), e1.moved hA, fun i hi => vk_R.same hv (f1 i hi), g1.same hv⟩
theorem SpF.warm {E : En} {s U : State} {H : Heap} (hW : s.WarmedH U.vm) (h : SpF E s H) : SpF E U H := by
  have hA : s.vm.Alike U.vm := hW.alike
  obtain ⟨⟨a1, a2⟩, ⟨b1, b2⟩, ⟨c1, c2⟩, d1, d2, e1, f1, g1⟩ := h
  exact ⟨⟨a1.moved hA, a2.moved hA⟩, ⟨b1.moved hA, b2.moved hA⟩, ⟨c1.moved hA, c2.moved hA⟩, d1.moved hA, d2.imp (va_Z.moved hA) (va_Z.moved hA), e1.moved hA, fun i hi => vk_R.warm hW (f1 i hi), g1.warm hW⟩
theorem SpF.kept {E : En} {U : State} {H H1 : Heap} (h : SpF E U H) (hq : ∀ a : Nat, a < H.size → ¬ AE E a → H1[a]? = H[a]?) : SpF E U H1 := by
  obtain ⟨⟨a1, a2⟩, ⟨b1, b2⟩, ⟨c1, c2⟩, d1, d2, e1, f1, g1⟩ := h
  exact ⟨⟨a1.kept hq, a2.kept hq⟩, ⟨b1.kept hq, b2.kept hq⟩, ⟨c1.kept hq, c2.kept hq⟩, d1.kept hq, d2.imp (fun z => z.kept hq) (fun z => z.kept hq), e1.kept hq, f1, g1⟩

/-! ===== memory and heap ===== -/
theorem e_rf_pos {E : En} {x : Int} (h : 0 < x) : e_rf E x = some (eB E + (x - 1).toNat) := by
  unfold e_rf
  rw [if_neg (by omega), if_pos h]
theorem e_v_R {E : En} {x : Int} (h : 0 < x) : e_v E (vR x) = .ref (eB E + (x - 1).toNat) := by
  show va_rf (e_rf E x) = _
  rw [e_rf_pos h]; rfl
theorem Rep.at {E : En} {M : Mem} {H : Heap} (h : Rep E M H) (hM : MOK M) {a : Int} (hk : (mK M a).1 < 17) : va_at E.1 vwCl (eB E + (a - 1).toNat, cellOf E M a) H := by
  obtain ⟨h0, h1⟩ := hM.2.1 a hk
  have h2 := (h.2 (a - 1).toNat (by omega)).2
  rw [show (((a - 1).toNat : Nat) : Int) + 1 = a by omega] at h2
  exact h2
theorem cellOf_obj {E : En} {M : Mem} {a : Int} {c : Nat} (h : (mK M a).1 = c) (hc : c < 10) : cellOf E M a = .inr (c, (List.range (nfl c)).map fun k => e_v E (ftag c k, mG M a k)) := by
  subst h; unfold cellOf; rw [if_pos hc]
theorem cellOf_arr {E : En} {M : Mem} {a : Int} {c : Nat} (h : (mK M a).1 = c) (hc : 10 ≤ c) : cellOf E M a = .inl (E.2.2.1 c, acell E M a) := by
  subst h; unfold cellOf; rw [if_neg (by omega)]
/-- one cell changes -/
theorem Rep.upd {E : En} {M M' : Mem} {H H1 : Heap} {a : Int} (h : Rep E M H) (hM : MOK M) (hk : (mK M a).1 < 17) (hK : M'.1 = M.1) (hN : M'.2.2 = M.2.2) (ho : ∀ b, b ≠ a → ∀ i, mG M' b i = mG M b i) (hz : H1.size = H.size) (hq : ∀ q, q ≠ eB E + (a - 1).toNat → H1[q]? = H[q]?) (he : va_at E.1 vwCl (eB E + (a - 1).toNat, cellOf E M' a) H1) : Rep E M' H1 := by
  refine ⟨by rw [hz, h.1]; show _ + M.2.2 = _ + M'.2.2; rw [hN], fun q hq1 => ?_⟩
  have hq2 : q < mN M := by show q < M.2.2; rw [← hN]; exact hq1
  obtain ⟨h1, h2⟩ := h.2 q hq2
  refine ⟨by show (M'.1 _).1 < 17; rw [hK]; exact h1, ?_⟩
  by_cases e : (q : Int) + 1 = a
  · rw [e, show eB E + q = eB E + (a - 1).toNat by omega]
    exact he
  · have e2 : cellOf E M' ((q : Int) + 1) = cellOf E M ((q : Int) + 1) := by
      unfold cellOf acell mK
      rw [hK]
      simp only [ho _ e]
    rw [e2]
    refine h2.kept (hq _ ?_)
    have := (hM.2.1 a hk).1
    show eB E + q ≠ _
    omega
theorem MOK.upd {M : Mem} (h : MOK M) {a i x : Int} (hi : 0 ≤ i) (hx : vok (mT M a i.toNat, x)) : MOK (mS M a i x) := by
  refine ⟨fun b k => ?_, h.2.1, h.2.2⟩
  show vok (mT M b k, if b = a ∧ (k : Int) = i then x else M.2.1 b k)
  by_cases e : b = a ∧ (k : Int) = i
  · rw [if_pos e, e.1, show k = i.toNat by omega]; exact hx
  · rw [if_neg e]; exact h.1 b k
theorem MOK.new {M : Mem} (h : MOK M) {kd : Nat × Nat} (hl : kd.2 < 2147483648) : MOK (mNew M kd) := by
  refine ⟨fun b k => ?_, fun b hb => ?_, fun b => ?_⟩
  · show vok (mT (mNew M kd) b k, if b = (M.2.2 : Int) + 1 then 0 else M.2.1 b k)
    by_cases e : b = (M.2.2 : Int) + 1
    · rw [if_pos e]
      unfold vok
      split
      · unfold InI; omega
      · unfold InL; omega
      · trivial
    · rw [if_neg e]
      have e2 : mT (mNew M kd) b k = mT M b k := by
        show (if ((if b = (M.2.2 : Int) + 1 then kd else M.1 b) : Nat × Nat).1 < 10 then _ else _) = _
        unfold mT mK
        show (if ((if b = (M.2.2 : Int) + 1 then kd else M.1 b) : Nat × Nat).1 < 10 then ftag (if b = (M.2.2 : Int) + 1 then kd else M.1 b : Nat × Nat).1 k else atag (if b = (M.2.2 : Int) + 1 then kd else M.1 b : Nat × Nat).1) = _
        rw [if_neg e]
      rw [e2]
      exact h.1 b k
  · change (if b = (M.2.2 : Int) + 1 then kd else M.1 b : Nat × Nat).1 < 17 at hb
    show 0 < b ∧ b ≤ ((M.2.2 + 1 : Nat) : Int)
    by_cases e : b = (M.2.2 : Int) + 1
    · omega
    · rw [if_neg e] at hb
      have := h.2.1 b hb
      change 0 < b ∧ b ≤ (M.2.2 : Int) at this
      omega
  · show (if b = (M.2.2 : Int) + 1 then kd else M.1 b : Nat × Nat).2 < _
    split
    · exact hl
    · exact h.2.2 b
/-- a new cell -/
theorem Rep.new {E : En} {M : Mem} {H H1 : Heap} {kd : Nat × Nat} (h : Rep E M H) (hk : kd.1 < 17) (hz : H1.size = H.size + 1) (hq : ∀ q, q < H.size → H1[q]? = H[q]?) (he : va_at E.1 vwCl (H.size, cellOf E (mNew M kd) ((mN M : Int) + 1)) H1) : Rep E (mNew M kd) H1 := by
  refine ⟨by rw [hz, h.1]; rfl, fun q hq1 => ?_⟩
  have hq2 : q < M.2.2 + 1 := hq1
  by_cases e : q = M.2.2
  · subst e
    refine ⟨?_, ?_⟩
    · show (if ((M.2.2 : Nat) : Int) + 1 = (M.2.2 : Int) + 1 then kd else M.1 _ : Nat × Nat).1 < 17
      rw [if_pos rfl]; exact hk
    · rw [h.1] at he
      exact he
  · obtain ⟨h1, h2⟩ := h.2 q (show q < M.2.2 by omega)
    have e1 : ¬ ((q : Int) + 1 = (M.2.2 : Int) + 1) := by omega
    refine ⟨?_, ?_⟩
    · show (if (q : Int) + 1 = (M.2.2 : Int) + 1 then kd else M.1 _ : Nat × Nat).1 < 17
      rw [if_neg e1]; exact h1
    · have e2 : cellOf E (mNew M kd) ((q : Int) + 1) = cellOf E M ((q : Int) + 1) := by
        have k1 : mK (mNew M kd) ((q : Int) + 1) = mK M ((q : Int) + 1) := if_neg e1
        have k2 : ∀ i, mG (mNew M kd) ((q : Int) + 1) i = mG M ((q : Int) + 1) i := fun i => if_neg e1
        unfold cellOf acell
        rw [k1]
        simp only [k2]
      rw [e2]
      refine h2.kept (hq _ ?_)
      show eB E + q < H.size
      rw [h.1]
      show eB E + q < eB E + M.2.2
      omega

