/-! ===== words of the functions that the methods are ===== -/
def FU : Nat := 70000
theorem ite_p {α : Type} {P : Prop} [Decidable P] {a b : Option α} {y : α} (h : (if P then a else b) = some y) (hc : P) : a = some y := by rw [if_pos hc] at h; exact h
theorem ite_n {α : Type} {P : Prop} [Decidable P] {a b : Option α} {y : α} (h : (if P then a else b) = some y) (hc : ¬ P) : b = some y := by rw [if_neg hc] at h; exact h
def gK (c : Nat) (M : Mem) (a : Int) : Option Unit := if (mK M a).1 = c then some () else none
theorem gK_so {c : Nat} {M : Mem} {a : Int} {u : Unit} (h : gK c M a = some u) : (mK M a).1 = c := (ite_so h).1
def zR (x : Int) : Option Int := if x = 0 ∨ x = 1 then some x else none
def dQ (x y : Int) : Option Int := if y = 0 then none else some (idiv x y)
def dM (x y : Int) : Option Int := if y = 0 then none else some (irem x y)
def lus (x y : Int) : Int := ((Int64.ofInt x).toUInt64 >>> ((Int32.ofInt y).toInt64.toUInt64 &&& Int64.toUInt64 63)).toInt64.toInt
/-- a text constant's length, its byte -/
def sLn (w : Int) : Option Int := if -113 ≤ w ∧ w ≤ -100 then some ((sLen.getD (-100 - w).toNat 0 : Nat) : Int) else none
def sAt (w i : Int) : Option Int := if (-113 ≤ w ∧ w ≤ -100) ∧ 0 ≤ i ∧ i < ((sLen.getD (-100 - w).toNat 0 : Nat) : Int) then some ((sByt.getD (-100 - w).toNat []).getD i.toNat 0).toInt else none
section GX
variable {E : En} {p : Program} {l : Launch} {e : Env} {R : Room} {s : State} {m : MethodId} {args : Array Value} {below : List Frame} {meth : Method} {c : Code} {Q : State → Prop} {cc : ByteArray} {nL : Nat} {own : String} {ret : Option FieldType} {nm : String} {k n pc : Nat} {M M1 : Mem} {ls : List (Nat × V)} {st : List V}
theorem r_eq {t : Nat} {x y : Int} (h : x = y) (kk : G E p l e R s m args below meth c nL Q k n M pc ls ((t, y) :: st)) : G E p l e R s m args below meth c nL Q k n M pc ls ((t, x) :: st) := by rw [h]; exact kk
theorem r_idivq {x y v : Int} (F : Fx E p s m args meth c cc nL own ret nm) (h : dQ x y = some v) (d : decode cc pc = .ok (.idiv, 1)) (kk : G E p l e R s m args below meth c nL Q k n M (pc + 1) ls (vI v :: st)) : G E p l e R s m args below meth c nL Q k n M pc ls (vI y :: vI x :: st) := by
  unfold dQ at h
  by_cases hy : y = 0
  · rw [if_pos hy] at h; cases h
  · rw [if_neg hy] at h; obtain rfl := Option.some.inj h; exact r_idiv F hy d kk
theorem r_iremq {x y v : Int} (F : Fx E p s m args meth c cc nL own ret nm) (h : dM x y = some v) (d : decode cc pc = .ok (.irem, 1)) (kk : G E p l e R s m args below meth c nL Q k n M (pc + 1) ls (vI v :: st)) : G E p l e R s m args below meth c nL Q k n M pc ls (vI y :: vI x :: st) := by
  unfold dM at h
  by_cases hy : y = 0
  · rw [if_pos hy] at h; cases h
  · rw [if_neg hy] at h; obtain rfl := Option.some.inj h; exact r_irem F hy d kk
theorem r_lushr {x y : Int} (F : Fx E p s m args meth c cc nL own ret nm) (d : decode cc pc = .ok (.lushr, 1)) (kk : G E p l e R s m args below meth c nL Q k n M (pc + 1) ls (vL (lus x y) :: st)) : G E p l e R s m args below meth c nL Q k n M pc ls (vI y :: vL x :: st) := by
  intro hls hst hM H locs lsA cells slots hR hS hl hc hs
  have h := kk hls (vst1 (i64_in _) (vtl (vtl hst))) hM H locs lsA cells slots hR hS hl hc hs
  exact lv_lushr (v := Int64.ofInt (lus x y)) F.1 F.2.1 d (by rw [lus, Int64.ofInt_toInt]) h
theorem r_ldcw {x : Int} {i : Nat} (F : Fx E p s m args meth c cc nL own ret nm) (hx : iin x = true) (hw : Cond.constant own i (Int32.ofInt x) ∈ tblG) (d : decode cc pc = .ok (.ldc_w i, 3)) (kk : G E p l e R s m args below meth c nL Q k n M (pc + 3) ls (vI x :: st)) : G E p l e R s m args below meth c nL Q k n M pc ls st := by
  intro hls hst hM H locs lsA cells slots hR hS hl hc hs
  have h := kk hls (vst1 (iin_so hx) hst) hM H locs lsA cells slots hR hS hl hc hs
  exact lv_ldcw (v := Int32.ofInt x) F.1 F.2.1 F.2.2.2.1 (F.2.2.2.2.1 _ hw) d h
theorem r_ldcv {x : Int} {i : Nat} {v : Int32} (F : Fx E p s m args meth c cc nL own ret nm) (hx : iin x = true) (hv : v = Int32.ofInt x) (hw : Cond.constant own i v ∈ tblG) (d : decode cc pc = .ok (.ldc i, 2)) (kk : G E p l e R s m args below meth c nL Q k n M (pc + 2) ls (vI x :: st)) : G E p l e R s m args below meth c nL Q k n M pc ls st := r_ldc F hx (hv ▸ hw) d kk
theorem r_ldcwv {x : Int} {i : Nat} {v : Int32} (F : Fx E p s m args meth c cc nL own ret nm) (hx : iin x = true) (hv : v = Int32.ofInt x) (hw : Cond.constant own i v ∈ tblG) (d : decode cc pc = .ok (.ldc_w i, 3)) (kk : G E p l e R s m args below meth c nL Q k n M (pc + 3) ls (vI x :: st)) : G E p l e R s m args below meth c nL Q k n M pc ls st := r_ldcw F hx (hv ▸ hw) d kk
theorem r_ldc2v {x : Int} {i : Nat} {v : Int64} (F : Fx E p s m args meth c cc nL own ret nm) (hx : InL x) (hv : v = Int64.ofInt x) (hw : Cond.constantLong own i v ∈ tblG) (d : decode cc pc = .ok (.ldc2_w i, 3)) (kk : G E p l e R s m args below meth c nL Q k n M (pc + 3) ls (vL x :: st)) : G E p l e R s m args below meth c nL Q k n M pc ls st := r_ldc2 F hx (hv ▸ hw) d kk
theorem r_getT {t : Nat} {a v : Int} {ci j idx N : Nat} {C : String} {T : u_T} {ty : Nat → FieldType} (ht : ftag ci j = t) (hC : ClOk ci C T N ty) (F : Fx E p s m args meth c cc nL own ret nm) (hj : j < N) (h : gF ci j M a = some v) (hw : Cond.fieldLink own idx C (T j).2.1 (T j).2.2.1 ∈ tblG) (d : decode cc pc = .ok (.getfield idx, 3)) (kk : G E p l e R s m args below meth c nL Q k n M (pc + 3) ls ((t, v) :: st)) : G E p l e R s m args below meth c nL Q k n M pc ls (vR a :: st) := by
  subst ht
  exact r_get hC F hj h hw d kk
theorem r_newO {ci idx N : Nat} {C : String} {T : u_T} {ty : Nat → FieldType} {q : Int × Mem} (hC : ClOk ci C T N ty) (hd0 : ∀ j, j < N → defaultValue (ty j) = match ftag ci j with | 0 => .int 0 | 1 => .long 0 | _ => .null) (F : Fx E p s m args meth c cc nL own ret nm) (hq : some (nO ci M) = some q) (h1 : Cond.classLink own idx C ∈ tblG) (h2 : Cond.instantiable C N ∈ tblG) (h3 : Cond.initialized C ∈ tblG) (d : decode cc pc = .ok (.new idx, 3)) (hn : 1 ≤ k ∧ N ≤ n) (kk : G E p l e R s m args below meth c nL Q (k - 1) (n - N) q.2 (pc + 3) ls (vR q.1 :: st)) : G E p l e R s m args below meth c nL Q k n M pc ls st := by
  obtain rfl := Option.some.inj hq
  have h := r_new hC hd0 F h1 h2 h3 d kk
  rw [Nat.sub_add_cancel hn.1, Nat.sub_add_cancel hn.2] at h
  exact h
theorem r_newaK10 {x : Int} {B : Nat} {q : Int × Mem} (hB : B ≤ 100000) (F : Fx E p s m args meth c cc nL own ret nm) (h : nA 10 B M x = some q) (hw : Cond.arrayClass .int ∈ tblG) (d : decode cc pc = .ok (.newarray .int, 2)) (hn : 1 ≤ k ∧ B ≤ n) (kk : G E p l e R s m args below meth c nL Q (k - 1) (n - B) q.2 (pc + 2) ls (vR q.1 :: st)) : G E p l e R s m args below meth c nL Q k n M pc ls (vI x :: st) := by
  have h := r_newa10 (a := q.1) (M1 := q.2) hB F h hw d kk
  rw [Nat.sub_add_cancel hn.1, Nat.sub_add_cancel hn.2] at h
  exact h
theorem r_newaK11 {x : Int} {B : Nat} {q : Int × Mem} (hB : B ≤ 100000) (F : Fx E p s m args meth c cc nL own ret nm) (h : nA 11 B M x = some q) (hw : Cond.arrayClass .boolean ∈ tblG) (d : decode cc pc = .ok (.newarray .boolean, 2)) (hn : 1 ≤ k ∧ B ≤ n) (kk : G E p l e R s m args below meth c nL Q (k - 1) (n - B) q.2 (pc + 2) ls (vR q.1 :: st)) : G E p l e R s m args below meth c nL Q k n M pc ls (vI x :: st) := by
  have h := r_newa11 (a := q.1) (M1 := q.2) hB F h hw d kk
  rw [Nat.sub_add_cancel hn.1, Nat.sub_add_cancel hn.2] at h
  exact h
theorem r_newaK12 {x : Int} {B : Nat} {q : Int × Mem} (hB : B ≤ 100000) (F : Fx E p s m args meth c cc nL own ret nm) (h : nA 12 B M x = some q) (hw : Cond.arrayClass .byte ∈ tblG) (d : decode cc pc = .ok (.newarray .byte, 2)) (hn : 1 ≤ k ∧ B ≤ n) (kk : G E p l e R s m args below meth c nL Q (k - 1) (n - B) q.2 (pc + 2) ls (vR q.1 :: st)) : G E p l e R s m args below meth c nL Q k n M pc ls (vI x :: st) := by
  have h := r_newa12 (a := q.1) (M1 := q.2) hB F h hw d kk
  rw [Nat.sub_add_cancel hn.1, Nat.sub_add_cancel hn.2] at h
  exact h
theorem r_newaK13 {x : Int} {B : Nat} {q : Int × Mem} (hB : B ≤ 100000) (F : Fx E p s m args meth c cc nL own ret nm) (h : nA 13 B M x = some q) (hw : Cond.arrayClass .long ∈ tblG) (d : decode cc pc = .ok (.newarray .long, 2)) (hn : 1 ≤ k ∧ B ≤ n) (kk : G E p l e R s m args below meth c nL Q (k - 1) (n - B) q.2 (pc + 2) ls (vR q.1 :: st)) : G E p l e R s m args below meth c nL Q k n M pc ls (vI x :: st) := by
  have h := r_newa13 (a := q.1) (M1 := q.2) hB F h hw d kk
  rw [Nat.sub_add_cancel hn.1, Nat.sub_add_cancel hn.2] at h
  exact h
theorem r_newqK14 {x : Int} {B idx : Nat} {q : Int × Mem} (hB : B ≤ 100000) (F : Fx E p s m args meth c cc nL own ret nm) (h : nA 14 B M x = some q) (hw : Cond.classLink own idx "VillageStories$Text" ∈ tblG) (d : decode cc pc = .ok (.anewarray idx, 3)) (hn : 1 ≤ k ∧ B ≤ n) (kk : G E p l e R s m args below meth c nL Q (k - 1) (n - B) q.2 (pc + 3) ls (vR q.1 :: st)) : G E p l e R s m args below meth c nL Q k n M pc ls (vI x :: st) := by
  have h := r_newq14 (a := q.1) (M1 := q.2) hB F h hw d kk
  rw [Nat.sub_add_cancel hn.1, Nat.sub_add_cancel hn.2] at h
  exact h
theorem r_newqK15 {x : Int} {B idx : Nat} {q : Int × Mem} (hB : B ≤ 100000) (F : Fx E p s m args meth c cc nL own ret nm) (h : nA 15 B M x = some q) (hw : Cond.classLink own idx "VillageStories$Told" ∈ tblG) (d : decode cc pc = .ok (.anewarray idx, 3)) (hn : 1 ≤ k ∧ B ≤ n) (kk : G E p l e R s m args below meth c nL Q (k - 1) (n - B) q.2 (pc + 3) ls (vR q.1 :: st)) : G E p l e R s m args below meth c nL Q k n M pc ls (vI x :: st) := by
  have h := r_newq15 (a := q.1) (M1 := q.2) hB F h hw d kk
  rw [Nat.sub_add_cancel hn.1, Nat.sub_add_cancel hn.2] at h
  exact h
theorem r_newqK16 {x : Int} {B idx : Nat} {q : Int × Mem} (hB : B ≤ 100000) (F : Fx E p s m args meth c cc nL own ret nm) (h : nA 16 B M x = some q) (hw : Cond.classLink own idx "VillageStories$WorldSet" ∈ tblG) (d : decode cc pc = .ok (.anewarray idx, 3)) (hn : 1 ≤ k ∧ B ≤ n) (kk : G E p l e R s m args below meth c nL Q (k - 1) (n - B) q.2 (pc + 3) ls (vR q.1 :: st)) : G E p l e R s m args below meth c nL Q k n M pc ls (vI x :: st) := by
  have h := r_newq16 (a := q.1) (M1 := q.2) hB F h hw d kk
  rw [Nat.sub_add_cancel hn.1, Nat.sub_add_cancel hn.2] at h
  exact h
theorem r_objK {a : Int} {idx ci : Nat} (hk : (mK M a).1 = ci) (hci : ci < 17) (F : Fx E p s m args meth c cc nL own ret nm) (w1 : Cond.methodLink own idx Lib.objectInit ∈ tblG) (w2 : Cond.instanceMethod Lib.objectInit ∈ tblG) (w3 : Cond.code Lib.objectInit ⟨#[0xb1]⟩ 1 none ∈ tblG) (hf : 1 ≤ R.frames ∧ 20 ≤ R.locals) (hcat : (st.map vcat).sum ≤ 8) (d : decode cc pc = .ok (.invokespecial idx, 3)) (kk : G E p l e R s m args below meth c nL Q k n M (pc + 3) ls st) : G E p l e R s m args below meth c nL Q k n M pc ls (vR a :: st) := by
  intro hls hst hM
  exact r_objI F (hM.2.1 a (by omega)).1 w1 w2 w3 hf hcat d kk hls hst hM
theorem r_callIK {a : Int} {ci : Nat} {as : List V} {rv : Option V} {h kc nc idx mL' : Nat} {y : MethodName} {cc' : ByteArray} {ret' : Option FieldType} (C0 : Ct h kc nc y cc' mL' ret' (vR a :: as) M rv M1) (hret : ret' = none) (hk : (mK M a).1 = ci) (hci : ci < 17) (F : Fx E p s m args meth c cc nL own ret nm) (w1 : Cond.methodLink own idx y ∈ tblG) (w2 : Cond.instanceMethod y ∈ tblG) (hnm : y.name = "<init>") (w5 : Cond.code y cc' mL' ret' ∈ tblG) (w4 : Cond.initialized y.cls ∈ tblG) (hy : y.cls ≠ "java/lang/invoke/MethodHandle" ∧ y.cls ≠ "java/lang/invoke/VarHandle" ∧ (parseMethodDescriptor y.desc).map (fun d => d.parameters.length) = some as.length) (hf : h + 1 ≤ R.frames ∧ 8 + (mL' + 11) + 64 * h ≤ R.locals) (hcat : (st.map vcat).sum ≤ 8) (d : decode cc pc = .ok (.invokespecial idx, 3)) (hn : kc ≤ k ∧ nc ≤ n) (kk : G E p l e R s m args below meth c nL Q (k - kc) (n - nc) M1 (pc + 3) ls (rv.toList ++ st)) : G E p l e R s m args below meth c nL Q k n M pc ls (as.reverse ++ vR a :: st) := by
  intro hls hst hM
  have hh := r_callI C0 hret (hM.2.1 a (by omega)).1 F w1 w2 hnm w5 w4 hy hf hcat d kk
  rw [Nat.sub_add_cancel hn.1, Nat.sub_add_cancel hn.2] at hh
  exact hh hls hst hM
theorem r_callINK {a : Int} {ci : Nat} {as : List V} {rv : Option V} {h kc nc idx mL' : Nat} {y : MethodName} {cc' : ByteArray} {ret' : Option FieldType} (C0 : Ct h kc nc y cc' mL' ret' (vR a :: as) M rv M1) (hret : ret' = none) (hk : (mK M a).1 = ci) (hci : ci < 17) (F : Fx E p s m args meth c cc nL own ret nm) (w1 : (own, idx, y) ∈ nestM) (w2 : Cond.instanceMethod y ∈ tblG) (hnm : y.name = "<init>") (w5 : Cond.code y cc' mL' ret' ∈ tblG) (w4 : Cond.initialized y.cls ∈ tblG) (hy : y.cls ≠ "java/lang/invoke/MethodHandle" ∧ y.cls ≠ "java/lang/invoke/VarHandle" ∧ (parseMethodDescriptor y.desc).map (fun d => d.parameters.length) = some as.length) (hf : h + 1 ≤ R.frames ∧ 8 + (mL' + 11) + 64 * h ≤ R.locals) (hcat : (st.map vcat).sum ≤ 8) (d : decode cc pc = .ok (.invokespecial idx, 3)) (hn : kc ≤ k ∧ nc ≤ n) (kk : G E p l e R s m args below meth c nL Q (k - kc) (n - nc) M1 (pc + 3) ls (rv.toList ++ st)) : G E p l e R s m args below meth c nL Q k n M pc ls (as.reverse ++ vR a :: st) := by
  intro hls hst hM
  have hh := r_callIN C0 hret (hM.2.1 a (by omega)).1 F w1 w2 hnm w5 w4 hy hf hcat d kk
  rw [Nat.sub_add_cancel hn.1, Nat.sub_add_cancel hn.2] at hh
  exact hh hls hst hM
theorem r_callVK {a : Int} {ci N : Nat} {C : String} {T : u_T} {ty : Nat → FieldType} {as : List V} {rv : Option V} {h kc nc idx mL' : Nat} {y : MethodName} {cc' : ByteArray} {ret' : Option FieldType} (C0 : Ct h kc nc y cc' mL' ret' (vR a :: as) M rv M1) (hC : ClOk ci C T N ty) (F : Fx E p s m args meth c cc nL own ret nm) (hk : (mK M a).1 = ci) (w1 : Cond.methodLink own idx y ∈ tblG) (w2 : Cond.instanceMethod y ∈ tblG) (w3 : Cond.selects C y y ∈ tblG) (w5 : Cond.code y cc' mL' ret' ∈ tblG) (w4 : Cond.initialized y.cls ∈ tblG) (hy : y.cls ≠ "java/lang/invoke/MethodHandle" ∧ y.cls ≠ "java/lang/invoke/VarHandle" ∧ (parseMethodDescriptor y.desc).map (fun d => d.parameters.length) = some as.length) (hf : h + 1 ≤ R.frames ∧ 8 + (mL' + 11) + 64 * h ≤ R.locals) (hcat : (st.map vcat).sum ≤ 8) (d : decode cc pc = .ok (.invokevirtual idx, 3)) (hn : kc ≤ k ∧ nc ≤ n) (kk : G E p l e R s m args below meth c nL Q (k - kc) (n - nc) M1 (pc + 3) ls (rv.toList ++ st)) : G E p l e R s m args below meth c nL Q k n M pc ls (as.reverse ++ vR a :: st) := by
  have hh := r_callV C0 hC F hk w1 w2 w3 w5 w4 hy hf hcat d kk
  rw [Nat.sub_add_cancel hn.1, Nat.sub_add_cancel hn.2] at hh
  exact hh
end GX
