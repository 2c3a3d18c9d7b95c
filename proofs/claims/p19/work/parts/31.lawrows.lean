def FL : Nat := 520
/-- the script: what the law's walk knows of it -/
def LX (E : En) (s : State) (b L : Nat) (xs : Nat → Int32) : Prop := va_X b L xs s s.heap ∧ b < s.heap.size ∧ eB E = s.heap.size ∧ E.2.2.2 50 = b ∧ L < 2147483648
def aX (L : Nat) (xs : Nat → Int32) (i : Int) : Option Int := if 0 ≤ i ∧ i < (L : Int) then some (xs i.toNat).toInt else none
section GL
variable {E : En} {p : Program} {l : Launch} {e : Env} {R : Room} {s : State} {m : MethodId} {args : Array Value} {below : List Frame} {meth : Method} {c : Code} {Q : State → Prop} {cc : ByteArray} {nL : Nat} {own : String} {ret : Option FieldType} {nm : String} {k n pc : Nat} {M M1 : Mem} {ls : List (Nat × V)} {st : List V} {b L : Nat} {xs : Nat → Int32}
theorem LX_ref (X : LX E s b L xs) : e_v E (vR (-50)) = .ref b := by
  show va_rf (e_rf E (-50)) = _
  rw [e_rf_neg (by decide)]
  show Value.ref (E.2.2.2 50) = _
  rw [X.2.2.2.1]
theorem r_scld {i v : Int} (F : Fx E p s m args meth c cc nL own ret nm) (X : LX E s b L xs) (h : aX L xs i = some v) (d : decode cc pc = .ok (.iaload, 1)) (kk : G E p l e R s m args below meth c nL Q k n M (pc + 1) ls (vI v :: st)) : G E p l e R s m args below meth c nL Q k n M pc ls (vI i :: vR (-50) :: st) := by
  intro hls hst hM H locs lsA cells slots hR hS hl hc hs
  obtain ⟨⟨h0, h1⟩, rfl⟩ := ite_so h
  have hi : InI i := vhd hst
  have hh := kk hls (vst1 (i32_in _) (vtl (vtl hst))) hM H locs lsA cells slots hR hS hl hc hs
  rw [List.map_cons, List.map_cons, LX_ref X]
  refine va_sld F.1 F.2.1 X.1 X.2.1 (by show ¬ eB E ≤ b; rw [X.2.2.1]; exact Nat.not_le.mpr X.2.1) hS (clamp_in hi h0 h1) d ?_
  rw [clampN_I hi h0]
  rw [List.map_cons, show e_v E (vI (xs i.toNat).toInt) = .int (xs i.toNat) by show Value.int (Int32.ofInt _) = _; rw [Int32.ofInt_toInt]] at hh
  exact hh
theorem r_sclen (F : Fx E p s m args meth c cc nL own ret nm) (X : LX E s b L xs) (d : decode cc pc = .ok (.arraylength, 1)) (kk : G E p l e R s m args below meth c nL Q k n M (pc + 1) ls (vI (L : Int) :: st)) : G E p l e R s m args below meth c nL Q k n M pc ls (vR (-50) :: st) := by
  intro hls hst hM H locs lsA cells slots hR hS hl hc hs
  have hh := kk hls (vst1 (show InI (L : Int) by have := X.2.2.2.2; unfold InI; omega) (vtl hst)) hM H locs lsA cells slots hR hS hl hc hs
  rw [List.map_cons, LX_ref X]
  refine va_slen F.1 F.2.1 X.1 X.2.1 (by show ¬ eB E ≤ b; rw [X.2.2.1]; exact Nat.not_le.mpr X.2.1) hS d ?_
  rw [List.map_cons, show e_v E (vI (L : Int)) = .int (Int32.ofNat L) by show Value.int (Int32.ofInt _) = _; rw [Int32.ofInt_eq_ofNat]] at hh
  exact hh
theorem r_lawret (F : Fx E p s m #[Value.ref b] meth c code nL own (some .boolean) nm) (X : LX E s b L xs) (d : decode code pc = .ok (.ireturn, 1)) : G E p l e room_1 s m #[Value.ref b] below meth c nL (lw_Z below #[Value.ref b] s) k n M pc ls [vI 1] := by
  intro hls hst hM H locs lsA cells slots hR hS hl hc hs
  refine va_forget (fun q hq => by have h9 : eB E ≤ q.base := hS.2.2 q hq; rw [X.2.2.1] at h9; exact h9) ?_
  refine W.widen (k := 600000) (n := 7302250) (by change cells + k ≤ 600000 at hc; omega) (by change slots + n ≤ 7302250 at hs; omega) ?_
  exact lw_ret F.1 F.2.1 F.2.2.2.2.2.2.2.2.1 F.2.2.2.2.2.2.2.2.2.1 d
end GL
