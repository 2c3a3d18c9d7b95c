/-! ===== text constants: String.length, String.charAt ===== -/
theorem e_v_S {E : En} {k : Nat} (hk : 0 < k) : e_v E (vR (-(k : Int))) = .ref (E.2.2.2 k) := by
  show va_rf (e_rf E (-(k : Int))) = _
  rw [e_rf_neg (by omega), Int.neg_neg, Int.toNat_natCast]
  rfl
section GS
variable {E : En} {p : Program} {l : Launch} {e : Env} {R : Room} {s : State} {m : MethodId} {args : Array Value} {below : List Frame} {meth : Method} {c : Code} {Q : State → Prop} {cc : ByteArray} {nL : Nat} {own : String} {ret : Option FieldType} {nm : String} {k n pc i : Nat} {M M1 : Mem} {ls : List (Nat × V)} {st : List V}
theorem r_sval {idx : Nat} (F : Fx E p s m args meth c cc nL own ret nm) (hi : i < 14) (hw : Cond.fieldLink own idx "java/lang/String" "value" "[B" ∈ tblG) (d : decode cc pc = .ok (.getfield idx, 3)) (kk : G E p l e R s m args below meth c nL Q k n M (pc + 3) ls ((vR (-((200 + i : Nat) : Int))) :: st)) : G E p l e R s m args below meth c nL Q k n M pc ls ((vR (-((100 + i : Nat) : Int))) :: st) := by
  intro hls hst hM H locs lsA cells slots hR hS hl hc hs
  have hh := kk hls (vst1 (v := (vR (-((200 + i : Nat) : Int)))) trivial (vtl hst)) hM H locs lsA cells slots hR hS hl hc hs
  rw [List.map_cons, e_v_S (by omega)] at hh ⊢
  exact vk_getf F.1 F.2.1 (F.2.2.2.2.2.2.1.2.2.2.2.2.1.1 i hi).2.2.1 hS F.2.2.2.1 (F.2.2.2.2.1 _ hw) (fun x hx => hx) d hh
theorem r_scod {idx : Nat} (F : Fx E p s m args meth c cc nL own ret nm) (hi : i < 14) (hw : Cond.fieldLink own idx "java/lang/String" "coder" "B" ∈ tblG) (d : decode cc pc = .ok (.getfield idx, 3)) (kk : G E p l e R s m args below meth c nL Q k n M (pc + 3) ls (vI 0 :: st)) : G E p l e R s m args below meth c nL Q k n M pc ls ((vR (-((100 + i : Nat) : Int))) :: st) := by
  intro hls hst hM H locs lsA cells slots hR hS hl hc hs
  have hh := kk hls (vst1 (v := vI 0) (show InI 0 by unfold InI; omega) (vtl hst)) hM H locs lsA cells slots hR hS hl hc hs
  rw [List.map_cons, e_v_S (by omega)]
  exact vk_getf F.1 F.2.1 (F.2.2.2.2.2.2.1.2.2.2.2.2.1.1 i hi).2.1 hS F.2.2.2.1 (F.2.2.2.2.1 _ hw) (fun x hx => hx) d hh
theorem sLen_lt : ∀ i, i < 14 → sLen.getD i 0 < 10 := by decide
theorem r_svlen (F : Fx E p s m args meth c cc nL own ret nm) (hi : i < 14) (d : decode cc pc = .ok (.arraylength, 1)) (kk : G E p l e R s m args below meth c nL Q k n M (pc + 1) ls (vI ((sLen.getD i 0 : Nat) : Int) :: st)) : G E p l e R s m args below meth c nL Q k n M pc ls ((vR (-((200 + i : Nat) : Int))) :: st) := by
  intro hls hst hM H locs lsA cells slots hR hS hl hc hs
  have hL := sLen_lt i hi
  have hh := kk hls (vst1 (v := vI ((sLen.getD i 0 : Nat) : Int)) (show InI ((sLen.getD i 0 : Nat) : Int) by unfold InI; omega) (vtl hst)) hM H locs lsA cells slots hR hS hl hc hs
  rw [List.map_cons, e_v_S (by omega)]
  exact va_tlen F.1 F.2.1 (F.2.2.2.2.2.2.1.2.2.2.2.2.1.1 i hi).2.2.2 hS (v := Int32.ofInt ((sLen.getD i 0 : Nat) : Int)) (by rw [Int32.ofInt_eq_ofNat]) d hh
theorem r_svld {x : Int} (F : Fx E p s m args meth c cc nL own ret nm) (hi : i < 14) (h0 : 0 ≤ x) (h1 : x < ((sLen.getD i 0 : Nat) : Int)) (d : decode cc pc = .ok (.baload, 1)) (kk : G E p l e R s m args below meth c nL Q k n M (pc + 1) ls (vI ((sByt.getD i []).getD x.toNat 0).toInt :: st)) : G E p l e R s m args below meth c nL Q k n M pc ls (vI x :: (vR (-((200 + i : Nat) : Int))) :: st) := by
  intro hls hst hM H locs lsA cells slots hR hS hl hc hs
  have hx : InI x := vhd hst
  have hh := kk hls (vst1 (v := vI ((sByt.getD i []).getD x.toNat 0).toInt) (i32_in _) (vtl (vtl hst))) hM H locs lsA cells slots hR hS hl hc hs
  rw [List.map_cons, List.map_cons, e_v_S (by omega)]
  rw [List.map_cons, show e_v E (vI ((sByt.getD i []).getD x.toNat 0).toInt) = .int ((sByt.getD i []).getD x.toNat 0) by show Value.int (Int32.ofInt _) = _; rw [Int32.ofInt_toInt]] at hh
  exact va_tb F.1 F.2.1 (F.2.2.2.2.2.2.1.2.2.2.2.2.1.1 i hi).2.2.2 hS (clamp_in hx h0 h1) (by rw [clampN_I hx h0]) d hh
theorem r_gs_cs {idx : Nat} (F : Fx E p s m args meth c cc nL own ret nm) (hw : Cond.fieldLink own idx "java/lang/String" "COMPACT_STRINGS" "Z" ∈ tblG) (d : decode cc pc = .ok (.getstatic idx, 3)) (kk : G E p l e R s m args below meth c nL Q k n M (pc + 3) ls (vI 1 :: st)) : G E p l e R s m args below meth c nL Q k n M pc ls st := by
  intro hls hst hM H locs lsA cells slots hR hS hl hc hs
  have hh := kk hls (vst1 (v := vI 1) (show InI 1 by unfold InI; omega) hst) hM H locs lsA cells slots hR hS hl hc hs
  exact va_gets F.1 F.2.1 F.2.2.2.2.2.2.1.2.2.2.1 hS F.2.2.2.1 (F.2.2.2.2.1 _ hw) (fun x hx => hx) d hh
theorem r_gs_si {idx : Nat} (F : Fx E p s m args meth c cc nL own ret nm) (hw : Cond.fieldLink own idx "jdk/internal/util/Preconditions" "SIOOBE_FORMATTER" "Ljava/util/function/BiFunction;" ∈ tblG) (d : decode cc pc = .ok (.getstatic idx, 3)) (kk : ∀ x : Int, G E p l e R s m args below meth c nL Q k n M (pc + 3) ls (vR x :: st)) : G E p l e R s m args below meth c nL Q k n M pc ls st := by
  intro hls hst hM H locs lsA cells slots hR hS hl hc hs
  rcases F.2.2.2.2.2.2.1.2.2.2.2.1 with z | z
  · exact va_gets F.1 F.2.1 z hS F.2.2.2.1 (F.2.2.2.2.1 _ hw) (fun x hx => hx) d (kk 0 hls (vst1 (v := vR 0) trivial hst) hM H locs lsA cells slots hR hS hl hc hs)
  · have hh := kk (-((60 : Nat) : Int)) hls (vst1 (v := vR (-((60 : Nat) : Int))) trivial hst) hM H locs lsA cells slots hR hS hl hc hs
    rw [List.map_cons, e_v_S (by omega)] at hh
    exact va_gets F.1 F.2.1 z hS F.2.2.2.1 (F.2.2.2.2.1 _ hw) (fun x hx => hx) d hh
theorem r_i2c {x : Int} (F : Fx E p s m args meth c cc nL own ret nm) (hv : ((Int32.ofInt x).toUInt32 % 65536).toInt32 = Int32.ofInt x) (d : decode cc pc = .ok (.i2c, 1)) (kk : G E p l e R s m args below meth c nL Q k n M (pc + 1) ls (vI x :: st)) : G E p l e R s m args below meth c nL Q k n M pc ls (vI x :: st) := by
  intro hls hst hM H locs lsA cells slots hR hS hl hc hs
  have hh := kk hls hst hM H locs lsA cells slots hR hS hl hc hs
  exact lv_i2c (v := Int32.ofInt x) F.1 F.2.1 d hv hh
theorem r_nret {x : Int} {ty : FieldType} (hx : narrow ty (.int (Int32.ofInt x)) = .int (Int32.ofInt x)) (F : Fx E p s m args meth c cc nL own (some ty) nm) (d : decode cc pc = .ok (.ireturn, 1)) : G E p l e R s m args below meth c nL (QZ E below args s R (some (vI x)) M) k n M pc ls [vI x] := by
  intro hls hst hM H locs lsA cells slots hR hS hl hc hs
  refine W.widen (k := R.cells) (n := R.slots) (by omega) (by omega) ?_
  exact W.zret F.1 F.2.1 F.2.2.2.2.2.2.2.2.1 hx (fun t ht hW => ⟨rfl, hM, (fun v hv => by cases hv; exact vhd hst), by rw [ht]; exact hR, hS.F ht⟩) hS.2.2 d F.2.2.2.2.2.2.2.2.2.1
theorem r_callT {as : List V} {rv : Option V} {h kc nc idx mL' : Nat} {y : MethodName} {cc' : ByteArray} {ret' : Option FieldType} (C0 : Ct h kc nc y cc' mL' ret' ((vR (-((100 + i : Nat) : Int))) :: as) M rv M1) (F : Fx E p s m args meth c cc nL own ret nm) (hi : i < 14) (w1 : Cond.methodLink own idx y ∈ tblG) (w2 : Cond.instanceMethod y ∈ tblG) (w3 : Cond.selects "java/lang/String" y y ∈ tblG) (w5 : Cond.code y cc' mL' ret' ∈ tblG) (w4 : Cond.initialized y.cls ∈ tblG) (hy : y.cls ≠ "java/lang/invoke/MethodHandle" ∧ y.cls ≠ "java/lang/invoke/VarHandle" ∧ (parseMethodDescriptor y.desc).map (fun d => d.parameters.length) = some as.length) (hf : h + 1 ≤ R.frames ∧ 8 + (mL' + 11) + 64 * h ≤ R.locals) (hcat : (st.map vcat).sum ≤ 8) (d : decode cc pc = .ok (.invokevirtual idx, 3)) (kk : G E p l e R s m args below meth c nL Q k n M1 (pc + 3) ls (rv.toList ++ st)) : G E p l e R s m args below meth c nL Q (k + kc) (n + nc) M pc ls (as.reverse ++ (vR (-((100 + i : Nat) : Int))) :: st) := by
  intro hls hst hM H locs lsA cells slots hR hS hl hc hs
  obtain ⟨hva, hvs⟩ := vrev hst
  have ea : e_v E (vR (-((100 + i : Nat) : Int))) = _ := e_v_S (by omega)
  have hrun := va_runV (l := l) (e := e) (R := R) (below := below) (meth := meth) (H := H) (locs := locs) (cells := cells) (slots := slots) (C := "java/lang/String") (b := E.2.2.2 (100 + i)) (As := as.map (e_v E)) (rest := st.map (e_v E)) (g := F0 m pc lsA ((as.reverse ++ (vR (-((100 + i : Nat) : Int))) :: st).map (e_v E))) ⟨F.1, F.2.1, F.2.2.1, F.2.2.2.1, F.2.2.2.2.1⟩ (C0 E l) ⟨callB_of (ws' := tblG) as.length F.2.2.2.2.1 (goodWs w5) rfl rfl rfl (F.2.2.2.2.1 _ w4) (F.2.2.2.2.1 _ w1) hy hf, F.2.2.2.2.1 _ w2, F.2.2.2.2.1 _ w3⟩
    ⟨Pm_blind E _ _, vk_recv (adK := fun i => E.2.2.2 (100 + i)) (i := i) F.2.2.2.2.2.2.1.2.2.2.2.2.1 hi hS, fun U hU hW => by rw [← ea, ← List.map_cons]; exact Pm_at F hM (vst1 (v := (vR (-((100 + i : Nat) : Int)))) (show vok (vR (-((100 + i : Nat) : Int))) from trivial) hva) hR hS U hU hW⟩ rfl (List.length_map ..) hl.1 (by rw [List.map_append, List.map_reverse, List.map_cons, ea]) (lv_room (by rw [e_cats]; exact hcat)) d ⟨by omega, by omega⟩
  exact r_after hrun hS hls (vtl hvs) hl hc hs kk
end GS
theorem c_scoder {i : Nat} (hi : i < 14) {M : Mem} : Ct 0 0 0 yJ0_coder_7d493 cJ0_coder_7d493 1 (some .byte) [(vR (-((100 + i : Nat) : Int)))] M (some (vI 0)) M := by
  refine Ct.of (by decide) (Nat.le_of_ble_eq_true rfl) ?_
  intro E p l e s m args below meth c F
  refine r_gs_cs F tw_694 dJ0_coder_7d493_0 ?_
  refine r_if_eq (tgt := 13) F (by decide) dJ0_coder_7d493_3 (fun hc => absurd hc (by decide)) (fun _ => ?_)
  refine r_aload_n (j := 0) F rfl rfl dJ0_coder_7d493_6 ?_
  refine r_scod F hi tw_1908 dJ0_coder_7d493_7 ?_
  refine r_goto (tgt := 14) F (by decide) dJ0_coder_7d493_10 ?_
  exact r_nret rfl F dJ0_coder_7d493_14
theorem c_slatin {i : Nat} (hi : i < 14) {M : Mem} : Ct 0 0 0 yJ0_isLatin1_aae02 cJ0_isLatin1_aae02 1 (some .boolean) [(vR (-((100 + i : Nat) : Int)))] M (some (vI 1)) M := by
  refine Ct.of (by decide) (Nat.le_of_ble_eq_true rfl) ?_
  intro E p l e s m args below meth c F
  refine r_gs_cs F tw_694 dJ0_isLatin1_aae02_0 ?_
  refine r_if_eq (tgt := 17) F (by decide) dJ0_isLatin1_aae02_3 (fun hc => absurd hc (by decide)) (fun _ => ?_)
  refine r_aload_n (j := 0) F rfl rfl dJ0_isLatin1_aae02_6 ?_
  refine r_scod F hi tw_1908 dJ0_isLatin1_aae02_7 ?_
  refine r_if_ne (tgt := 17) F (by decide) dJ0_isLatin1_aae02_10 (fun hc => absurd rfl hc) (fun _ => ?_)
  refine r_iconst F rfl dJ0_isLatin1_aae02_13 ?_
  refine r_goto (tgt := 18) F (by decide) dJ0_isLatin1_aae02_14 ?_
  exact r_zret (Or.inr rfl) F dJ0_isLatin1_aae02_18
theorem c_slen {i : Nat} (hi : i < 14) {M : Mem} : Ct 1 0 0 yJ0_length_8abf5 cJ0_length_8abf5 1 (some .int) [(vR (-((100 + i : Nat) : Int)))] M (some (vI ((sLen.getD i 0 : Nat) : Int))) M := by
  refine Ct.of (by decide) (Nat.le_of_ble_eq_true rfl) ?_
  intro E p l e s m args below meth c F
  refine r_aload_n (j := 0) F rfl rfl dJ0_length_8abf5_0 ?_
  refine r_sval F hi tw_1907 dJ0_length_8abf5_1 ?_
  refine r_svlen F hi dJ0_length_8abf5_4 ?_
  refine r_aload_n (j := 0) F rfl rfl dJ0_length_8abf5_5 ?_
  refine r_callT (as := []) (rv := some (vI 0)) (kc := 0) (nc := 0) (c_scoder hi) F hi tw_690 tw_691 tw_692 tw_693 tw_124 ⟨by decide, by decide, show (parseMethodDescriptor yJ0_coder_7d493.desc).map (fun d => d.parameters.length) = some 0 by decide +kernel⟩ ⟨by decide, by decide⟩ (Nat.le_of_ble_eq_true rfl) dJ0_length_8abf5_6 ?_
  refine r_ishr F dJ0_length_8abf5_9 ?_
  refine r_eq (y := ((sLen.getD i 0 : Nat) : Int)) (by have hL := sLen_lt i hi; generalize sLen.getD i 0 = k at hL; match k, hL with | 0, _ => rfl | 1, _ => rfl | 2, _ => rfl | 3, _ => rfl | 4, _ => rfl | 5, _ => rfl | 6, _ => rfl | 7, _ => rfl | 8, _ => rfl | 9, _ => rfl) ?_
  exact r_iret F dJ0_length_8abf5_10
theorem c_pchk {x y z : Int} (h0 : 0 ≤ x) (h1 : x < y) {M : Mem} : Ct 0 0 0 yJ3_checkIndex_8e157 cJ3_checkIndex_8e157 3 (some .int) [vI x, vI y, vR z] M (some (vI x)) M := by
  refine Ct.of (by decide) (Nat.le_of_ble_eq_true rfl) ?_
  intro E p l e s m args below meth c F
  refine r_iload_n (j := 0) F rfl rfl dJ3_checkIndex_8e157_0 ?_
  refine r_if_lt (tgt := 9) F (by decide) dJ3_checkIndex_8e157_1 (fun hc => absurd h0 (by omega)) (fun _ => ?_)
  refine r_iload_n (j := 0) F rfl rfl dJ3_checkIndex_8e157_4 ?_
  refine r_iload_n (j := 1) F rfl rfl dJ3_checkIndex_8e157_5 ?_
  refine r_icmp_lt (tgt := 16) F (by decide) dJ3_checkIndex_8e157_6 (fun _ => ?_) (fun hc => absurd h1 hc)
  refine r_iload_n (j := 0) F rfl rfl dJ3_checkIndex_8e157_16 ?_
  exact r_iret F dJ3_checkIndex_8e157_17
theorem c_schk {x y : Int} (h0 : 0 ≤ x) (h1 : x < y) {M : Mem} : Ct 1 0 0 yJ0_checkIndex_df160 cJ0_checkIndex_df160 2 none [vI x, vI y] M none M := by
  refine Ct.of (by decide) (Nat.le_of_ble_eq_true rfl) ?_
  intro E p l e s m args below meth c F
  refine r_iload_n (j := 0) F rfl rfl dJ0_checkIndex_df160_0 ?_
  refine r_iload_n (j := 1) F rfl rfl dJ0_checkIndex_df160_1 ?_
  refine r_gs_si F tw_710 dJ0_checkIndex_df160_2 (fun z => ?_)
  refine r_callS (as := [vI x, vI y, vR z]) (rv := some (vI x)) (kc := 0) (nc := 0) (c_pchk h0 h1) F tw_712 tw_713 tw_714 tw_126 ⟨by decide, by decide, show (parseMethodDescriptor yJ3_checkIndex_8e157.desc).map (fun d => d.parameters.length) = some 3 by decide +kernel⟩ ⟨by decide, by decide⟩ (Nat.le_of_ble_eq_true rfl) dJ0_checkIndex_df160_5 ?_
  refine r_pop F rfl dJ0_checkIndex_df160_8 ?_
  exact r_vret F dJ0_checkIndex_df160_9
theorem sByt_ok : ∀ i, i < 14 → ∀ j, j < sLen.getD i 0 → 0 ≤ ((sByt.getD i []).getD j 0).toInt ∧ ((sByt.getD i []).getD j 0).toInt < 128 ∧ iand ((sByt.getD i []).getD j 0).toInt 255 = ((sByt.getD i []).getD j 0).toInt := by decide +kernel
theorem sChr2 : ∀ i, i < 14 → ∀ j, j < sLen.getD i 0 → ((Int32.ofInt ((sByt.getD i []).getD j 0).toInt).toUInt32 % 65536).toInt32 = Int32.ofInt ((sByt.getD i []).getD j 0).toInt := by decide +kernel
theorem sChr : ∀ i, i < 14 → ∀ j, j < sLen.getD i 0 → narrow .char (.int (Int32.ofInt ((sByt.getD i []).getD j 0).toInt)) = .int (Int32.ofInt ((sByt.getD i []).getD j 0).toInt) := by decide +kernel
theorem c_sl1 {i : Nat} (hi : i < 14) {x : Int} (h0 : 0 ≤ x) (h1 : x < ((sLen.getD i 0 : Nat) : Int)) {M : Mem} : Ct 2 0 0 yJ1_charAt_3b067 cJ1_charAt_3b067 2 (some .char) [(vR (-((200 + i : Nat) : Int))), vI x] M (some (vI ((sByt.getD i []).getD x.toNat 0).toInt)) M := by
  refine Ct.of (by decide) (Nat.le_of_ble_eq_true rfl) ?_
  intro E p l e s m args below meth c F
  obtain ⟨b0, b1, b2⟩ := sByt_ok i hi x.toNat (by omega)
  refine r_iload_n (j := 1) F rfl rfl dJ1_charAt_3b067_0 ?_
  refine r_aload_n (j := 0) F rfl rfl dJ1_charAt_3b067_1 ?_
  refine r_svlen F hi dJ1_charAt_3b067_2 ?_
  refine r_callS (as := [vI x, vI ((sLen.getD i 0 : Nat) : Int)]) (rv := none) (kc := 0) (nc := 0) (c_schk h0 h1) F tw_707 tw_708 tw_709 tw_124 ⟨by decide, by decide, show (parseMethodDescriptor yJ0_checkIndex_df160.desc).map (fun d => d.parameters.length) = some 2 by decide +kernel⟩ ⟨by decide, by decide⟩ (Nat.le_of_ble_eq_true rfl) dJ1_charAt_3b067_3 ?_
  refine r_aload_n (j := 0) F rfl rfl dJ1_charAt_3b067_6 ?_
  refine r_iload_n (j := 1) F rfl rfl dJ1_charAt_3b067_7 ?_
  refine r_svld F hi h0 h1 dJ1_charAt_3b067_8 ?_
  refine r_sipush F rfl (by decide) dJ1_charAt_3b067_9 ?_
  refine r_iand F dJ1_charAt_3b067_12 ?_
  refine r_eq b2 ?_
  refine r_i2c F (sChr2 i hi x.toNat (by omega)) dJ1_charAt_3b067_13 ?_
  exact r_nret (sChr i hi x.toNat (by omega)) F dJ1_charAt_3b067_14
theorem c_schar {i : Nat} (hi : i < 14) {x : Int} (h0 : 0 ≤ x) (h1 : x < ((sLen.getD i 0 : Nat) : Int)) {M : Mem} : Ct 3 0 0 yJ0_charAt_5068e cJ0_charAt_5068e 2 (some .char) [(vR (-((100 + i : Nat) : Int))), vI x] M (some (vI ((sByt.getD i []).getD x.toNat 0).toInt)) M := by
  refine Ct.of (by decide) (Nat.le_of_ble_eq_true rfl) ?_
  intro E p l e s m args below meth c F
  refine r_aload_n (j := 0) F rfl rfl dJ0_charAt_5068e_0 ?_
  refine r_callT (as := []) (rv := some (vI 1)) (kc := 0) (nc := 0) (c_slatin hi) F hi tw_700 tw_701 tw_702 tw_703 tw_124 ⟨by decide, by decide, show (parseMethodDescriptor yJ0_isLatin1_aae02.desc).map (fun d => d.parameters.length) = some 0 by decide +kernel⟩ ⟨by decide, by decide⟩ (Nat.le_of_ble_eq_true rfl) dJ0_charAt_5068e_1 ?_
  refine r_if_eq (tgt := 16) F (by decide) dJ0_charAt_5068e_4 (fun hc => absurd hc (by decide)) (fun _ => ?_)
  refine r_aload_n (j := 0) F rfl rfl dJ0_charAt_5068e_7 ?_
  refine r_sval F hi tw_1907 dJ0_charAt_5068e_8 ?_
  refine r_iload_n (j := 1) F rfl rfl dJ0_charAt_5068e_11 ?_
  refine r_callS (as := [(vR (-((200 + i : Nat) : Int))), vI x]) (rv := some (vI ((sByt.getD i []).getD x.toNat 0).toInt)) (kc := 0) (nc := 0) (c_sl1 hi h0 h1) F tw_704 tw_705 tw_706 tw_125 ⟨by decide, by decide, show (parseMethodDescriptor yJ1_charAt_3b067.desc).map (fun d => d.parameters.length) = some 2 by decide +kernel⟩ ⟨by decide, by decide⟩ (Nat.le_of_ble_eq_true rfl) dJ0_charAt_5068e_12 ?_
  exact r_nret (sChr i hi x.toNat (by omega)) F dJ0_charAt_5068e_15
section GS2
variable {E : En} {p : Program} {l : Launch} {e : Env} {R : Room} {s : State} {m : MethodId} {args : Array Value} {below : List Frame} {meth : Method} {c : Code} {Q : State → Prop} {cc : ByteArray} {nL : Nat} {own : String} {ret : Option FieldType} {nm : String} {k n pc i : Nat} {M M1 : Mem} {ls : List (Nat × V)} {st : List V}
theorem r_strlen {a v : Int} {idx : Nat} (F : Fx E p s m args meth c cc nL own ret nm) (h : sLn a = some v) (w1 : Cond.methodLink own idx ⟨"java/lang/String", "length", "()I"⟩ ∈ tblG) (hf : 4 ≤ R.frames ∧ 200 ≤ R.locals) (hcat : (st.map vcat).sum ≤ 8) (d : decode cc pc = .ok (.invokevirtual idx, 3)) (kk : G E p l e R s m args below meth c nL Q k n M (pc + 3) ls (vI v :: st)) : G E p l e R s m args below meth c nL Q k n M pc ls (vR a :: st) := by
  obtain ⟨⟨h1, h2⟩, rfl⟩ := ite_so h
  obtain ⟨i, hi⟩ : ∃ i : Nat, a = -((100 + i : Nat) : Int) := ⟨(-100 - a).toNat, by omega⟩
  subst hi
  rw [show (-100 - -((100 + i : Nat) : Int)).toNat = i by omega] at kk
  exact r_callT (as := []) (rv := some (vI ((sLen.getD i 0 : Nat) : Int))) (kc := 0) (nc := 0) (c_slen (show i < 14 by omega)) F (by omega) w1 tw_687 tw_688 tw_689 tw_124 ⟨by decide, by decide, show (parseMethodDescriptor yJ0_length_8abf5.desc).map (fun d => d.parameters.length) = some 0 by decide +kernel⟩ ⟨by omega, by omega⟩ hcat d kk
theorem r_strat {a x v : Int} {idx : Nat} (F : Fx E p s m args meth c cc nL own ret nm) (h : sAt a x = some v) (w1 : Cond.methodLink own idx ⟨"java/lang/String", "charAt", "(I)C"⟩ ∈ tblG) (hf : 6 ≤ R.frames ∧ 300 ≤ R.locals) (hcat : (st.map vcat).sum ≤ 8) (d : decode cc pc = .ok (.invokevirtual idx, 3)) (kk : G E p l e R s m args below meth c nL Q k n M (pc + 3) ls (vI v :: st)) : G E p l e R s m args below meth c nL Q k n M pc ls (vI x :: vR a :: st) := by
  obtain ⟨⟨⟨h1, h2⟩, h3, h4⟩, rfl⟩ := ite_so h
  obtain ⟨i, hi⟩ : ∃ i : Nat, a = -((100 + i : Nat) : Int) := ⟨(-100 - a).toNat, by omega⟩
  subst hi
  rw [show (-100 - -((100 + i : Nat) : Int)).toNat = i by omega] at kk h4
  exact r_callT (as := [vI x]) (rv := some (vI ((sByt.getD i []).getD x.toNat 0).toInt)) (kc := 0) (nc := 0) (c_schar (show i < 14 by omega) h3 h4) F (by omega) w1 tw_697 tw_698 tw_699 tw_124 ⟨by decide, by decide, show (parseMethodDescriptor yJ0_charAt_5068e.desc).map (fun d => d.parameters.length) = some 1 by decide +kernel⟩ ⟨by omega, by omega⟩ hcat d kk
end GS2
