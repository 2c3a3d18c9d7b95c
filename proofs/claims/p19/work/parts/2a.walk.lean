theorem tX0_init {l0 : Int} {M : Mem} {q : Int × Mem} (h : mX0_init l0 M = some q) : Ct 1 3 76 yX0_init cX0_init 1 none [vR l0] M none q.2 := by
  unfold mX0_init at h
  refine Ct.of (by decide) (Nat.le_of_ble_eq_true rfl) ?_
  intro E p l e s m args below meth c F
  refine r_sub [0] (ls' := [(0, vR l0)]) rfl ?_
  refine r_aload_n (j := 0) F rfl rfl dX0_init_0 ?_
  replace h := bind_so h
  obtain ⟨_, h1, h⟩ := h
  refine r_objK (gK_so h1) (by decide) F tw_293 tw_136 tw_137 ⟨by decide, by decide⟩ (Nat.le_of_ble_eq_true rfl) dX0_init_1 ?_
  refine r_aload_n (j := 0) F rfl rfl dX0_init_4 ?_
  refine r_null F dX0_init_5 ?_
  replace h := bind_so h
  obtain ⟨M6, h6, h⟩ := h
  refine r_put clok_0 F (by decide) rfl (by decide) (by decide) h6 tw_294 dX0_init_6 ?_
  refine r_aload_n (j := 0) F rfl rfl dX0_init_9 ?_
  refine r_null F dX0_init_10 ?_
  replace h := bind_so h
  obtain ⟨M11, h11, h⟩ := h
  refine r_put clok_0 F (by decide) rfl (by decide) (by decide) h11 tw_295 dX0_init_11 ?_
  refine r_aload_n (j := 0) F rfl rfl dX0_init_14 ?_
  refine r_bipush F rfl (by decide) dX0_init_15 ?_
  replace h := bind_so h
  obtain ⟨q17, h17, h⟩ := h
  refine r_newaK13 (B := 36) (by decide) F h17 tw_286 dX0_init_17 (by decide) ?_
  replace h := bind_so h
  obtain ⟨M19, h19, h⟩ := h
  refine r_putF clok_0 F (by decide) rfl rfl rfl (by decide) (by decide) h19 tw_296 dX0_init_19 ?_
  refine r_aload_n (j := 0) F rfl rfl dX0_init_22 ?_
  refine r_iconst F rfl dX0_init_23 ?_
  replace h := bind_so h
  obtain ⟨q24, h24, h⟩ := h
  refine r_newaK10 (B := 4) (by decide) F h24 tw_203 dX0_init_24 (by decide) ?_
  replace h := bind_so h
  obtain ⟨M26, h26, h⟩ := h
  refine r_putF clok_0 F (by decide) rfl rfl rfl (by decide) (by decide) h26 tw_297 dX0_init_26 ?_
  refine r_aload_n (j := 0) F rfl rfl dX0_init_29 ?_
  refine r_bipush F rfl (by decide) dX0_init_30 ?_
  replace h := bind_so h
  obtain ⟨q32, h32, h⟩ := h
  refine r_newaK13 (B := 36) (by decide) F h32 tw_286 dX0_init_32 (by decide) ?_
  replace h := bind_so h
  obtain ⟨M34, h34, h⟩ := h
  refine r_putF clok_0 F (by decide) rfl rfl rfl (by decide) (by decide) h34 tw_298 dX0_init_34 ?_
  refine r_aload_n (j := 0) F rfl rfl dX0_init_37 ?_
  refine r_iconst F rfl dX0_init_38 ?_
  replace h := bind_so h
  obtain ⟨M39, h39, h⟩ := h
  refine r_put clok_0 F (by decide) rfl (by decide) (by decide) h39 tw_299 dX0_init_39 ?_
  obtain rfl := Option.some.inj h
  exact r_vret F dX0_init_42
theorem tX3_bit {l0 l1 : Int} {M : Mem} {q : Int × Mem} (h : mX3_bit l0 l1 M = some q) : Ct 0 0 0 yX3_bit cX3_bit 2 (some FieldType.int) [vR l0, vI l1] M (some (vI q.1)) q.2 := by
  unfold mX3_bit at h
  refine Ct.of (by decide) (Nat.le_of_ble_eq_true rfl) ?_
  intro E p l e s m args below meth c F
  refine r_sub [0, 1] (ls' := [(0, vR l0), (1, vI l1)]) rfl ?_
  refine r_aload_n (j := 0) F rfl rfl dX3_bit_0 ?_
  replace h := bind_so h
  obtain ⟨a1, h1, h⟩ := h
  refine r_getT (t := 0) rfl clok_3 F (by decide) h1 tw_181 dX3_bit_1 ?_
  refine r_iconst F rfl dX3_bit_4 ?_
  refine r_isub F dX3_bit_5 ?_
  refine r_iload_n (j := 1) F rfl rfl dX3_bit_6 ?_
  refine r_isub F dX3_bit_7 ?_
  obtain rfl := Option.some.inj h
  exact r_iret F dX3_bit_8
theorem tX0_takeWorld_68 {E : En} {p : Program} {l : Launch} {e : Env} {s : State} {m : MethodId} {args : Array Value} {below : List Frame} {meth : Method} {c : Code} {q : Int × Mem} {k18 : Int → Int → Int → Mem → Option (Int × Mem)} (hk18 : ∀ {l0 l3 l5 : Int} {M : Mem}, k18 l0 l3 l5 M = some q → G E p l e (rmOf 1 0 0) s m args below meth c 6 (QZ E below args s (rmOf 1 0 0) none q.2) 0 0 M 18 [(0, vR l0), (3, vL l3), (5, vI l5)] []) {l0 l3 l5 s0 s1 s2 : Int} {M : Mem} (F : Fx E p s m args meth c cX0_takeWorld 6 yX0_takeWorld.cls none yX0_takeWorld.name) (h : mX0_takeWorld_68 k18 l0 l3 l5 s0 s1 s2 M = some q) : G E p l e (rmOf 1 0 0) s m args below meth c 6 (QZ E below args s (rmOf 1 0 0) none q.2) 0 0 M 68 [(0, vR l0), (3, vL l3), (5, vI l5)] [vL s2, vI s1, vR s0] := by
  unfold mX0_takeWorld_68 at h
  replace h := bind_so h
  obtain ⟨M68, h68, h⟩ := h
  refine r_last F h68 dX0_takeWorld_68 ?_
  refine r_iinc (j := 2) (ls' := [(5, vI (wI (l5 + 1))), (0, vR l0), (3, vL l3)]) F rfl (by decide) rfl dX0_takeWorld_69 ?_
  refine r_goto (tgt := 18) F (by decide) dX0_takeWorld_72 ?_
  refine r_sub [1, 2, 0] (ls' := [(0, vR l0), (3, vL l3), (5, vI (wI (l5 + 1)))]) rfl ?_
  exact hk18 h
theorem tbX0_takeWorld_18 {E : En} {p : Program} {l : Launch} {e : Env} {s : State} {m : MethodId} {args : Array Value} {below : List Frame} {meth : Method} {c : Code} {q : Int × Mem} {k18 : Int → Int → Int → Mem → Option (Int × Mem)} (hk18 : ∀ {l0 l3 l5 : Int} {M : Mem}, k18 l0 l3 l5 M = some q → G E p l e (rmOf 1 0 0) s m args below meth c 6 (QZ E below args s (rmOf 1 0 0) none q.2) 0 0 M 18 [(0, vR l0), (3, vL l3), (5, vI l5)] []) {l0 l3 l5 : Int} {M : Mem} (F : Fx E p s m args meth c cX0_takeWorld 6 yX0_takeWorld.cls none yX0_takeWorld.name) (h : bX0_takeWorld_18 k18 l0 l3 l5 M = some q) : G E p l e (rmOf 1 0 0) s m args below meth c 6 (QZ E below args s (rmOf 1 0 0) none q.2) 0 0 M 18 [(0, vR l0), (3, vL l3), (5, vI l5)] [] := by
  unfold bX0_takeWorld_18 at h
  refine r_iload (j := 2) F rfl dX0_takeWorld_18 ?_
  refine r_aload_n (j := 0) F rfl rfl dX0_takeWorld_20 ?_
  replace h := bind_so h
  obtain ⟨a21, h21, h⟩ := h
  refine r_getT (t := 2) rfl clok_0 F (by decide) h21 tw_294 dX0_takeWorld_21 ?_
  replace h := bind_so h
  obtain ⟨a24, h24, h⟩ := h
  refine r_getT (t := 0) rfl clok_3 F (by decide) h24 tw_182 dX0_takeWorld_24 ?_
  refine r_icmp_ge (tgt := 75) F (by decide) dX0_takeWorld_27 (fun hc => ?_) (fun hc => ?_)
  · replace h := ite_p h hc
    obtain rfl := Option.some.inj h
    exact r_vret F dX0_takeWorld_75
  · replace h := ite_n h hc
    refine r_iload (j := 2) F rfl dX0_takeWorld_30 ?_
    refine r_bipush F rfl (by decide) dX0_takeWorld_32 ?_
    refine r_icmp_ge (tgt := 75) F (by decide) dX0_takeWorld_34 (fun hc => ?_) (fun hc => ?_)
    · replace h := ite_p h hc
      obtain rfl := Option.some.inj h
      exact r_vret F dX0_takeWorld_75
    · replace h := ite_n h hc
      refine r_aload_n (j := 0) F rfl rfl dX0_takeWorld_37 ?_
      replace h := bind_so h
      obtain ⟨a38, h38, h⟩ := h
      refine r_getT (t := 2) rfl clok_0 F (by decide) h38 tw_296 dX0_takeWorld_38 ?_
      refine r_iload (j := 2) F rfl dX0_takeWorld_41 ?_
      refine r_lload_n (j := 1) F rfl rfl dX0_takeWorld_43 ?_
      refine r_aload_n (j := 0) F rfl rfl dX0_takeWorld_44 ?_
      replace h := bind_so h
      obtain ⟨a45, h45, h⟩ := h
      refine r_getT (t := 2) rfl clok_0 F (by decide) h45 tw_294 dX0_takeWorld_45 ?_
      refine r_iload (j := 2) F rfl dX0_takeWorld_48 ?_
      replace h := bind_so h
      obtain ⟨_, g50, h⟩ := h
      replace h := bind_so h
      obtain ⟨q50, h50, h⟩ := h
      refine r_callV (as := [vI l5]) (rv := (some (vI q50.1))) (kc := 0) (nc := 0) (tX3_bit h50) clok_3 F (gK_so g50) tw_895 tw_555 tw_556 tw_557 tw_115 ⟨by decide, by decide, show (parseMethodDescriptor yX3_bit.desc).map (fun d => d.parameters.length) = some 1 by decide +kernel⟩ ⟨by decide, by decide⟩ (Nat.le_of_ble_eq_true rfl) dX0_takeWorld_50 ?_
      refine r_lshr F dX0_takeWorld_53 ?_
      refine r_lconst F dX0_takeWorld_54 ?_
      refine r_eq (y := 1) rfl ?_
      refine r_land F dX0_takeWorld_55 ?_
      refine r_lconst F dX0_takeWorld_56 ?_
      refine r_eq (y := 0) rfl ?_
      refine r_lcmp F dX0_takeWorld_57 ?_
      refine r_if_ne (tgt := 65) F (by decide) dX0_takeWorld_58 (fun hc => ?_) (fun hc => ?_)
      · replace h := ite_n h hc
        refine r_ldc2v (x := (-1)) F (by unfold InL; omega) (by decide) tw_896 dX0_takeWorld_65 ?_
        refine r_sub [0, 1, 2] (ls' := [(0, vR l0), (3, vL l3), (5, vI l5)]) rfl ?_
        exact tX0_takeWorld_68 (fun h => hk18 h) F h
      · replace h := ite_p h hc
        refine r_lconst F dX0_takeWorld_61 ?_
        refine r_eq (y := 0) rfl ?_
        refine r_goto (tgt := 68) F (by decide) dX0_takeWorld_62 ?_
        refine r_sub [0, 1, 2] (ls' := [(0, vR l0), (3, vL l3), (5, vI l5)]) rfl ?_
        exact tX0_takeWorld_68 (fun h => hk18 h) F h
theorem tX0_takeWorld_18 {E : En} {p : Program} {l : Launch} {e : Env} {s : State} {m : MethodId} {args : Array Value} {below : List Frame} {meth : Method} {c : Code} {q : Int × Mem} (F : Fx E p s m args meth c cX0_takeWorld 6 yX0_takeWorld.cls none yX0_takeWorld.name) : ∀ {fu : Nat} {l0 l3 l5 : Int} {M : Mem}, mX0_takeWorld_18 fu l0 l3 l5 M = some q → G E p l e (rmOf 1 0 0) s m args below meth c 6 (QZ E below args s (rmOf 1 0 0) none q.2) 0 0 M 18 [(0, vR l0), (3, vL l3), (5, vI l5)] [] := by
  intro fu
  induction fu with
  | zero => intro l0 l3 l5 M h; exact nomatch (show (none : Option (Int × Mem)) = some q from h)
  | succ fu ih => intro l0 l3 l5 M h; exact tbX0_takeWorld_18  (fun h => ih h) F h
theorem tX0_takeWorld {l0 l1 l2 l3 : Int} {M : Mem} {q : Int × Mem} (h : mX0_takeWorld l0 l1 l2 l3 M = some q) : Ct 1 0 0 yX0_takeWorld cX0_takeWorld 6 none [vR l0, vR l1, vR l2, vL l3] M none q.2 := by
  unfold mX0_takeWorld at h
  refine Ct.of (by decide) (Nat.le_of_ble_eq_true rfl) ?_
  intro E p l e s m args below meth c F
  refine r_sub [0, 1, 2, 3] (ls' := [(0, vR l0), (1, vR l1), (2, vR l2), (3, vL l3)]) rfl ?_
  refine r_aload_n (j := 0) F rfl rfl dX0_takeWorld_0 ?_
  refine r_aload_n (j := 1) F rfl rfl dX0_takeWorld_1 ?_
  replace h := bind_so h
  obtain ⟨M2, h2, h⟩ := h
  refine r_put clok_0 F (by decide) rfl (by decide) (by decide) h2 tw_294 dX0_takeWorld_2 ?_
  refine r_aload_n (j := 0) F rfl rfl dX0_takeWorld_5 ?_
  refine r_aload_n (j := 2) F rfl rfl dX0_takeWorld_6 ?_
  replace h := bind_so h
  obtain ⟨M7, h7, h⟩ := h
  refine r_put clok_0 F (by decide) rfl (by decide) (by decide) h7 tw_295 dX0_takeWorld_7 ?_
  refine r_aload_n (j := 0) F rfl rfl dX0_takeWorld_10 ?_
  refine r_iconst F rfl dX0_takeWorld_11 ?_
  replace h := bind_so h
  obtain ⟨M12, h12, h⟩ := h
  refine r_put clok_0 F (by decide) rfl (by decide) (by decide) h12 tw_299 dX0_takeWorld_12 ?_
  refine r_iconst F rfl dX0_takeWorld_15 ?_
  refine r_istore (ls' := [(5, vI 0), (0, vR l0), (1, vR l1), (2, vR l2), (3, vL l3)]) F (by decide) rfl dX0_takeWorld_16 ?_
  refine r_sub [1, 4, 0] (ls' := [(0, vR l0), (3, vL l3), (5, vI 0)]) rfl ?_
  exact tX0_takeWorld_18 F h
theorem tX0_sizeAt {l0 l1 : Int} {M : Mem} {q : Int × Mem} (h : mX0_sizeAt l0 l1 M = some q) : Ct 0 0 0 yX0_sizeAt cX0_sizeAt 3 (some FieldType.int) [vR l0, vI l1] M (some (vI q.1)) q.2 := by
  unfold mX0_sizeAt at h
  refine Ct.of (by decide) (Nat.le_of_ble_eq_true rfl) ?_
  intro E p l e s m args below meth c F
  refine r_sub [0, 1] (ls' := [(0, vR l0), (1, vI l1)]) rfl ?_
  refine r_aload_n (j := 0) F rfl rfl dX0_sizeAt_0 ?_
  replace h := bind_so h
  obtain ⟨a1, h1, h⟩ := h
  refine r_getT (t := 2) rfl clok_0 F (by decide) h1 tw_295 dX0_sizeAt_1 ?_
  replace h := bind_so h
  obtain ⟨a4, h4, h⟩ := h
  refine r_getT (t := 2) rfl clok_5 F (by decide) h4 tw_427 dX0_sizeAt_4 ?_
  refine r_iload_n (j := 1) F rfl rfl dX0_sizeAt_7 ?_
  replace h := bind_so h
  obtain ⟨a8, h8, h⟩ := h
  refine r_iald F h8 dX0_sizeAt_8 ?_
  refine r_istore_n (ls' := [(2, vI a8), (0, vR l0), (1, vI l1)]) F rfl (by decide) rfl dX0_sizeAt_9 ?_
  refine r_iload_n (j := 0) F rfl rfl dX0_sizeAt_10 ?_
  refine r_if_lt (tgt := 31) F (by decide) dX0_sizeAt_11 (fun hc => ?_) (fun hc => ?_)
  · replace h := ite_p h hc
    refine r_iconst F rfl dX0_sizeAt_31 ?_
    obtain rfl := Option.some.inj h
    exact r_iret F dX0_sizeAt_32
  · replace h := ite_n h hc
    refine r_iload_n (j := 0) F rfl rfl dX0_sizeAt_14 ?_
    refine r_iconst F rfl dX0_sizeAt_15 ?_
    refine r_icmp_ge (tgt := 31) F (by decide) dX0_sizeAt_16 (fun hc => ?_) (fun hc => ?_)
    · replace h := ite_p h hc
      refine r_iconst F rfl dX0_sizeAt_31 ?_
      obtain rfl := Option.some.inj h
      exact r_iret F dX0_sizeAt_32
    · replace h := ite_n h hc
      refine r_aload_n (j := 1) F rfl rfl dX0_sizeAt_19 ?_
      replace h := bind_so h
      obtain ⟨a20, h20, h⟩ := h
      refine r_getT (t := 2) rfl clok_0 F (by decide) h20 tw_294 dX0_sizeAt_20 ?_
      replace h := bind_so h
      obtain ⟨a23, h23, h⟩ := h
      refine r_getT (t := 2) rfl clok_3 F (by decide) h23 tw_157 dX0_sizeAt_23 ?_
      refine r_iload_n (j := 0) F rfl rfl dX0_sizeAt_26 ?_
      replace h := bind_so h
      obtain ⟨a27, h27, h⟩ := h
      refine r_iald F h27 dX0_sizeAt_27 ?_
      refine r_goto (tgt := 32) F (by decide) dX0_sizeAt_28 ?_
      obtain rfl := Option.some.inj h
      exact r_iret F dX0_sizeAt_32
theorem tX0_atLeast {l0 l1 l3 l5 : Int} {M : Mem} {q : Int × Mem} (h : mX0_atLeast l0 l1 l3 l5 M = some q) : Ct 0 0 0 yX0_atLeast cX0_atLeast 7 (some FieldType.long) [vI l0, vL l1, vL l3, vL l5] M (some (vL q.1)) q.2 := by
  unfold mX0_atLeast at h
  refine Ct.of (by decide) (Nat.le_of_ble_eq_true rfl) ?_
  intro E p l e s m args below meth c F
  refine r_sub [0, 1, 2, 3] (ls' := [(0, vI l0), (1, vL l1), (3, vL l3), (5, vL l5)]) rfl ?_
  refine r_iload_n (j := 0) F rfl rfl dX0_atLeast_0 ?_
  by_cases hc0 : l0 = 0
  · replace h := ite_p h hc0
    refine r_tIn (off := 31) (tgt := 32) F (by omega) (by omega) (by rw [hc0]; rfl) (by decide) dX0_atLeast_1 ?_
    refine r_ldc2v (x := (-1)) F (by unfold InL; omega) (by decide) tw_896 dX0_atLeast_32 ?_
    obtain rfl := Option.some.inj h
    exact r_lret F dX0_atLeast_35
  replace h := ite_n h hc0
  by_cases hc1 : l0 = 1
  · replace h := ite_p h hc1
    refine r_tIn (off := 35) (tgt := 36) F (by omega) (by omega) (by rw [hc1]; rfl) (by decide) dX0_atLeast_1 ?_
    refine r_lload_n (j := 1) F rfl rfl dX0_atLeast_36 ?_
    obtain rfl := Option.some.inj h
    exact r_lret F dX0_atLeast_37
  replace h := ite_n h hc1
  by_cases hc2 : l0 = 2
  · replace h := ite_p h hc2
    refine r_tIn (off := 37) (tgt := 38) F (by omega) (by omega) (by rw [hc2]; rfl) (by decide) dX0_atLeast_1 ?_
    refine r_lload_n (j := 2) F rfl rfl dX0_atLeast_38 ?_
    obtain rfl := Option.some.inj h
    exact r_lret F dX0_atLeast_39
  replace h := ite_n h hc2
  by_cases hc3 : l0 = 3
  · replace h := ite_p h hc3
    refine r_tIn (off := 39) (tgt := 40) F (by omega) (by omega) (by rw [hc3]; rfl) (by decide) dX0_atLeast_1 ?_
    refine r_lload (j := 3) F rfl dX0_atLeast_40 ?_
    obtain rfl := Option.some.inj h
    exact r_lret F dX0_atLeast_42
  replace h := ite_n h hc3
  refine r_tOut (tgt := 43) F (by omega) (by decide) dX0_atLeast_1 ?_
  refine r_lconst F dX0_atLeast_43 ?_
  refine r_eq (y := 0) rfl ?_
  obtain rfl := Option.some.inj h
  exact r_lret F dX0_atLeast_44
theorem tX0_slot {l0 l1 : Int} {M : Mem} {q : Int × Mem} (h : mX0_slot l0 l1 M = some q) : Ct 0 0 0 yX0_slot cX0_slot 2 (some FieldType.int) [vR l0, vI l1] M (some (vI q.1)) q.2 := by
  unfold mX0_slot at h
  refine Ct.of (by decide) (Nat.le_of_ble_eq_true rfl) ?_
  intro E p l e s m args below meth c F
  refine r_sub [0, 1] (ls' := [(0, vR l0), (1, vI l1)]) rfl ?_
  refine r_iload_n (j := 1) F rfl rfl dX0_slot_0 ?_
  refine r_if_lt (tgt := 18) F (by decide) dX0_slot_1 (fun hc => ?_) (fun hc => ?_)
  · replace h := ite_p h hc
    refine r_iconst F rfl dX0_slot_18 ?_
    obtain rfl := Option.some.inj h
    exact r_iret F dX0_slot_19
  · replace h := ite_n h hc
    refine r_iload_n (j := 1) F rfl rfl dX0_slot_4 ?_
    refine r_iconst F rfl dX0_slot_5 ?_
    refine r_icmp_ge (tgt := 18) F (by decide) dX0_slot_6 (fun hc => ?_) (fun hc => ?_)
    · replace h := ite_p h hc
      refine r_iconst F rfl dX0_slot_18 ?_
      obtain rfl := Option.some.inj h
      exact r_iret F dX0_slot_19
    · replace h := ite_n h hc
      refine r_aload_n (j := 0) F rfl rfl dX0_slot_9 ?_
      replace h := bind_so h
      obtain ⟨a10, h10, h⟩ := h
      refine r_getT (t := 2) rfl clok_0 F (by decide) h10 tw_297 dX0_slot_10 ?_
      refine r_iload_n (j := 1) F rfl rfl dX0_slot_13 ?_
      replace h := bind_so h
      obtain ⟨a14, h14, h⟩ := h
      refine r_iald F h14 dX0_slot_14 ?_
      refine r_goto (tgt := 19) F (by decide) dX0_slot_15 ?_
      obtain rfl := Option.some.inj h
      exact r_iret F dX0_slot_19
theorem tX3_isOfOneKindTwice {l0 l1 : Int} {M : Mem} {q : Int × Mem} (h : mX3_isOfOneKindTwice l0 l1 M = some q) : Ct 0 0 0 yX3_isOfOneKindTwice cX3_isOfOneKindTwice 2 (some FieldType.boolean) [vR l0, vI l1] M (some (vI q.1)) q.2 := by
  unfold mX3_isOfOneKindTwice at h
  refine Ct.of (by decide) (Nat.le_of_ble_eq_true rfl) ?_
  intro E p l e s m args below meth c F
  refine r_sub [0, 1] (ls' := [(0, vR l0), (1, vI l1)]) rfl ?_
  refine r_iload_n (j := 1) F rfl rfl dX3_isOfOneKindTwice_0 ?_
  refine r_if_lt (tgt := 31) F (by decide) dX3_isOfOneKindTwice_1 (fun hc => ?_) (fun hc => ?_)
  · replace h := ite_p h hc
    refine r_iconst F rfl dX3_isOfOneKindTwice_31 ?_
    obtain rfl := Option.some.inj h
    exact r_zret (Or.inl rfl) F dX3_isOfOneKindTwice_32
  · replace h := ite_n h hc
    refine r_iload_n (j := 1) F rfl rfl dX3_isOfOneKindTwice_4 ?_
    refine r_aload_n (j := 0) F rfl rfl dX3_isOfOneKindTwice_5 ?_
    replace h := bind_so h
    obtain ⟨a6, h6, h⟩ := h
    refine r_getT (t := 0) rfl clok_3 F (by decide) h6 tw_177 dX3_isOfOneKindTwice_6 ?_
    refine r_icmp_ge (tgt := 31) F (by decide) dX3_isOfOneKindTwice_9 (fun hc => ?_) (fun hc => ?_)
    · replace h := ite_p h hc
      refine r_iconst F rfl dX3_isOfOneKindTwice_31 ?_
      obtain rfl := Option.some.inj h
      exact r_zret (Or.inl rfl) F dX3_isOfOneKindTwice_32
    · replace h := ite_n h hc
      refine r_aload_n (j := 0) F rfl rfl dX3_isOfOneKindTwice_12 ?_
      replace h := bind_so h
      obtain ⟨a13, h13, h⟩ := h
      refine r_getT (t := 2) rfl clok_3 F (by decide) h13 tw_161 dX3_isOfOneKindTwice_13 ?_
      refine r_iload_n (j := 1) F rfl rfl dX3_isOfOneKindTwice_16 ?_
      replace h := bind_so h
      obtain ⟨a17, h17, h⟩ := h
      refine r_iald F h17 dX3_isOfOneKindTwice_17 ?_
      refine r_aload_n (j := 0) F rfl rfl dX3_isOfOneKindTwice_18 ?_
      replace h := bind_so h
      obtain ⟨a19, h19, h⟩ := h
      refine r_getT (t := 2) rfl clok_3 F (by decide) h19 tw_164 dX3_isOfOneKindTwice_19 ?_
      refine r_iload_n (j := 1) F rfl rfl dX3_isOfOneKindTwice_22 ?_
      replace h := bind_so h
      obtain ⟨a23, h23, h⟩ := h
      refine r_iald F h23 dX3_isOfOneKindTwice_23 ?_
      refine r_icmp_ne (tgt := 31) F (by decide) dX3_isOfOneKindTwice_24 (fun hc => ?_) (fun hc => ?_)
      · replace h := ite_n h hc
        refine r_iconst F rfl dX3_isOfOneKindTwice_31 ?_
        obtain rfl := Option.some.inj h
        exact r_zret (Or.inl rfl) F dX3_isOfOneKindTwice_32
      · replace h := ite_p h hc
        refine r_iconst F rfl dX3_isOfOneKindTwice_27 ?_
        refine r_goto (tgt := 32) F (by decide) dX3_isOfOneKindTwice_28 ?_
        obtain rfl := Option.some.inj h
        exact r_zret (Or.inr rfl) F dX3_isOfOneKindTwice_32
theorem tbX0_findPaths_97 {E : En} {p : Program} {l : Launch} {e : Env} {s : State} {m : MethodId} {args : Array Value} {below : List Frame} {meth : Method} {c : Code} {q : Int × Mem} {k63 : Int → Int → Int → Int → Mem → Option (Int × Mem)} {k72 : Int → Int → Int → Int → Int → Mem → Option (Int × Mem)} (hk63 : ∀ {l0 l2 l3 l4 : Int} {M : Mem}, k63 l0 l2 l3 l4 M = some q → G E p l e (rmOf 1 0 0) s m args below meth c 9 (QZ E below args s (rmOf 1 0 0) none q.2) 0 0 M 63 [(0, vR l0), (2, vI l2), (3, vI l3), (4, vI l4)] []) (hk72 : ∀ {l0 l2 l3 l4 l5 : Int} {M : Mem}, k72 l0 l2 l3 l4 l5 M = some q → G E p l e (rmOf 1 0 0) s m args below meth c 9 (QZ E below args s (rmOf 1 0 0) none q.2) 0 0 M 72 [(0, vR l0), (2, vI l2), (3, vI l3), (4, vI l4), (5, vI l5)] []) {k97 : Int → Int → Int → Int → Int → Int → Int → Mem → Option (Int × Mem)} (hk97 : ∀ {l0 l2 l3 l4 l5 l6 l8 : Int} {M : Mem}, k97 l0 l2 l3 l4 l5 l6 l8 M = some q → G E p l e (rmOf 1 0 0) s m args below meth c 9 (QZ E below args s (rmOf 1 0 0) none q.2) 0 0 M 97 [(0, vR l0), (2, vI l2), (3, vI l3), (4, vI l4), (5, vI l5), (6, vL l6), (8, vI l8)] []) {l0 l2 l3 l4 l5 l6 l8 : Int} {M : Mem} (F : Fx E p s m args meth c cX0_findPaths 9 yX0_findPaths.cls none yX0_findPaths.name) (h : bX0_findPaths_97 k63 k72 k97 l0 l2 l3 l4 l5 l6 l8 M = some q) : G E p l e (rmOf 1 0 0) s m args below meth c 9 (QZ E below args s (rmOf 1 0 0) none q.2) 0 0 M 97 [(0, vR l0), (2, vI l2), (3, vI l3), (4, vI l4), (5, vI l5), (6, vL l6), (8, vI l8)] [] := by
  unfold bX0_findPaths_97 at h
  refine r_iload (j := 6) F rfl dX0_findPaths_97 ?_
  refine r_iload_n (j := 2) F rfl rfl dX0_findPaths_99 ?_
  refine r_icmp_ge (tgt := 143) F (by decide) dX0_findPaths_100 (fun hc => ?_) (fun hc => ?_)
  · replace h := ite_p h hc
    refine r_iinc (j := 4) (ls' := [(5, vI (wI (l5 + 1))), (0, vR l0), (2, vI l2), (3, vI l3), (4, vI l4), (6, vL l6), (8, vI l8)]) F rfl (by decide) rfl dX0_findPaths_143 ?_
    refine r_goto (tgt := 72) F (by decide) dX0_findPaths_146 ?_
    refine r_sub [1, 2, 3, 4, 0] (ls' := [(0, vR l0), (2, vI l2), (3, vI l3), (4, vI l4), (5, vI (wI (l5 + 1)))]) rfl ?_
    exact hk72 h
  · replace h := ite_n h hc
    refine r_aload_n (j := 0) F rfl rfl dX0_findPaths_103 ?_
    replace h := bind_so h
    obtain ⟨a104, h104, h⟩ := h
    refine r_getT (t := 2) rfl clok_0 F (by decide) h104 tw_298 dX0_findPaths_104 ?_
    refine r_iload_n (j := 1) F rfl rfl dX0_findPaths_107 ?_
    refine r_iload (j := 4) F rfl dX0_findPaths_108 ?_
    refine r_iload_n (j := 2) F rfl rfl dX0_findPaths_110 ?_
    refine r_imul F dX0_findPaths_111 ?_
    refine r_iadd F dX0_findPaths_112 ?_
    refine r_iload (j := 6) F rfl dX0_findPaths_113 ?_
    refine r_iadd F dX0_findPaths_115 ?_
    refine r_dup2 F rfl rfl dX0_findPaths_116 ?_
    replace h := bind_so h
    obtain ⟨a117, h117, h⟩ := h
    refine r_lald F h117 dX0_findPaths_117 ?_
    refine r_lload (j := 5) F rfl dX0_findPaths_118 ?_
    refine r_aload_n (j := 0) F rfl rfl dX0_findPaths_120 ?_
    replace h := bind_so h
    obtain ⟨a121, h121, h⟩ := h
    refine r_getT (t := 2) rfl clok_0 F (by decide) h121 tw_298 dX0_findPaths_121 ?_
    refine r_iload_n (j := 1) F rfl rfl dX0_findPaths_124 ?_
    refine r_iload (j := 3) F rfl dX0_findPaths_125 ?_
    refine r_iload_n (j := 2) F rfl rfl dX0_findPaths_127 ?_
    refine r_imul F dX0_findPaths_128 ?_
    refine r_iadd F dX0_findPaths_129 ?_
    refine r_iload (j := 6) F rfl dX0_findPaths_130 ?_
    refine r_iadd F dX0_findPaths_132 ?_
    replace h := bind_so h
    obtain ⟨a133, h133, h⟩ := h
    refine r_lald F h133 dX0_findPaths_133 ?_
    refine r_land F dX0_findPaths_134 ?_
    refine r_lor F dX0_findPaths_135 ?_
    replace h := bind_so h
    obtain ⟨M136, h136, h⟩ := h
    refine r_last F h136 dX0_findPaths_136 ?_
    refine r_iinc (j := 6) (ls' := [(8, vI (wI (l8 + 1))), (0, vR l0), (2, vI l2), (3, vI l3), (4, vI l4), (5, vI l5), (6, vL l6)]) F rfl (by decide) rfl dX0_findPaths_137 ?_
    refine r_goto (tgt := 97) F (by decide) dX0_findPaths_140 ?_
    refine r_sub [1, 2, 3, 4, 5, 6, 0] (ls' := [(0, vR l0), (2, vI l2), (3, vI l3), (4, vI l4), (5, vI l5), (6, vL l6), (8, vI (wI (l8 + 1)))]) rfl ?_
    exact hk97 h
theorem tX0_findPaths_97 {E : En} {p : Program} {l : Launch} {e : Env} {s : State} {m : MethodId} {args : Array Value} {below : List Frame} {meth : Method} {c : Code} {q : Int × Mem} {k63 : Int → Int → Int → Int → Mem → Option (Int × Mem)} {k72 : Int → Int → Int → Int → Int → Mem → Option (Int × Mem)} (hk63 : ∀ {l0 l2 l3 l4 : Int} {M : Mem}, k63 l0 l2 l3 l4 M = some q → G E p l e (rmOf 1 0 0) s m args below meth c 9 (QZ E below args s (rmOf 1 0 0) none q.2) 0 0 M 63 [(0, vR l0), (2, vI l2), (3, vI l3), (4, vI l4)] []) (hk72 : ∀ {l0 l2 l3 l4 l5 : Int} {M : Mem}, k72 l0 l2 l3 l4 l5 M = some q → G E p l e (rmOf 1 0 0) s m args below meth c 9 (QZ E below args s (rmOf 1 0 0) none q.2) 0 0 M 72 [(0, vR l0), (2, vI l2), (3, vI l3), (4, vI l4), (5, vI l5)] []) (F : Fx E p s m args meth c cX0_findPaths 9 yX0_findPaths.cls none yX0_findPaths.name) : ∀ {fu : Nat} {l0 l2 l3 l4 l5 l6 l8 : Int} {M : Mem}, mX0_findPaths_97 k63 k72 fu l0 l2 l3 l4 l5 l6 l8 M = some q → G E p l e (rmOf 1 0 0) s m args below meth c 9 (QZ E below args s (rmOf 1 0 0) none q.2) 0 0 M 97 [(0, vR l0), (2, vI l2), (3, vI l3), (4, vI l4), (5, vI l5), (6, vL l6), (8, vI l8)] [] := by
  intro fu
  induction fu with
  | zero => intro l0 l2 l3 l4 l5 l6 l8 M h; exact nomatch (show (none : Option (Int × Mem)) = some q from h)
  | succ fu ih => intro l0 l2 l3 l4 l5 l6 l8 M h; exact tbX0_findPaths_97 (fun h => hk63 h) (fun h => hk72 h) (fun h => ih h) F h
theorem tbX0_findPaths_72 {E : En} {p : Program} {l : Launch} {e : Env} {s : State} {m : MethodId} {args : Array Value} {below : List Frame} {meth : Method} {c : Code} {q : Int × Mem} {k63 : Int → Int → Int → Int → Mem → Option (Int × Mem)} (hk63 : ∀ {l0 l2 l3 l4 : Int} {M : Mem}, k63 l0 l2 l3 l4 M = some q → G E p l e (rmOf 1 0 0) s m args below meth c 9 (QZ E below args s (rmOf 1 0 0) none q.2) 0 0 M 63 [(0, vR l0), (2, vI l2), (3, vI l3), (4, vI l4)] []) {k72 : Int → Int → Int → Int → Int → Mem → Option (Int × Mem)} (hk72 : ∀ {l0 l2 l3 l4 l5 : Int} {M : Mem}, k72 l0 l2 l3 l4 l5 M = some q → G E p l e (rmOf 1 0 0) s m args below meth c 9 (QZ E below args s (rmOf 1 0 0) none q.2) 0 0 M 72 [(0, vR l0), (2, vI l2), (3, vI l3), (4, vI l4), (5, vI l5)] []) {l0 l2 l3 l4 l5 : Int} {M : Mem} (F : Fx E p s m args meth c cX0_findPaths 9 yX0_findPaths.cls none yX0_findPaths.name) (h : bX0_findPaths_72 k63 k72 l0 l2 l3 l4 l5 M = some q) : G E p l e (rmOf 1 0 0) s m args below meth c 9 (QZ E below args s (rmOf 1 0 0) none q.2) 0 0 M 72 [(0, vR l0), (2, vI l2), (3, vI l3), (4, vI l4), (5, vI l5)] [] := by
  unfold bX0_findPaths_72 at h
  refine r_iload (j := 4) F rfl dX0_findPaths_72 ?_
  refine r_iload_n (j := 2) F rfl rfl dX0_findPaths_74 ?_
  refine r_icmp_ge (tgt := 149) F (by decide) dX0_findPaths_75 (fun hc => ?_) (fun hc => ?_)
  · replace h := ite_p h hc
    refine r_iinc (j := 3) (ls' := [(4, vI (wI (l4 + 1))), (0, vR l0), (2, vI l2), (3, vI l3), (5, vI l5)]) F rfl (by decide) rfl dX0_findPaths_149 ?_
    refine r_goto (tgt := 63) F (by decide) dX0_findPaths_152 ?_
    refine r_sub [1, 2, 3, 0] (ls' := [(0, vR l0), (2, vI l2), (3, vI l3), (4, vI (wI (l4 + 1)))]) rfl ?_
    exact hk63 h
  · replace h := ite_n h hc
    refine r_aload_n (j := 0) F rfl rfl dX0_findPaths_78 ?_
    replace h := bind_so h
    obtain ⟨a79, h79, h⟩ := h
    refine r_getT (t := 2) rfl clok_0 F (by decide) h79 tw_298 dX0_findPaths_79 ?_
    refine r_iload_n (j := 1) F rfl rfl dX0_findPaths_82 ?_
    refine r_iload (j := 4) F rfl dX0_findPaths_83 ?_
    refine r_iload_n (j := 2) F rfl rfl dX0_findPaths_85 ?_
    refine r_imul F dX0_findPaths_86 ?_
    refine r_iadd F dX0_findPaths_87 ?_
    refine r_iload (j := 3) F rfl dX0_findPaths_88 ?_
    refine r_iadd F dX0_findPaths_90 ?_
    replace h := bind_so h
    obtain ⟨a91, h91, h⟩ := h
    refine r_lald F h91 dX0_findPaths_91 ?_
    refine r_lstore (ls' := [(6, vL a91), (0, vR l0), (2, vI l2), (3, vI l3), (4, vI l4), (5, vI l5)]) F (by decide) rfl dX0_findPaths_92 ?_
    refine r_iconst F rfl dX0_findPaths_94 ?_
    refine r_istore (ls' := [(8, vI 0), (6, vL a91), (0, vR l0), (2, vI l2), (3, vI l3), (4, vI l4), (5, vI l5)]) F (by decide) rfl dX0_findPaths_95 ?_
    refine r_sub [2, 3, 4, 5, 6, 1, 0] (ls' := [(0, vR l0), (2, vI l2), (3, vI l3), (4, vI l4), (5, vI l5), (6, vL a91), (8, vI 0)]) rfl ?_
    exact tX0_findPaths_97 (fun h => hk63 h) (fun h => hk72 h) F h
theorem tX0_findPaths_72 {E : En} {p : Program} {l : Launch} {e : Env} {s : State} {m : MethodId} {args : Array Value} {below : List Frame} {meth : Method} {c : Code} {q : Int × Mem} {k63 : Int → Int → Int → Int → Mem → Option (Int × Mem)} (hk63 : ∀ {l0 l2 l3 l4 : Int} {M : Mem}, k63 l0 l2 l3 l4 M = some q → G E p l e (rmOf 1 0 0) s m args below meth c 9 (QZ E below args s (rmOf 1 0 0) none q.2) 0 0 M 63 [(0, vR l0), (2, vI l2), (3, vI l3), (4, vI l4)] []) (F : Fx E p s m args meth c cX0_findPaths 9 yX0_findPaths.cls none yX0_findPaths.name) : ∀ {fu : Nat} {l0 l2 l3 l4 l5 : Int} {M : Mem}, mX0_findPaths_72 k63 fu l0 l2 l3 l4 l5 M = some q → G E p l e (rmOf 1 0 0) s m args below meth c 9 (QZ E below args s (rmOf 1 0 0) none q.2) 0 0 M 72 [(0, vR l0), (2, vI l2), (3, vI l3), (4, vI l4), (5, vI l5)] [] := by
  intro fu
  induction fu with
  | zero => intro l0 l2 l3 l4 l5 M h; exact nomatch (show (none : Option (Int × Mem)) = some q from h)
  | succ fu ih => intro l0 l2 l3 l4 l5 M h; exact tbX0_findPaths_72 (fun h => hk63 h) (fun h => ih h) F h
theorem tbX0_findPaths_63 {E : En} {p : Program} {l : Launch} {e : Env} {s : State} {m : MethodId} {args : Array Value} {below : List Frame} {meth : Method} {c : Code} {q : Int × Mem} {k63 : Int → Int → Int → Int → Mem → Option (Int × Mem)} (hk63 : ∀ {l0 l2 l3 l4 : Int} {M : Mem}, k63 l0 l2 l3 l4 M = some q → G E p l e (rmOf 1 0 0) s m args below meth c 9 (QZ E below args s (rmOf 1 0 0) none q.2) 0 0 M 63 [(0, vR l0), (2, vI l2), (3, vI l3), (4, vI l4)] []) {l0 l2 l3 l4 : Int} {M : Mem} (F : Fx E p s m args meth c cX0_findPaths 9 yX0_findPaths.cls none yX0_findPaths.name) (h : bX0_findPaths_63 k63 l0 l2 l3 l4 M = some q) : G E p l e (rmOf 1 0 0) s m args below meth c 9 (QZ E below args s (rmOf 1 0 0) none q.2) 0 0 M 63 [(0, vR l0), (2, vI l2), (3, vI l3), (4, vI l4)] [] := by
  unfold bX0_findPaths_63 at h
  refine r_iload (j := 3) F rfl dX0_findPaths_63 ?_
  refine r_iload_n (j := 2) F rfl rfl dX0_findPaths_65 ?_
  refine r_icmp_ge (tgt := 155) F (by decide) dX0_findPaths_66 (fun hc => ?_) (fun hc => ?_)
  · replace h := ite_p h hc
    obtain rfl := Option.some.inj h
    exact r_vret F dX0_findPaths_155
  · replace h := ite_n h hc
    refine r_iconst F rfl dX0_findPaths_69 ?_
    refine r_istore (ls' := [(5, vI 0), (0, vR l0), (2, vI l2), (3, vI l3), (4, vI l4)]) F (by decide) rfl dX0_findPaths_70 ?_
    refine r_sub [1, 2, 3, 4, 0] (ls' := [(0, vR l0), (2, vI l2), (3, vI l3), (4, vI l4), (5, vI 0)]) rfl ?_
    exact tX0_findPaths_72 (fun h => hk63 h) F h
theorem tX0_findPaths_63 {E : En} {p : Program} {l : Launch} {e : Env} {s : State} {m : MethodId} {args : Array Value} {below : List Frame} {meth : Method} {c : Code} {q : Int × Mem} (F : Fx E p s m args meth c cX0_findPaths 9 yX0_findPaths.cls none yX0_findPaths.name) : ∀ {fu : Nat} {l0 l2 l3 l4 : Int} {M : Mem}, mX0_findPaths_63 fu l0 l2 l3 l4 M = some q → G E p l e (rmOf 1 0 0) s m args below meth c 9 (QZ E below args s (rmOf 1 0 0) none q.2) 0 0 M 63 [(0, vR l0), (2, vI l2), (3, vI l3), (4, vI l4)] [] := by
  intro fu
  induction fu with
  | zero => intro l0 l2 l3 l4 M h; exact nomatch (show (none : Option (Int × Mem)) = some q from h)
  | succ fu ih => intro l0 l2 l3 l4 M h; exact tbX0_findPaths_63  (fun h => ih h) F h
theorem tX0_findPaths {l0 l1 : Int} {M : Mem} {q : Int × Mem} (h : mX0_findPaths l0 l1 M = some q) : Ct 1 0 0 yX0_findPaths cX0_findPaths 9 none [vR l0, vI l1] M none q.2 := by
  unfold mX0_findPaths at h
  refine Ct.of (by decide) (Nat.le_of_ble_eq_true rfl) ?_
  intro E p l e s m args below meth c F
  refine r_sub [0, 1] (ls' := [(0, vR l0), (1, vI l1)]) rfl ?_
  refine r_aload_n (j := 0) F rfl rfl dX0_findPaths_0 ?_
  replace h := bind_so h
  obtain ⟨a1, h1, h⟩ := h
  refine r_getT (t := 0) rfl clok_0 F (by decide) h1 tw_299 dX0_findPaths_1 ?_
  refine r_iload_n (j := 1) F rfl rfl dX0_findPaths_4 ?_
  refine r_ishr F dX0_findPaths_5 ?_
  refine r_iconst F rfl dX0_findPaths_6 ?_
  refine r_iand F dX0_findPaths_7 ?_
  refine r_if_eq (tgt := 12) F (by decide) dX0_findPaths_8 (fun hc => ?_) (fun hc => ?_)
  · replace h := ite_p h hc
    refine r_aload_n (j := 0) F rfl rfl dX0_findPaths_12 ?_
    refine r_dup1 F rfl dX0_findPaths_13 ?_
    replace h := bind_so h
    obtain ⟨a14, h14, h⟩ := h
    refine r_getT (t := 0) rfl clok_0 F (by decide) h14 tw_299 dX0_findPaths_14 ?_
    refine r_iconst F rfl dX0_findPaths_17 ?_
    refine r_iload_n (j := 1) F rfl rfl dX0_findPaths_18 ?_
    refine r_ishl F dX0_findPaths_19 ?_
    refine r_ior F dX0_findPaths_20 ?_
    replace h := bind_so h
    obtain ⟨M21, h21, h⟩ := h
    refine r_put clok_0 F (by decide) rfl (by decide) (by decide) h21 tw_299 dX0_findPaths_21 ?_
    refine r_aload_n (j := 0) F rfl rfl dX0_findPaths_24 ?_
    replace h := bind_so h
    obtain ⟨a25, h25, h⟩ := h
    refine r_getT (t := 2) rfl clok_0 F (by decide) h25 tw_294 dX0_findPaths_25 ?_
    replace h := bind_so h
    obtain ⟨a28, h28, h⟩ := h
    refine r_getT (t := 2) rfl clok_3 F (by decide) h28 tw_169 dX0_findPaths_28 ?_
    refine r_iload_n (j := 1) F rfl rfl dX0_findPaths_31 ?_
    replace h := bind_so h
    obtain ⟨a32, h32, h⟩ := h
    refine r_iald F h32 dX0_findPaths_32 ?_
    refine r_istore_n (ls' := [(2, vI a32), (0, vR l0), (1, vI l1)]) F rfl (by decide) rfl dX0_findPaths_33 ?_
    refine r_aload_n (j := 1) F rfl rfl dX0_findPaths_34 ?_
    replace h := bind_so h
    obtain ⟨a35, h35, h⟩ := h
    refine r_getT (t := 2) rfl clok_0 F (by decide) h35 tw_294 dX0_findPaths_35 ?_
    replace h := bind_so h
    obtain ⟨a38, h38, h⟩ := h
    refine r_getT (t := 2) rfl clok_3 F (by decide) h38 tw_176 dX0_findPaths_38 ?_
    refine r_iload_n (j := 2) F rfl rfl dX0_findPaths_41 ?_
    replace h := bind_so h
    obtain ⟨a42, h42, h⟩ := h
    refine r_iald F h42 dX0_findPaths_42 ?_
    refine r_istore_n (ls' := [(3, vI a42), (2, vI a32), (0, vR l0), (1, vI l1)]) F rfl (by decide) rfl dX0_findPaths_43 ?_
    refine r_aload_n (j := 2) F rfl rfl dX0_findPaths_44 ?_
    replace h := bind_so h
    obtain ⟨a45, h45, h⟩ := h
    refine r_getT (t := 2) rfl clok_0 F (by decide) h45 tw_296 dX0_findPaths_45 ?_
    refine r_iload_n (j := 1) F rfl rfl dX0_findPaths_48 ?_
    refine r_aload_n (j := 2) F rfl rfl dX0_findPaths_49 ?_
    replace h := bind_so h
    obtain ⟨a50, h50, h⟩ := h
    refine r_getT (t := 2) rfl clok_0 F (by decide) h50 tw_298 dX0_findPaths_50 ?_
    refine r_iload_n (j := 1) F rfl rfl dX0_findPaths_53 ?_
    refine r_iload_n (j := 0) F rfl rfl dX0_findPaths_54 ?_
    refine r_iload_n (j := 0) F rfl rfl dX0_findPaths_55 ?_
    refine r_imul F dX0_findPaths_56 ?_
    replace h := bind_so h
    obtain ⟨M57, h57, h⟩ := h
    refine r_copyl F h57 tw_929 tw_931 tw_930 tw_128 ⟨by decide, by decide⟩ (Nat.le_of_ble_eq_true rfl) dX0_findPaths_57 ?_
    refine r_iconst F rfl dX0_findPaths_60 ?_
    refine r_istore (ls' := [(4, vI 0), (3, vI a42), (2, vI a32), (0, vR l0), (1, vI l1)]) F (by decide) rfl dX0_findPaths_61 ?_
    refine r_sub [3, 2, 1, 0] (ls' := [(0, vR l0), (2, vI a32), (3, vI a42), (4, vI 0)]) rfl ?_
    exact tX0_findPaths_63 F h
  · replace h := ite_n h hc
    obtain rfl := Option.some.inj h
    exact r_vret F dX0_findPaths_11
theorem tX3_place_29 {E : En} {p : Program} {l : Launch} {e : Env} {s : State} {m : MethodId} {args : Array Value} {below : List Frame} {meth : Method} {c : Code} {q : Int × Mem} {l0 l1 l2 s0 : Int} {M : Mem} (F : Fx E p s m args meth c cX3_place 5 yX3_place.cls (some FieldType.int) yX3_place.name) (h : mX3_place_29 l0 l1 l2 s0 M = some q) : G E p l e (rmOf 0 0 0) s m args below meth c 5 (QZ E below args s (rmOf 0 0 0) (some (vI q.1)) q.2) 0 0 M 29 [(0, vR l0), (1, vI l1), (2, vI l2)] [vI s0] := by
  unfold mX3_place_29 at h
  refine r_istore (ls' := [(4, vI s0), (0, vR l0), (1, vI l1), (2, vI l2)]) F (by decide) rfl dX3_place_29 ?_
  refine r_iload_n (j := 3) F rfl rfl dX3_place_31 ?_
  refine r_if_lt (tgt := 61) F (by decide) dX3_place_32 (fun hc => ?_) (fun hc => ?_)
  · replace h := ite_p h hc
    refine r_iconst F rfl dX3_place_61 ?_
    obtain rfl := Option.some.inj h
    exact r_iret F dX3_place_62
  · replace h := ite_n h hc
    refine r_iload_n (j := 3) F rfl rfl dX3_place_35 ?_
    refine r_aload_n (j := 1) F rfl rfl dX3_place_36 ?_
    replace h := bind_so h
    obtain ⟨a37, h37, h⟩ := h
    refine r_getT (t := 2) rfl clok_3 F (by decide) h37 tw_170 dX3_place_37 ?_
    refine r_iload_n (j := 2) F rfl rfl dX3_place_40 ?_
    replace h := bind_so h
    obtain ⟨a41, h41, h⟩ := h
    refine r_iald F h41 dX3_place_41 ?_
    refine r_icmp_ge (tgt := 61) F (by decide) dX3_place_42 (fun hc => ?_) (fun hc => ?_)
    · replace h := ite_p h hc
      refine r_iconst F rfl dX3_place_61 ?_
      obtain rfl := Option.some.inj h
      exact r_iret F dX3_place_62
    · replace h := ite_n h hc
      refine r_iload (j := 0) F rfl dX3_place_45 ?_
      refine r_if_lt (tgt := 61) F (by decide) dX3_place_47 (fun hc => ?_) (fun hc => ?_)
      · replace h := ite_p h hc
        refine r_iconst F rfl dX3_place_61 ?_
        obtain rfl := Option.some.inj h
        exact r_iret F dX3_place_62
      · replace h := ite_n h hc
        refine r_iload (j := 0) F rfl dX3_place_50 ?_
        refine r_aload_n (j := 1) F rfl rfl dX3_place_52 ?_
        replace h := bind_so h
        obtain ⟨a53, h53, h⟩ := h
        refine r_getT (t := 2) rfl clok_3 F (by decide) h53 tw_173 dX3_place_53 ?_
        refine r_iload_n (j := 2) F rfl rfl dX3_place_56 ?_
        replace h := bind_so h
        obtain ⟨a57, h57, h⟩ := h
        refine r_iald F h57 dX3_place_57 ?_
        refine r_icmp_lt (tgt := 63) F (by decide) dX3_place_58 (fun hc => ?_) (fun hc => ?_)
        · replace h := ite_p h hc
          refine r_aload_n (j := 1) F rfl rfl dX3_place_63 ?_
          replace h := bind_so h
          obtain ⟨a64, h64, h⟩ := h
          refine r_getT (t := 2) rfl clok_3 F (by decide) h64 tw_167 dX3_place_64 ?_
          refine r_iload_n (j := 2) F rfl rfl dX3_place_67 ?_
          replace h := bind_so h
          obtain ⟨a68, h68, h⟩ := h
          refine r_iald F h68 dX3_place_68 ?_
          refine r_iload_n (j := 3) F rfl rfl dX3_place_69 ?_
          refine r_aload_n (j := 1) F rfl rfl dX3_place_70 ?_
          replace h := bind_so h
          obtain ⟨a71, h71, h⟩ := h
          refine r_getT (t := 2) rfl clok_3 F (by decide) h71 tw_173 dX3_place_71 ?_
          refine r_iload_n (j := 2) F rfl rfl dX3_place_74 ?_
          replace h := bind_so h
          obtain ⟨a75, h75, h⟩ := h
          refine r_iald F h75 dX3_place_75 ?_
          refine r_imul F dX3_place_76 ?_
          refine r_iadd F dX3_place_77 ?_
          refine r_iload (j := 0) F rfl dX3_place_78 ?_
          refine r_iadd F dX3_place_80 ?_
          obtain rfl := Option.some.inj h
          exact r_iret F dX3_place_81
        · replace h := ite_n h hc
          refine r_iconst F rfl dX3_place_61 ?_
          obtain rfl := Option.some.inj h
          exact r_iret F dX3_place_62
theorem tX3_place {l0 l1 l2 l3 : Int} {M : Mem} {q : Int × Mem} (h : mX3_place l0 l1 l2 l3 M = some q) : Ct 0 0 0 yX3_place cX3_place 5 (some FieldType.int) [vR l0, vI l1, vI l2, vI l3] M (some (vI q.1)) q.2 := by
  unfold mX3_place at h
  refine Ct.of (by decide) (Nat.le_of_ble_eq_true rfl) ?_
  intro E p l e s m args below meth c F
  refine r_sub [0, 1, 2, 3] (ls' := [(0, vR l0), (1, vI l1), (2, vI l2), (3, vI l3)]) rfl ?_
  refine r_iload_n (j := 1) F rfl rfl dX3_place_0 ?_
  refine r_if_lt (tgt := 12) F (by decide) dX3_place_1 (fun hc => ?_) (fun hc => ?_)
  · replace h := ite_p h hc
    refine r_iconst F rfl dX3_place_12 ?_
    obtain rfl := Option.some.inj h
    exact r_iret F dX3_place_13
  · replace h := ite_n h hc
    refine r_iload_n (j := 1) F rfl rfl dX3_place_4 ?_
    refine r_aload_n (j := 0) F rfl rfl dX3_place_5 ?_
    replace h := bind_so h
    obtain ⟨a6, h6, h⟩ := h
    refine r_getT (t := 0) rfl clok_3 F (by decide) h6 tw_177 dX3_place_6 ?_
    refine r_icmp_lt (tgt := 14) F (by decide) dX3_place_9 (fun hc => ?_) (fun hc => ?_)
    · replace h := ite_p h hc
      refine r_aload_n (j := 0) F rfl rfl dX3_place_14 ?_
      replace h := bind_so h
      obtain ⟨a15, h15, h⟩ := h
      refine r_getT (t := 2) rfl clok_3 F (by decide) h15 tw_164 dX3_place_15 ?_
      refine r_iload_n (j := 1) F rfl rfl dX3_place_18 ?_
      replace h := bind_so h
      obtain ⟨a19, h19, h⟩ := h
      refine r_iald F h19 dX3_place_19 ?_
      refine r_iconst F rfl dX3_place_20 ?_
      refine r_icmp_ne (tgt := 28) F (by decide) dX3_place_21 (fun hc => ?_) (fun hc => ?_)
      · replace h := ite_n h hc
        refine r_iload_n (j := 3) F rfl rfl dX3_place_28 ?_
        refine r_sub [0, 1, 2] (ls' := [(0, vR l0), (1, vI l1), (2, vI l2)]) rfl ?_
        exact tX3_place_29 F h
      · replace h := ite_p h hc
        refine r_iconst F rfl dX3_place_24 ?_
        refine r_goto (tgt := 29) F (by decide) dX3_place_25 ?_
        refine r_sub [0, 1, 2] (ls' := [(0, vR l0), (1, vI l1), (2, vI l2)]) rfl ?_
        exact tX3_place_29 F h
    · replace h := ite_n h hc
      refine r_iconst F rfl dX3_place_12 ?_
      obtain rfl := Option.some.inj h
      exact r_iret F dX3_place_13
theorem tX0_reached {l0 l1 l2 l3 : Int} {M : Mem} {q : Int × Mem} (h : mX0_reached l0 l1 l2 l3 M = some q) : Ct 2 0 0 yX0_reached cX0_reached 5 (some FieldType.long) [vR l0, vI l1, vI l2, vI l3] M (some (vL q.1)) q.2 := by
  unfold mX0_reached at h
  refine Ct.of (by decide) (Nat.le_of_ble_eq_true rfl) ?_
  intro E p l e s m args below meth c F
  refine r_sub [0, 1, 2, 3] (ls' := [(0, vR l0), (1, vI l1), (2, vI l2), (3, vI l3)]) rfl ?_
  refine r_aload_n (j := 0) F rfl rfl dX0_reached_0 ?_
  replace h := bind_so h
  obtain ⟨a1, h1, h⟩ := h
  refine r_getT (t := 2) rfl clok_0 F (by decide) h1 tw_294 dX0_reached_1 ?_
  refine r_iload_n (j := 1) F rfl rfl dX0_reached_4 ?_
  replace h := bind_so h
  obtain ⟨_, g5, h⟩ := h
  replace h := bind_so h
  obtain ⟨q5, h5, h⟩ := h
  refine r_callV (as := [vI l1]) (rv := (some (vI q5.1))) (kc := 0) (nc := 0) (tX3_isOfOneKindTwice h5) clok_3 F (gK_so g5) tw_924 tw_819 tw_820 tw_821 tw_115 ⟨by decide, by decide, show (parseMethodDescriptor yX3_isOfOneKindTwice.desc).map (fun d => d.parameters.length) = some 1 by decide +kernel⟩ ⟨by decide, by decide⟩ (Nat.le_of_ble_eq_true rfl) dX0_reached_5 ?_
  refine r_if_ne (tgt := 13) F (by decide) dX0_reached_8 (fun hc => ?_) (fun hc => ?_)
  · replace h := ite_n h hc
    refine r_aload_n (j := 0) F rfl rfl dX0_reached_13 ?_
    refine r_iload_n (j := 1) F rfl rfl dX0_reached_14 ?_
    replace h := bind_so h
    obtain ⟨_, g15, h⟩ := h
    replace h := bind_so h
    obtain ⟨q15, h15, h⟩ := h
    refine r_callV (as := [vI l1]) (rv := none) (kc := 0) (nc := 0) (tX0_findPaths h15) clok_0 F (gK_so g15) tw_925 tw_927 tw_36 tw_928 tw_116 ⟨by decide, by decide, show (parseMethodDescriptor yX0_findPaths.desc).map (fun d => d.parameters.length) = some 1 by decide +kernel⟩ ⟨by decide, by decide⟩ (Nat.le_of_ble_eq_true rfl) dX0_reached_15 ?_
    refine r_aload_n (j := 0) F rfl rfl dX0_reached_18 ?_
    replace h := bind_so h
    obtain ⟨a19, h19, h⟩ := h
    refine r_getT (t := 2) rfl clok_0 F (by decide) h19 tw_294 dX0_reached_19 ?_
    refine r_iload_n (j := 1) F rfl rfl dX0_reached_22 ?_
    refine r_iload_n (j := 2) F rfl rfl dX0_reached_23 ?_
    refine r_iload_n (j := 3) F rfl rfl dX0_reached_24 ?_
    replace h := bind_so h
    obtain ⟨_, g25, h⟩ := h
    replace h := bind_so h
    obtain ⟨q25, h25, h⟩ := h
    refine r_callV (as := [vI l1, vI l2, vI l3]) (rv := (some (vI q25.1))) (kc := 0) (nc := 0) (tX3_place h25) clok_3 F (gK_so g25) tw_932 tw_547 tw_548 tw_549 tw_115 ⟨by decide, by decide, show (parseMethodDescriptor yX3_place.desc).map (fun d => d.parameters.length) = some 3 by decide +kernel⟩ ⟨by decide, by decide⟩ (Nat.le_of_ble_eq_true rfl) dX0_reached_25 ?_
    refine r_istore (ls' := [(4, vI q25.1), (0, vR l0), (1, vI l1), (2, vI l2), (3, vI l3)]) F (by decide) rfl dX0_reached_28 ?_
    refine r_iload (j := 0) F rfl dX0_reached_30 ?_
    refine r_if_lt (tgt := 52) F (by decide) dX0_reached_32 (fun hc => ?_) (fun hc => ?_)
    · replace h := ite_p h hc
      refine r_lconst F dX0_reached_52 ?_
      refine r_eq (y := 0) rfl ?_
      obtain rfl := Option.some.inj h
      exact r_lret F dX0_reached_53
    · replace h := ite_n h hc
      refine r_iload (j := 0) F rfl dX0_reached_35 ?_
      refine r_bipush F rfl (by decide) dX0_reached_37 ?_
      refine r_icmp_ge (tgt := 52) F (by decide) dX0_reached_39 (fun hc => ?_) (fun hc => ?_)
      · replace h := ite_p h hc
        refine r_lconst F dX0_reached_52 ?_
        refine r_eq (y := 0) rfl ?_
        obtain rfl := Option.some.inj h
        exact r_lret F dX0_reached_53
      · replace h := ite_n h hc
        refine r_aload_n (j := 1) F rfl rfl dX0_reached_42 ?_
        replace h := bind_so h
        obtain ⟨a43, h43, h⟩ := h
        refine r_getT (t := 2) rfl clok_0 F (by decide) h43 tw_298 dX0_reached_43 ?_
        refine r_iload (j := 0) F rfl dX0_reached_46 ?_
        replace h := bind_so h
        obtain ⟨a48, h48, h⟩ := h
        refine r_lald F h48 dX0_reached_48 ?_
        refine r_goto (tgt := 53) F (by decide) dX0_reached_49 ?_
        obtain rfl := Option.some.inj h
        exact r_lret F dX0_reached_53
  · replace h := ite_p h hc
    refine r_lconst F dX0_reached_11 ?_
    refine r_eq (y := 0) rfl ?_
    obtain rfl := Option.some.inj h
    exact r_lret F dX0_reached_12
theorem tbX0_treeLike_56 {E : En} {p : Program} {l : Launch} {e : Env} {s : State} {m : MethodId} {args : Array Value} {below : List Frame} {meth : Method} {c : Code} {q : Int × Mem} {k44 : Int → Int → Int → Int → Int → Mem → Option (Int × Mem)} (hk44 : ∀ {l0 l2 l3 l4 l6 : Int} {M : Mem}, k44 l0 l2 l3 l4 l6 M = some q → G E p l e (rmOf 2 0 0) s m args below meth c 12 (QZ E below args s (rmOf 2 0 0) (some (vL q.1)) q.2) 0 0 M 44 [(0, vR l0), (2, vI l2), (3, vI l3), (4, vL l4), (6, vI l6)] []) {k56 : Int → Int → Int → Int → Int → Int → Int → Mem → Option (Int × Mem)} (hk56 : ∀ {l0 l2 l3 l4 l6 l7 l9 : Int} {M : Mem}, k56 l0 l2 l3 l4 l6 l7 l9 M = some q → G E p l e (rmOf 2 0 0) s m args below meth c 12 (QZ E below args s (rmOf 2 0 0) (some (vL q.1)) q.2) 0 0 M 56 [(0, vR l0), (2, vI l2), (3, vI l3), (4, vL l4), (6, vI l6), (7, vL l7), (9, vI l9)] []) {l0 l2 l3 l4 l6 l7 l9 : Int} {M : Mem} (F : Fx E p s m args meth c cX0_treeLike 12 yX0_treeLike.cls (some FieldType.long) yX0_treeLike.name) (h : bX0_treeLike_56 k44 k56 l0 l2 l3 l4 l6 l7 l9 M = some q) : G E p l e (rmOf 2 0 0) s m args below meth c 12 (QZ E below args s (rmOf 2 0 0) (some (vL q.1)) q.2) 0 0 M 56 [(0, vR l0), (2, vI l2), (3, vI l3), (4, vL l4), (6, vI l6), (7, vL l7), (9, vI l9)] [] := by
  unfold bX0_treeLike_56 at h
  refine r_iload (j := 6) F rfl dX0_treeLike_56 ?_
  refine r_iload_n (j := 2) F rfl rfl dX0_treeLike_58 ?_
  refine r_icmp_ge (tgt := 101) F (by decide) dX0_treeLike_59 (fun hc => ?_) (fun hc => ?_)
  · replace h := ite_p h hc
    refine r_lload (j := 3) F rfl dX0_treeLike_101 ?_
    refine r_aload_n (j := 0) F rfl rfl dX0_treeLike_103 ?_
    replace h := bind_so h
    obtain ⟨a104, h104, h⟩ := h
    refine r_getT (t := 2) rfl clok_0 F (by decide) h104 tw_298 dX0_treeLike_104 ?_
    refine r_iload_n (j := 1) F rfl rfl dX0_treeLike_107 ?_
    refine r_iload (j := 4) F rfl dX0_treeLike_108 ?_
    refine r_iload_n (j := 2) F rfl rfl dX0_treeLike_110 ?_
    refine r_imul F dX0_treeLike_111 ?_
    refine r_iadd F dX0_treeLike_112 ?_
    refine r_iload (j := 4) F rfl dX0_treeLike_113 ?_
    refine r_iadd F dX0_treeLike_115 ?_
    replace h := bind_so h
    obtain ⟨a116, h116, h⟩ := h
    refine r_lald F h116 dX0_treeLike_116 ?_
    refine r_lor F dX0_treeLike_117 ?_
    refine r_lstore (ls' := [(4, vL (lor l4 a116)), (0, vR l0), (2, vI l2), (3, vI l3), (6, vI l6), (7, vL l7), (9, vI l9)]) F (by decide) rfl dX0_treeLike_118 ?_
    refine r_iinc (j := 4) (ls' := [(6, vI (wI (l6 + 1))), (4, vL (lor l4 a116)), (0, vR l0), (2, vI l2), (3, vI l3), (7, vL l7), (9, vI l9)]) F rfl (by decide) rfl dX0_treeLike_120 ?_
    refine r_goto (tgt := 44) F (by decide) dX0_treeLike_123 ?_
    refine r_sub [2, 3, 4, 1, 0] (ls' := [(0, vR l0), (2, vI l2), (3, vI l3), (4, vL (lor l4 a116)), (6, vI (wI (l6 + 1)))]) rfl ?_
    exact hk44 h
  · replace h := ite_n h hc
    refine r_aload_n (j := 0) F rfl rfl dX0_treeLike_62 ?_
    replace h := bind_so h
    obtain ⟨a63, h63, h⟩ := h
    refine r_getT (t := 2) rfl clok_0 F (by decide) h63 tw_296 dX0_treeLike_63 ?_
    refine r_iload_n (j := 1) F rfl rfl dX0_treeLike_66 ?_
    refine r_iload (j := 4) F rfl dX0_treeLike_67 ?_
    refine r_iload_n (j := 2) F rfl rfl dX0_treeLike_69 ?_
    refine r_imul F dX0_treeLike_70 ?_
    refine r_iadd F dX0_treeLike_71 ?_
    refine r_iload (j := 6) F rfl dX0_treeLike_72 ?_
    refine r_iadd F dX0_treeLike_74 ?_
    replace h := bind_so h
    obtain ⟨a75, h75, h⟩ := h
    refine r_lald F h75 dX0_treeLike_75 ?_
    refine r_lstore (ls' := [(10, vL a75), (0, vR l0), (2, vI l2), (3, vI l3), (4, vL l4), (6, vI l6), (7, vL l7), (9, vI l9)]) F (by decide) rfl dX0_treeLike_76 ?_
    refine r_lload (j := 4) F rfl dX0_treeLike_78 ?_
    refine r_lload (j := 6) F rfl dX0_treeLike_80 ?_
    refine r_lload (j := 0) F rfl dX0_treeLike_82 ?_
    refine r_land F dX0_treeLike_84 ?_
    refine r_lor F dX0_treeLike_85 ?_
    refine r_lstore (ls' := [(4, vL (lor l4 (land l7 a75))), (10, vL a75), (0, vR l0), (2, vI l2), (3, vI l3), (6, vI l6), (7, vL l7), (9, vI l9)]) F (by decide) rfl dX0_treeLike_86 ?_
    refine r_lload (j := 6) F rfl dX0_treeLike_88 ?_
    refine r_lload (j := 1) F rfl dX0_treeLike_90 ?_
    refine r_lor F dX0_treeLike_92 ?_
    refine r_lstore (ls' := [(7, vL (lor l7 a75)), (4, vL (lor l4 (land l7 a75))), (10, vL a75), (0, vR l0), (2, vI l2), (3, vI l3), (6, vI l6), (9, vI l9)]) F (by decide) rfl dX0_treeLike_93 ?_
    refine r_iinc (j := 7) (ls' := [(9, vI (wI (l9 + 1))), (7, vL (lor l7 a75)), (4, vL (lor l4 (land l7 a75))), (10, vL a75), (0, vR l0), (2, vI l2), (3, vI l3), (6, vI l6)]) F rfl (by decide) rfl dX0_treeLike_95 ?_
    refine r_goto (tgt := 56) F (by decide) dX0_treeLike_98 ?_
    refine r_sub [4, 5, 6, 2, 7, 1, 0] (ls' := [(0, vR l0), (2, vI l2), (3, vI l3), (4, vL (lor l4 (land l7 a75))), (6, vI l6), (7, vL (lor l7 a75)), (9, vI (wI (l9 + 1)))]) rfl ?_
    exact hk56 h
theorem tX0_treeLike_56 {E : En} {p : Program} {l : Launch} {e : Env} {s : State} {m : MethodId} {args : Array Value} {below : List Frame} {meth : Method} {c : Code} {q : Int × Mem} {k44 : Int → Int → Int → Int → Int → Mem → Option (Int × Mem)} (hk44 : ∀ {l0 l2 l3 l4 l6 : Int} {M : Mem}, k44 l0 l2 l3 l4 l6 M = some q → G E p l e (rmOf 2 0 0) s m args below meth c 12 (QZ E below args s (rmOf 2 0 0) (some (vL q.1)) q.2) 0 0 M 44 [(0, vR l0), (2, vI l2), (3, vI l3), (4, vL l4), (6, vI l6)] []) (F : Fx E p s m args meth c cX0_treeLike 12 yX0_treeLike.cls (some FieldType.long) yX0_treeLike.name) : ∀ {fu : Nat} {l0 l2 l3 l4 l6 l7 l9 : Int} {M : Mem}, mX0_treeLike_56 k44 fu l0 l2 l3 l4 l6 l7 l9 M = some q → G E p l e (rmOf 2 0 0) s m args below meth c 12 (QZ E below args s (rmOf 2 0 0) (some (vL q.1)) q.2) 0 0 M 56 [(0, vR l0), (2, vI l2), (3, vI l3), (4, vL l4), (6, vI l6), (7, vL l7), (9, vI l9)] [] := by
  intro fu
  induction fu with
  | zero => intro l0 l2 l3 l4 l6 l7 l9 M h; exact nomatch (show (none : Option (Int × Mem)) = some q from h)
  | succ fu ih => intro l0 l2 l3 l4 l6 l7 l9 M h; exact tbX0_treeLike_56 (fun h => hk44 h) (fun h => ih h) F h
theorem tbX0_treeLike_44 {E : En} {p : Program} {l : Launch} {e : Env} {s : State} {m : MethodId} {args : Array Value} {below : List Frame} {meth : Method} {c : Code} {q : Int × Mem} {k44 : Int → Int → Int → Int → Int → Mem → Option (Int × Mem)} (hk44 : ∀ {l0 l2 l3 l4 l6 : Int} {M : Mem}, k44 l0 l2 l3 l4 l6 M = some q → G E p l e (rmOf 2 0 0) s m args below meth c 12 (QZ E below args s (rmOf 2 0 0) (some (vL q.1)) q.2) 0 0 M 44 [(0, vR l0), (2, vI l2), (3, vI l3), (4, vL l4), (6, vI l6)] []) {l0 l2 l3 l4 l6 : Int} {M : Mem} (F : Fx E p s m args meth c cX0_treeLike 12 yX0_treeLike.cls (some FieldType.long) yX0_treeLike.name) (h : bX0_treeLike_44 k44 l0 l2 l3 l4 l6 M = some q) : G E p l e (rmOf 2 0 0) s m args below meth c 12 (QZ E below args s (rmOf 2 0 0) (some (vL q.1)) q.2) 0 0 M 44 [(0, vR l0), (2, vI l2), (3, vI l3), (4, vL l4), (6, vI l6)] [] := by
  unfold bX0_treeLike_44 at h
  refine r_iload (j := 4) F rfl dX0_treeLike_44 ?_
  refine r_iload_n (j := 2) F rfl rfl dX0_treeLike_46 ?_
  refine r_icmp_ge (tgt := 126) F (by decide) dX0_treeLike_47 (fun hc => ?_) (fun hc => ?_)
  · replace h := ite_p h hc
    refine r_lload (j := 3) F rfl dX0_treeLike_126 ?_
    refine r_ldc2v (x := (-1)) F (by unfold InL; omega) (by decide) tw_896 dX0_treeLike_128 ?_
    refine r_lxor F dX0_treeLike_131 ?_
    obtain rfl := Option.some.inj h
    exact r_lret F dX0_treeLike_132
  · replace h := ite_n h hc
    refine r_lconst F dX0_treeLike_50 ?_
    refine r_eq (y := 0) rfl ?_
    refine r_lstore (ls' := [(7, vL 0), (0, vR l0), (2, vI l2), (3, vI l3), (4, vL l4), (6, vI l6)]) F (by decide) rfl dX0_treeLike_51 ?_
    refine r_iconst F rfl dX0_treeLike_53 ?_
    refine r_istore (ls' := [(9, vI 0), (7, vL 0), (0, vR l0), (2, vI l2), (3, vI l3), (4, vL l4), (6, vI l6)]) F (by decide) rfl dX0_treeLike_54 ?_
    refine r_sub [2, 3, 4, 5, 6, 1, 0] (ls' := [(0, vR l0), (2, vI l2), (3, vI l3), (4, vL l4), (6, vI l6), (7, vL 0), (9, vI 0)]) rfl ?_
    exact tX0_treeLike_56 (fun h => hk44 h) F h
theorem tX0_treeLike_44 {E : En} {p : Program} {l : Launch} {e : Env} {s : State} {m : MethodId} {args : Array Value} {below : List Frame} {meth : Method} {c : Code} {q : Int × Mem} (F : Fx E p s m args meth c cX0_treeLike 12 yX0_treeLike.cls (some FieldType.long) yX0_treeLike.name) : ∀ {fu : Nat} {l0 l2 l3 l4 l6 : Int} {M : Mem}, mX0_treeLike_44 fu l0 l2 l3 l4 l6 M = some q → G E p l e (rmOf 2 0 0) s m args below meth c 12 (QZ E below args s (rmOf 2 0 0) (some (vL q.1)) q.2) 0 0 M 44 [(0, vR l0), (2, vI l2), (3, vI l3), (4, vL l4), (6, vI l6)] [] := by
  intro fu
  induction fu with
  | zero => intro l0 l2 l3 l4 l6 M h; exact nomatch (show (none : Option (Int × Mem)) = some q from h)
  | succ fu ih => intro l0 l2 l3 l4 l6 M h; exact tbX0_treeLike_44  (fun h => ih h) F h
theorem tX0_treeLike {l0 l1 : Int} {M : Mem} {q : Int × Mem} (h : mX0_treeLike l0 l1 M = some q) : Ct 2 0 0 yX0_treeLike cX0_treeLike 12 (some FieldType.long) [vR l0, vI l1] M (some (vL q.1)) q.2 := by
  unfold mX0_treeLike at h
  refine Ct.of (by decide) (Nat.le_of_ble_eq_true rfl) ?_
  intro E p l e s m args below meth c F
  refine r_sub [0, 1] (ls' := [(0, vR l0), (1, vI l1)]) rfl ?_
  refine r_aload_n (j := 0) F rfl rfl dX0_treeLike_0 ?_
  replace h := bind_so h
  obtain ⟨a1, h1, h⟩ := h
  refine r_getT (t := 2) rfl clok_0 F (by decide) h1 tw_294 dX0_treeLike_1 ?_
  refine r_iload_n (j := 1) F rfl rfl dX0_treeLike_4 ?_
  replace h := bind_so h
  obtain ⟨_, g5, h⟩ := h
  replace h := bind_so h
  obtain ⟨q5, h5, h⟩ := h
  refine r_callV (as := [vI l1]) (rv := (some (vI q5.1))) (kc := 0) (nc := 0) (tX3_isOfOneKindTwice h5) clok_3 F (gK_so g5) tw_924 tw_819 tw_820 tw_821 tw_115 ⟨by decide, by decide, show (parseMethodDescriptor yX3_isOfOneKindTwice.desc).map (fun d => d.parameters.length) = some 1 by decide +kernel⟩ ⟨by decide, by decide⟩ (Nat.le_of_ble_eq_true rfl) dX0_treeLike_5 ?_
  refine r_if_ne (tgt := 13) F (by decide) dX0_treeLike_8 (fun hc => ?_) (fun hc => ?_)
  · replace h := ite_n h hc
    refine r_aload_n (j := 0) F rfl rfl dX0_treeLike_13 ?_
    refine r_iload_n (j := 1) F rfl rfl dX0_treeLike_14 ?_
    replace h := bind_so h
    obtain ⟨_, g15, h⟩ := h
    replace h := bind_so h
    obtain ⟨q15, h15, h⟩ := h
    refine r_callV (as := [vI l1]) (rv := none) (kc := 0) (nc := 0) (tX0_findPaths h15) clok_0 F (gK_so g15) tw_925 tw_927 tw_36 tw_928 tw_116 ⟨by decide, by decide, show (parseMethodDescriptor yX0_findPaths.desc).map (fun d => d.parameters.length) = some 1 by decide +kernel⟩ ⟨by decide, by decide⟩ (Nat.le_of_ble_eq_true rfl) dX0_treeLike_15 ?_
    refine r_aload_n (j := 0) F rfl rfl dX0_treeLike_18 ?_
    replace h := bind_so h
    obtain ⟨a19, h19, h⟩ := h
    refine r_getT (t := 2) rfl clok_0 F (by decide) h19 tw_294 dX0_treeLike_19 ?_
    replace h := bind_so h
    obtain ⟨a22, h22, h⟩ := h
    refine r_getT (t := 2) rfl clok_3 F (by decide) h22 tw_169 dX0_treeLike_22 ?_
    refine r_iload_n (j := 1) F rfl rfl dX0_treeLike_25 ?_
    replace h := bind_so h
    obtain ⟨a26, h26, h⟩ := h
    refine r_iald F h26 dX0_treeLike_26 ?_
    refine r_istore_n (ls' := [(2, vI a26), (0, vR l0), (1, vI l1)]) F rfl (by decide) rfl dX0_treeLike_27 ?_
    refine r_aload_n (j := 1) F rfl rfl dX0_treeLike_28 ?_
    replace h := bind_so h
    obtain ⟨a29, h29, h⟩ := h
    refine r_getT (t := 2) rfl clok_0 F (by decide) h29 tw_294 dX0_treeLike_29 ?_
    replace h := bind_so h
    obtain ⟨a32, h32, h⟩ := h
    refine r_getT (t := 2) rfl clok_3 F (by decide) h32 tw_176 dX0_treeLike_32 ?_
    refine r_iload_n (j := 2) F rfl rfl dX0_treeLike_35 ?_
    replace h := bind_so h
    obtain ⟨a36, h36, h⟩ := h
    refine r_iald F h36 dX0_treeLike_36 ?_
    refine r_istore_n (ls' := [(3, vI a36), (2, vI a26), (0, vR l0), (1, vI l1)]) F rfl (by decide) rfl dX0_treeLike_37 ?_
    refine r_lconst F dX0_treeLike_38 ?_
    refine r_eq (y := 0) rfl ?_
    refine r_lstore (ls' := [(4, vL 0), (3, vI a36), (2, vI a26), (0, vR l0), (1, vI l1)]) F (by decide) rfl dX0_treeLike_39 ?_
    refine r_iconst F rfl dX0_treeLike_41 ?_
    refine r_istore (ls' := [(6, vI 0), (4, vL 0), (3, vI a36), (2, vI a26), (0, vR l0), (1, vI l1)]) F (by decide) rfl dX0_treeLike_42 ?_
    refine r_sub [4, 3, 2, 1, 0] (ls' := [(0, vR l0), (2, vI a26), (3, vI a36), (4, vL 0), (6, vI 0)]) rfl ?_
    exact tX0_treeLike_44 F h
  · replace h := ite_p h hc
    refine r_lconst F dX0_treeLike_11 ?_
    refine r_eq (y := 0) rfl ?_
    obtain rfl := Option.some.inj h
    exact r_lret F dX0_treeLike_12
theorem tX0_factAt {l0 l1 l2 l3 : Int} {M : Mem} {q : Int × Mem} (h : mX0_factAt l0 l1 l2 l3 M = some q) : Ct 1 0 0 yX0_factAt cX0_factAt 5 (some FieldType.long) [vR l0, vI l1, vI l2, vI l3] M (some (vL q.1)) q.2 := by
  unfold mX0_factAt at h
  refine Ct.of (by decide) (Nat.le_of_ble_eq_true rfl) ?_
  intro E p l e s m args below meth c F
  refine r_sub [0, 1, 2, 3] (ls' := [(0, vR l0), (1, vI l1), (2, vI l2), (3, vI l3)]) rfl ?_
  refine r_aload_n (j := 0) F rfl rfl dX0_factAt_0 ?_
  replace h := bind_so h
  obtain ⟨a1, h1, h⟩ := h
  refine r_getT (t := 2) rfl clok_0 F (by decide) h1 tw_294 dX0_factAt_1 ?_
  refine r_iload_n (j := 1) F rfl rfl dX0_factAt_4 ?_
  refine r_iload_n (j := 2) F rfl rfl dX0_factAt_5 ?_
  refine r_iload_n (j := 3) F rfl rfl dX0_factAt_6 ?_
  replace h := bind_so h
  obtain ⟨_, g7, h⟩ := h
  replace h := bind_so h
  obtain ⟨q7, h7, h⟩ := h
  refine r_callV (as := [vI l1, vI l2, vI l3]) (rv := (some (vI q7.1))) (kc := 0) (nc := 0) (tX3_place h7) clok_3 F (gK_so g7) tw_932 tw_547 tw_548 tw_549 tw_115 ⟨by decide, by decide, show (parseMethodDescriptor yX3_place.desc).map (fun d => d.parameters.length) = some 3 by decide +kernel⟩ ⟨by decide, by decide⟩ (Nat.le_of_ble_eq_true rfl) dX0_factAt_7 ?_
  refine r_istore (ls' := [(4, vI q7.1), (0, vR l0), (1, vI l1), (2, vI l2), (3, vI l3)]) F (by decide) rfl dX0_factAt_10 ?_
  refine r_iload (j := 0) F rfl dX0_factAt_12 ?_
  refine r_if_lt (tgt := 34) F (by decide) dX0_factAt_14 (fun hc => ?_) (fun hc => ?_)
  · replace h := ite_p h hc
    refine r_lconst F dX0_factAt_34 ?_
    refine r_eq (y := 0) rfl ?_
    obtain rfl := Option.some.inj h
    exact r_lret F dX0_factAt_35
  · replace h := ite_n h hc
    refine r_iload (j := 0) F rfl dX0_factAt_17 ?_
    refine r_bipush F rfl (by decide) dX0_factAt_19 ?_
    refine r_icmp_ge (tgt := 34) F (by decide) dX0_factAt_21 (fun hc => ?_) (fun hc => ?_)
    · replace h := ite_p h hc
      refine r_lconst F dX0_factAt_34 ?_
      refine r_eq (y := 0) rfl ?_
      obtain rfl := Option.some.inj h
      exact r_lret F dX0_factAt_35
    · replace h := ite_n h hc
      refine r_aload_n (j := 1) F rfl rfl dX0_factAt_24 ?_
      replace h := bind_so h
      obtain ⟨a25, h25, h⟩ := h
      refine r_getT (t := 2) rfl clok_0 F (by decide) h25 tw_296 dX0_factAt_25 ?_
      refine r_iload (j := 0) F rfl dX0_factAt_28 ?_
      replace h := bind_so h
      obtain ⟨a30, h30, h⟩ := h
      refine r_lald F h30 dX0_factAt_30 ?_
      refine r_goto (tgt := 35) F (by decide) dX0_factAt_31 ?_
      obtain rfl := Option.some.inj h
      exact r_lret F dX0_factAt_35
theorem tX0_judged {H : Nat} (hH : 8 ≤ H) {f_judged : Int → Int → Int → Mem → Option (Int × Mem)} {f_counted : Int → Int → Int → Mem → Option (Int × Mem)} {f_joined : Int → Int → Int → Mem → Option (Int × Mem)} (hf_judged : ∀ {x0 x1 x2 : Int} {M : Mem} {q : Int × Mem}, f_judged x0 x1 x2 M = some q → Ct H 0 0 yX0_judged cX0_judged 3 (some FieldType.long) [vR x0, vI x1, vI x2] M (some (vL q.1)) q.2) (hf_counted : ∀ {x0 x1 x2 : Int} {M : Mem} {q : Int × Mem}, f_counted x0 x1 x2 M = some q → Ct H 0 0 yX0_counted cX0_counted 14 (some FieldType.long) [vR x0, vI x1, vI x2] M (some (vL q.1)) q.2) (hf_joined : ∀ {x0 x1 x2 : Int} {M : Mem} {q : Int × Mem}, f_joined x0 x1 x2 M = some q → Ct H 0 0 yX0_joined cX0_joined 6 (some FieldType.long) [vR x0, vI x1, vI x2] M (some (vL q.1)) q.2) {l0 l1 l2 : Int} {M : Mem} {q : Int × Mem} (h : mX0_judged f_judged f_counted f_joined l0 l1 l2 M = some q) : Ct (H + 1) 0 0 yX0_judged cX0_judged 3 (some FieldType.long) [vR l0, vI l1, vI l2] M (some (vL q.1)) q.2 := by
  unfold mX0_judged at h
  refine Ct.of (by decide) (Nat.le_of_ble_eq_true rfl) ?_
  intro E p l e s m args below meth c F
  refine r_sub [0, 1, 2] (ls' := [(0, vR l0), (1, vI l1), (2, vI l2)]) rfl ?_
  refine r_iload_n (j := 1) F rfl rfl dX0_judged_0 ?_
  refine r_aload_n (j := 0) F rfl rfl dX0_judged_1 ?_
  replace h := bind_so h
  obtain ⟨a2, h2, h⟩ := h
  refine r_getT (t := 2) rfl clok_0 F (by decide) h2 tw_295 dX0_judged_2 ?_
  replace h := bind_so h
  obtain ⟨a5, h5, h⟩ := h
  refine r_getT (t := 0) rfl clok_5 F (by decide) h5 tw_432 dX0_judged_5 ?_
  refine r_icmp_ge (tgt := 17) F (by decide) dX0_judged_8 (fun hc => ?_) (fun hc => ?_)
  · replace h := ite_p h hc
    refine r_lconst F dX0_judged_17 ?_
    refine r_eq (y := 0) rfl ?_
    obtain rfl := Option.some.inj h
    exact r_lret F dX0_judged_18
  · replace h := ite_n h hc
    refine r_iload_n (j := 2) F rfl rfl dX0_judged_11 ?_
    refine r_bipush F rfl (by decide) dX0_judged_12 ?_
    refine r_icmp_le (tgt := 19) F (by decide) dX0_judged_14 (fun hc => ?_) (fun hc => ?_)
    · replace h := ite_p h hc
      refine r_aload_n (j := 0) F rfl rfl dX0_judged_19 ?_
      replace h := bind_so h
      obtain ⟨a20, h20, h⟩ := h
      refine r_getT (t := 2) rfl clok_0 F (by decide) h20 tw_295 dX0_judged_20 ?_
      replace h := bind_so h
      obtain ⟨a23, h23, h⟩ := h
      refine r_getT (t := 2) rfl clok_5 F (by decide) h23 tw_421 dX0_judged_23 ?_
      refine r_iload_n (j := 1) F rfl rfl dX0_judged_26 ?_
      replace h := bind_so h
      obtain ⟨a27, h27, h⟩ := h
      refine r_iald F h27 dX0_judged_27 ?_
      by_cases hc0 : a27 = 0
      · replace h := ite_p h hc0
        refine r_tIn (off := 60) (tgt := 88) F (by omega) (by omega) (by rw [hc0]; rfl) (by decide) dX0_judged_28 ?_
        refine r_aload_n (j := 0) F rfl rfl dX0_judged_88 ?_
        refine r_iload_n (j := 1) F rfl rfl dX0_judged_89 ?_
        refine r_iload_n (j := 2) F rfl rfl dX0_judged_90 ?_
        replace h := bind_so h
        obtain ⟨_, g91, h⟩ := h
        replace h := bind_so h
        obtain ⟨q91, h91, h⟩ := h
        refine r_callV (as := [vI l1, vI l2]) (rv := (some (vL q91.1))) (kc := 0) (nc := 0) (hf_counted h91) clok_0 F (gK_so g91) tw_901 tw_903 tw_31 tw_904 tw_116 ⟨by decide, by decide, show (parseMethodDescriptor yX0_counted.desc).map (fun d => d.parameters.length) = some 2 by decide +kernel⟩ ⟨by show _ ≤ H + 1; omega, by show _ ≤ 64 * (H + 1); omega⟩ (Nat.le_of_ble_eq_true rfl) dX0_judged_91 ?_
        obtain rfl := Option.some.inj h
        exact r_lret F dX0_judged_94
      replace h := ite_n h hc0
      by_cases hc1 : a27 = 1
      · replace h := ite_p h hc1
        refine r_tIn (off := 60) (tgt := 88) F (by omega) (by omega) (by rw [hc1]; rfl) (by decide) dX0_judged_28 ?_
        refine r_aload_n (j := 0) F rfl rfl dX0_judged_88 ?_
        refine r_iload_n (j := 1) F rfl rfl dX0_judged_89 ?_
        refine r_iload_n (j := 2) F rfl rfl dX0_judged_90 ?_
        replace h := bind_so h
        obtain ⟨_, g91, h⟩ := h
        replace h := bind_so h
        obtain ⟨q91, h91, h⟩ := h
        refine r_callV (as := [vI l1, vI l2]) (rv := (some (vL q91.1))) (kc := 0) (nc := 0) (hf_counted h91) clok_0 F (gK_so g91) tw_901 tw_903 tw_31 tw_904 tw_116 ⟨by decide, by decide, show (parseMethodDescriptor yX0_counted.desc).map (fun d => d.parameters.length) = some 2 by decide +kernel⟩ ⟨by show _ ≤ H + 1; omega, by show _ ≤ 64 * (H + 1); omega⟩ (Nat.le_of_ble_eq_true rfl) dX0_judged_91 ?_
        obtain rfl := Option.some.inj h
        exact r_lret F dX0_judged_94
      replace h := ite_n h hc1
      by_cases hc2 : a27 = 2
      · replace h := ite_p h hc2
        refine r_tIn (off := 60) (tgt := 88) F (by omega) (by omega) (by rw [hc2]; rfl) (by decide) dX0_judged_28 ?_
        refine r_aload_n (j := 0) F rfl rfl dX0_judged_88 ?_
        refine r_iload_n (j := 1) F rfl rfl dX0_judged_89 ?_
        refine r_iload_n (j := 2) F rfl rfl dX0_judged_90 ?_
        replace h := bind_so h
        obtain ⟨_, g91, h⟩ := h
        replace h := bind_so h
        obtain ⟨q91, h91, h⟩ := h
        refine r_callV (as := [vI l1, vI l2]) (rv := (some (vL q91.1))) (kc := 0) (nc := 0) (hf_counted h91) clok_0 F (gK_so g91) tw_901 tw_903 tw_31 tw_904 tw_116 ⟨by decide, by decide, show (parseMethodDescriptor yX0_counted.desc).map (fun d => d.parameters.length) = some 2 by decide +kernel⟩ ⟨by show _ ≤ H + 1; omega, by show _ ≤ 64 * (H + 1); omega⟩ (Nat.le_of_ble_eq_true rfl) dX0_judged_91 ?_
        obtain rfl := Option.some.inj h
        exact r_lret F dX0_judged_94
      replace h := ite_n h hc2
      by_cases hc3 : a27 = 3
      · replace h := ite_p h hc3
        refine r_tIn (off := 60) (tgt := 88) F (by omega) (by omega) (by rw [hc3]; rfl) (by decide) dX0_judged_28 ?_
        refine r_aload_n (j := 0) F rfl rfl dX0_judged_88 ?_
        refine r_iload_n (j := 1) F rfl rfl dX0_judged_89 ?_
        refine r_iload_n (j := 2) F rfl rfl dX0_judged_90 ?_
        replace h := bind_so h
        obtain ⟨_, g91, h⟩ := h
        replace h := bind_so h
        obtain ⟨q91, h91, h⟩ := h
        refine r_callV (as := [vI l1, vI l2]) (rv := (some (vL q91.1))) (kc := 0) (nc := 0) (hf_counted h91) clok_0 F (gK_so g91) tw_901 tw_903 tw_31 tw_904 tw_116 ⟨by decide, by decide, show (parseMethodDescriptor yX0_counted.desc).map (fun d => d.parameters.length) = some 2 by decide +kernel⟩ ⟨by show _ ≤ H + 1; omega, by show _ ≤ 64 * (H + 1); omega⟩ (Nat.le_of_ble_eq_true rfl) dX0_judged_91 ?_
        obtain rfl := Option.some.inj h
        exact r_lret F dX0_judged_94
      replace h := ite_n h hc3
      by_cases hc4 : a27 = 4
      · replace h := ite_p h hc4
        refine r_tIn (off := 67) (tgt := 95) F (by omega) (by omega) (by rw [hc4]; rfl) (by decide) dX0_judged_28 ?_
        refine r_aload_n (j := 0) F rfl rfl dX0_judged_95 ?_
        refine r_iload_n (j := 1) F rfl rfl dX0_judged_96 ?_
        refine r_iload_n (j := 2) F rfl rfl dX0_judged_97 ?_
        replace h := bind_so h
        obtain ⟨_, g98, h⟩ := h
        replace h := bind_so h
        obtain ⟨q98, h98, h⟩ := h
        refine r_callV (as := [vI l1, vI l2]) (rv := (some (vL q98.1))) (kc := 0) (nc := 0) (hf_joined h98) clok_0 F (gK_so g98) tw_912 tw_914 tw_33 tw_915 tw_116 ⟨by decide, by decide, show (parseMethodDescriptor yX0_joined.desc).map (fun d => d.parameters.length) = some 2 by decide +kernel⟩ ⟨by show _ ≤ H + 1; omega, by show _ ≤ 64 * (H + 1); omega⟩ (Nat.le_of_ble_eq_true rfl) dX0_judged_98 ?_
        obtain rfl := Option.some.inj h
        exact r_lret F dX0_judged_101
      replace h := ite_n h hc4
      by_cases hc5 : a27 = 5
      · replace h := ite_p h hc5
        refine r_tIn (off := 67) (tgt := 95) F (by omega) (by omega) (by rw [hc5]; rfl) (by decide) dX0_judged_28 ?_
        refine r_aload_n (j := 0) F rfl rfl dX0_judged_95 ?_
        refine r_iload_n (j := 1) F rfl rfl dX0_judged_96 ?_
        refine r_iload_n (j := 2) F rfl rfl dX0_judged_97 ?_
        replace h := bind_so h
        obtain ⟨_, g98, h⟩ := h
        replace h := bind_so h
        obtain ⟨q98, h98, h⟩ := h
        refine r_callV (as := [vI l1, vI l2]) (rv := (some (vL q98.1))) (kc := 0) (nc := 0) (hf_joined h98) clok_0 F (gK_so g98) tw_912 tw_914 tw_33 tw_915 tw_116 ⟨by decide, by decide, show (parseMethodDescriptor yX0_joined.desc).map (fun d => d.parameters.length) = some 2 by decide +kernel⟩ ⟨by show _ ≤ H + 1; omega, by show _ ≤ 64 * (H + 1); omega⟩ (Nat.le_of_ble_eq_true rfl) dX0_judged_98 ?_
        obtain rfl := Option.some.inj h
        exact r_lret F dX0_judged_101
      replace h := ite_n h hc5
      by_cases hc6 : a27 = 6
      · replace h := ite_p h hc6
        refine r_tIn (off := 67) (tgt := 95) F (by omega) (by omega) (by rw [hc6]; rfl) (by decide) dX0_judged_28 ?_
        refine r_aload_n (j := 0) F rfl rfl dX0_judged_95 ?_
        refine r_iload_n (j := 1) F rfl rfl dX0_judged_96 ?_
        refine r_iload_n (j := 2) F rfl rfl dX0_judged_97 ?_
        replace h := bind_so h
        obtain ⟨_, g98, h⟩ := h
        replace h := bind_so h
        obtain ⟨q98, h98, h⟩ := h
        refine r_callV (as := [vI l1, vI l2]) (rv := (some (vL q98.1))) (kc := 0) (nc := 0) (hf_joined h98) clok_0 F (gK_so g98) tw_912 tw_914 tw_33 tw_915 tw_116 ⟨by decide, by decide, show (parseMethodDescriptor yX0_joined.desc).map (fun d => d.parameters.length) = some 2 by decide +kernel⟩ ⟨by show _ ≤ H + 1; omega, by show _ ≤ 64 * (H + 1); omega⟩ (Nat.le_of_ble_eq_true rfl) dX0_judged_98 ?_
        obtain rfl := Option.some.inj h
        exact r_lret F dX0_judged_101
      replace h := ite_n h hc6
      by_cases hc7 : a27 = 7
      · replace h := ite_p h hc7
        refine r_tIn (off := 67) (tgt := 95) F (by omega) (by omega) (by rw [hc7]; rfl) (by decide) dX0_judged_28 ?_
        refine r_aload_n (j := 0) F rfl rfl dX0_judged_95 ?_
        refine r_iload_n (j := 1) F rfl rfl dX0_judged_96 ?_
        refine r_iload_n (j := 2) F rfl rfl dX0_judged_97 ?_
        replace h := bind_so h
        obtain ⟨_, g98, h⟩ := h
        replace h := bind_so h
        obtain ⟨q98, h98, h⟩ := h
        refine r_callV (as := [vI l1, vI l2]) (rv := (some (vL q98.1))) (kc := 0) (nc := 0) (hf_joined h98) clok_0 F (gK_so g98) tw_912 tw_914 tw_33 tw_915 tw_116 ⟨by decide, by decide, show (parseMethodDescriptor yX0_joined.desc).map (fun d => d.parameters.length) = some 2 by decide +kernel⟩ ⟨by show _ ≤ H + 1; omega, by show _ ≤ 64 * (H + 1); omega⟩ (Nat.le_of_ble_eq_true rfl) dX0_judged_98 ?_
        obtain rfl := Option.some.inj h
        exact r_lret F dX0_judged_101
      replace h := ite_n h hc7
      by_cases hc8 : a27 = 8
      · replace h := ite_p h hc8
        refine r_tIn (off := 74) (tgt := 102) F (by omega) (by omega) (by rw [hc8]; rfl) (by decide) dX0_judged_28 ?_
        refine r_aload_n (j := 0) F rfl rfl dX0_judged_102 ?_
        refine r_aload_n (j := 0) F rfl rfl dX0_judged_103 ?_
        replace h := bind_so h
        obtain ⟨a104, h104, h⟩ := h
        refine r_getT (t := 2) rfl clok_0 F (by decide) h104 tw_295 dX0_judged_104 ?_
        replace h := bind_so h
        obtain ⟨a107, h107, h⟩ := h
        refine r_getT (t := 2) rfl clok_5 F (by decide) h107 tw_425 dX0_judged_107 ?_
        refine r_iload_n (j := 1) F rfl rfl dX0_judged_110 ?_
        replace h := bind_so h
        obtain ⟨a111, h111, h⟩ := h
        refine r_iald F h111 dX0_judged_111 ?_
        replace h := bind_so h
        obtain ⟨_, g112, h⟩ := h
        replace h := bind_so h
        obtain ⟨q112, h112, h⟩ := h
        refine r_callV (as := [vI a111]) (rv := (some (vI q112.1))) (kc := 0) (nc := 0) (tX0_slot h112) clok_0 F (gK_so g112) tw_916 tw_918 tw_34 tw_919 tw_116 ⟨by decide, by decide, show (parseMethodDescriptor yX0_slot.desc).map (fun d => d.parameters.length) = some 1 by decide +kernel⟩ ⟨by show _ ≤ H + 1; omega, by show _ ≤ 64 * (H + 1); omega⟩ (Nat.le_of_ble_eq_true rfl) dX0_judged_112 ?_
        refine r_aload_n (j := 0) F rfl rfl dX0_judged_115 ?_
        refine r_aload_n (j := 0) F rfl rfl dX0_judged_116 ?_
        replace h := bind_so h
        obtain ⟨a117, h117, h⟩ := h
        refine r_getT (t := 2) rfl clok_0 F (by decide) h117 tw_295 dX0_judged_117 ?_
        replace h := bind_so h
        obtain ⟨a120, h120, h⟩ := h
        refine r_getT (t := 2) rfl clok_5 F (by decide) h120 tw_427 dX0_judged_120 ?_
        refine r_iload_n (j := 1) F rfl rfl dX0_judged_123 ?_
        replace h := bind_so h
        obtain ⟨a124, h124, h⟩ := h
        refine r_iald F h124 dX0_judged_124 ?_
        replace h := bind_so h
        obtain ⟨_, g125, h⟩ := h
        replace h := bind_so h
        obtain ⟨q125, h125, h⟩ := h
        refine r_callV (as := [vI a124]) (rv := (some (vI q125.1))) (kc := 0) (nc := 0) (tX0_slot h125) clok_0 F (gK_so g125) tw_916 tw_918 tw_34 tw_919 tw_116 ⟨by decide, by decide, show (parseMethodDescriptor yX0_slot.desc).map (fun d => d.parameters.length) = some 1 by decide +kernel⟩ ⟨by show _ ≤ H + 1; omega, by show _ ≤ 64 * (H + 1); omega⟩ (Nat.le_of_ble_eq_true rfl) dX0_judged_125 ?_
        refine r_icmp_ne (tgt := 137) F (by decide) dX0_judged_128 (fun hc => ?_) (fun hc => ?_)
        · replace h := ite_n h hc
          refine r_lconst F dX0_judged_137 ?_
          refine r_eq (y := 0) rfl ?_
          obtain rfl := Option.some.inj h
          exact r_lret F dX0_judged_138
        · replace h := ite_p h hc
          refine r_ldc2v (x := (-1)) F (by unfold InL; omega) (by decide) tw_896 dX0_judged_131 ?_
          refine r_goto (tgt := 138) F (by decide) dX0_judged_134 ?_
          obtain rfl := Option.some.inj h
          exact r_lret F dX0_judged_138
      replace h := ite_n h hc8
      by_cases hc9 : a27 = 9
      · replace h := ite_p h hc9
        refine r_tIn (off := 111) (tgt := 139) F (by omega) (by omega) (by rw [hc9]; rfl) (by decide) dX0_judged_28 ?_
        refine r_aload_n (j := 0) F rfl rfl dX0_judged_139 ?_
        refine r_aload_n (j := 0) F rfl rfl dX0_judged_140 ?_
        replace h := bind_so h
        obtain ⟨a141, h141, h⟩ := h
        refine r_getT (t := 2) rfl clok_0 F (by decide) h141 tw_295 dX0_judged_141 ?_
        replace h := bind_so h
        obtain ⟨a144, h144, h⟩ := h
        refine r_getT (t := 2) rfl clok_5 F (by decide) h144 tw_423 dX0_judged_144 ?_
        refine r_iload_n (j := 1) F rfl rfl dX0_judged_147 ?_
        replace h := bind_so h
        obtain ⟨a148, h148, h⟩ := h
        refine r_iald F h148 dX0_judged_148 ?_
        refine r_aload_n (j := 0) F rfl rfl dX0_judged_149 ?_
        refine r_aload_n (j := 0) F rfl rfl dX0_judged_150 ?_
        replace h := bind_so h
        obtain ⟨a151, h151, h⟩ := h
        refine r_getT (t := 2) rfl clok_0 F (by decide) h151 tw_295 dX0_judged_151 ?_
        replace h := bind_so h
        obtain ⟨a154, h154, h⟩ := h
        refine r_getT (t := 2) rfl clok_5 F (by decide) h154 tw_425 dX0_judged_154 ?_
        refine r_iload_n (j := 1) F rfl rfl dX0_judged_157 ?_
        replace h := bind_so h
        obtain ⟨a158, h158, h⟩ := h
        refine r_iald F h158 dX0_judged_158 ?_
        replace h := bind_so h
        obtain ⟨_, g159, h⟩ := h
        replace h := bind_so h
        obtain ⟨q159, h159, h⟩ := h
        refine r_callV (as := [vI a158]) (rv := (some (vI q159.1))) (kc := 0) (nc := 0) (tX0_slot h159) clok_0 F (gK_so g159) tw_916 tw_918 tw_34 tw_919 tw_116 ⟨by decide, by decide, show (parseMethodDescriptor yX0_slot.desc).map (fun d => d.parameters.length) = some 1 by decide +kernel⟩ ⟨by show _ ≤ H + 1; omega, by show _ ≤ 64 * (H + 1); omega⟩ (Nat.le_of_ble_eq_true rfl) dX0_judged_159 ?_
        refine r_aload_n (j := 0) F rfl rfl dX0_judged_162 ?_
        refine r_aload_n (j := 0) F rfl rfl dX0_judged_163 ?_
        replace h := bind_so h
        obtain ⟨a164, h164, h⟩ := h
        refine r_getT (t := 2) rfl clok_0 F (by decide) h164 tw_295 dX0_judged_164 ?_
        replace h := bind_so h
        obtain ⟨a167, h167, h⟩ := h
        refine r_getT (t := 2) rfl clok_5 F (by decide) h167 tw_427 dX0_judged_167 ?_
        refine r_iload_n (j := 1) F rfl rfl dX0_judged_170 ?_
        replace h := bind_so h
        obtain ⟨a171, h171, h⟩ := h
        refine r_iald F h171 dX0_judged_171 ?_
        replace h := bind_so h
        obtain ⟨_, g172, h⟩ := h
        replace h := bind_so h
        obtain ⟨q172, h172, h⟩ := h
        refine r_callV (as := [vI a171]) (rv := (some (vI q172.1))) (kc := 0) (nc := 0) (tX0_slot h172) clok_0 F (gK_so g172) tw_916 tw_918 tw_34 tw_919 tw_116 ⟨by decide, by decide, show (parseMethodDescriptor yX0_slot.desc).map (fun d => d.parameters.length) = some 1 by decide +kernel⟩ ⟨by show _ ≤ H + 1; omega, by show _ ≤ 64 * (H + 1); omega⟩ (Nat.le_of_ble_eq_true rfl) dX0_judged_172 ?_
        replace h := bind_so h
        obtain ⟨_, g175, h⟩ := h
        replace h := bind_so h
        obtain ⟨q175, h175, h⟩ := h
        refine r_callV (as := [vI a148, vI q159.1, vI q172.1]) (rv := (some (vL q175.1))) (kc := 0) (nc := 0) (tX0_reached h175) clok_0 F (gK_so g175) tw_920 tw_922 tw_35 tw_923 tw_116 ⟨by decide, by decide, show (parseMethodDescriptor yX0_reached.desc).map (fun d => d.parameters.length) = some 3 by decide +kernel⟩ ⟨by show _ ≤ H + 1; omega, by show _ ≤ 64 * (H + 1); omega⟩ (Nat.le_of_ble_eq_true rfl) dX0_judged_175 ?_
        obtain rfl := Option.some.inj h
        exact r_lret F dX0_judged_178
      replace h := ite_n h hc9
      by_cases hc10 : a27 = 10
      · replace h := ite_p h hc10
        refine r_tIn (off := 151) (tgt := 179) F (by omega) (by omega) (by rw [hc10]; rfl) (by decide) dX0_judged_28 ?_
        refine r_aload_n (j := 0) F rfl rfl dX0_judged_179 ?_
        refine r_aload_n (j := 0) F rfl rfl dX0_judged_180 ?_
        replace h := bind_so h
        obtain ⟨a181, h181, h⟩ := h
        refine r_getT (t := 2) rfl clok_0 F (by decide) h181 tw_295 dX0_judged_181 ?_
        replace h := bind_so h
        obtain ⟨a184, h184, h⟩ := h
        refine r_getT (t := 2) rfl clok_5 F (by decide) h184 tw_423 dX0_judged_184 ?_
        refine r_iload_n (j := 1) F rfl rfl dX0_judged_187 ?_
        replace h := bind_so h
        obtain ⟨a188, h188, h⟩ := h
        refine r_iald F h188 dX0_judged_188 ?_
        replace h := bind_so h
        obtain ⟨_, g189, h⟩ := h
        replace h := bind_so h
        obtain ⟨q189, h189, h⟩ := h
        refine r_callV (as := [vI a188]) (rv := (some (vL q189.1))) (kc := 0) (nc := 0) (tX0_treeLike h189) clok_0 F (gK_so g189) tw_933 tw_935 tw_37 tw_936 tw_116 ⟨by decide, by decide, show (parseMethodDescriptor yX0_treeLike.desc).map (fun d => d.parameters.length) = some 1 by decide +kernel⟩ ⟨by show _ ≤ H + 1; omega, by show _ ≤ 64 * (H + 1); omega⟩ (Nat.le_of_ble_eq_true rfl) dX0_judged_189 ?_
        obtain rfl := Option.some.inj h
        exact r_lret F dX0_judged_192
      replace h := ite_n h hc10
      refine r_tOut (tgt := 193) F (by omega) (by decide) dX0_judged_28 ?_
      refine r_aload_n (j := 0) F rfl rfl dX0_judged_193 ?_
      refine r_aload_n (j := 0) F rfl rfl dX0_judged_194 ?_
      replace h := bind_so h
      obtain ⟨a195, h195, h⟩ := h
      refine r_getT (t := 2) rfl clok_0 F (by decide) h195 tw_295 dX0_judged_195 ?_
      replace h := bind_so h
      obtain ⟨a198, h198, h⟩ := h
      refine r_getT (t := 2) rfl clok_5 F (by decide) h198 tw_423 dX0_judged_198 ?_
      refine r_iload_n (j := 1) F rfl rfl dX0_judged_201 ?_
      replace h := bind_so h
      obtain ⟨a202, h202, h⟩ := h
      refine r_iald F h202 dX0_judged_202 ?_
      refine r_aload_n (j := 0) F rfl rfl dX0_judged_203 ?_
      refine r_aload_n (j := 0) F rfl rfl dX0_judged_204 ?_
      replace h := bind_so h
      obtain ⟨a205, h205, h⟩ := h
      refine r_getT (t := 2) rfl clok_0 F (by decide) h205 tw_295 dX0_judged_205 ?_
      replace h := bind_so h
      obtain ⟨a208, h208, h⟩ := h
      refine r_getT (t := 2) rfl clok_5 F (by decide) h208 tw_425 dX0_judged_208 ?_
      refine r_iload_n (j := 1) F rfl rfl dX0_judged_211 ?_
      replace h := bind_so h
      obtain ⟨a212, h212, h⟩ := h
      refine r_iald F h212 dX0_judged_212 ?_
      replace h := bind_so h
      obtain ⟨_, g213, h⟩ := h
      replace h := bind_so h
      obtain ⟨q213, h213, h⟩ := h
      refine r_callV (as := [vI a212]) (rv := (some (vI q213.1))) (kc := 0) (nc := 0) (tX0_slot h213) clok_0 F (gK_so g213) tw_916 tw_918 tw_34 tw_919 tw_116 ⟨by decide, by decide, show (parseMethodDescriptor yX0_slot.desc).map (fun d => d.parameters.length) = some 1 by decide +kernel⟩ ⟨by show _ ≤ H + 1; omega, by show _ ≤ 64 * (H + 1); omega⟩ (Nat.le_of_ble_eq_true rfl) dX0_judged_213 ?_
      refine r_aload_n (j := 0) F rfl rfl dX0_judged_216 ?_
      refine r_aload_n (j := 0) F rfl rfl dX0_judged_217 ?_
      replace h := bind_so h
      obtain ⟨a218, h218, h⟩ := h
      refine r_getT (t := 2) rfl clok_0 F (by decide) h218 tw_295 dX0_judged_218 ?_
      replace h := bind_so h
      obtain ⟨a221, h221, h⟩ := h
      refine r_getT (t := 2) rfl clok_5 F (by decide) h221 tw_427 dX0_judged_221 ?_
      refine r_iload_n (j := 1) F rfl rfl dX0_judged_224 ?_
      replace h := bind_so h
      obtain ⟨a225, h225, h⟩ := h
      refine r_iald F h225 dX0_judged_225 ?_
      replace h := bind_so h
      obtain ⟨_, g226, h⟩ := h
      replace h := bind_so h
      obtain ⟨q226, h226, h⟩ := h
      refine r_callV (as := [vI a225]) (rv := (some (vI q226.1))) (kc := 0) (nc := 0) (tX0_slot h226) clok_0 F (gK_so g226) tw_916 tw_918 tw_34 tw_919 tw_116 ⟨by decide, by decide, show (parseMethodDescriptor yX0_slot.desc).map (fun d => d.parameters.length) = some 1 by decide +kernel⟩ ⟨by show _ ≤ H + 1; omega, by show _ ≤ 64 * (H + 1); omega⟩ (Nat.le_of_ble_eq_true rfl) dX0_judged_226 ?_
      replace h := bind_so h
      obtain ⟨_, g229, h⟩ := h
      replace h := bind_so h
      obtain ⟨q229, h229, h⟩ := h
      refine r_callV (as := [vI a202, vI q213.1, vI q226.1]) (rv := (some (vL q229.1))) (kc := 0) (nc := 0) (tX0_factAt h229) clok_0 F (gK_so g229) tw_937 tw_939 tw_38 tw_940 tw_116 ⟨by decide, by decide, show (parseMethodDescriptor yX0_factAt.desc).map (fun d => d.parameters.length) = some 3 by decide +kernel⟩ ⟨by show _ ≤ H + 1; omega, by show _ ≤ 64 * (H + 1); omega⟩ (Nat.le_of_ble_eq_true rfl) dX0_judged_229 ?_
      obtain rfl := Option.some.inj h
      exact r_lret F dX0_judged_232
    · replace h := ite_n h hc
      refine r_lconst F dX0_judged_17 ?_
      refine r_eq (y := 0) rfl ?_
      obtain rfl := Option.some.inj h
      exact r_lret F dX0_judged_18
theorem tbX0_counted_42 {E : En} {p : Program} {l : Launch} {e : Env} {s : State} {m : MethodId} {args : Array Value} {below : List Frame} {meth : Method} {c : Code} {q : Int × Mem} {H : Nat} (hH : 8 ≤ H) {f_judged : Int → Int → Int → Mem → Option (Int × Mem)} {f_counted : Int → Int → Int → Mem → Option (Int × Mem)} {f_joined : Int → Int → Int → Mem → Option (Int × Mem)} (hf_judged : ∀ {x0 x1 x2 : Int} {M : Mem} {q : Int × Mem}, f_judged x0 x1 x2 M = some q → Ct H 0 0 yX0_judged cX0_judged 3 (some FieldType.long) [vR x0, vI x1, vI x2] M (some (vL q.1)) q.2) (hf_counted : ∀ {x0 x1 x2 : Int} {M : Mem} {q : Int × Mem}, f_counted x0 x1 x2 M = some q → Ct H 0 0 yX0_counted cX0_counted 14 (some FieldType.long) [vR x0, vI x1, vI x2] M (some (vL q.1)) q.2) (hf_joined : ∀ {x0 x1 x2 : Int} {M : Mem} {q : Int × Mem}, f_joined x0 x1 x2 M = some q → Ct H 0 0 yX0_joined cX0_joined 6 (some FieldType.long) [vR x0, vI x1, vI x2] M (some (vL q.1)) q.2) {k42 : Int → Int → Int → Int → Int → Int → Int → Int → Int → Mem → Option (Int × Mem)} (hk42 : ∀ {l0 l1 l2 l3 l4 l5 l7 l9 l11 : Int} {M : Mem}, k42 l0 l1 l2 l3 l4 l5 l7 l9 l11 M = some q → G E p l e (rmOf (H + 1) 0 0) s m args below meth c 14 (QZ E below args s (rmOf (H + 1) 0 0) (some (vL q.1)) q.2) 0 0 M 42 [(0, vR l0), (1, vI l1), (2, vI l2), (3, vI l3), (4, vI l4), (5, vL l5), (7, vL l7), (9, vL l9), (11, vI l11)] []) {l0 l1 l2 l3 l4 l5 l7 l9 l11 : Int} {M : Mem} (F : Fx E p s m args meth c cX0_counted 14 yX0_counted.cls (some FieldType.long) yX0_counted.name) (h : bX0_counted_42 f_judged f_counted f_joined k42 l0 l1 l2 l3 l4 l5 l7 l9 l11 M = some q) : G E p l e (rmOf (H + 1) 0 0) s m args below meth c 14 (QZ E below args s (rmOf (H + 1) 0 0) (some (vL q.1)) q.2) 0 0 M 42 [(0, vR l0), (1, vI l1), (2, vI l2), (3, vI l3), (4, vI l4), (5, vL l5), (7, vL l7), (9, vL l9), (11, vI l11)] [] := by
  unfold bX0_counted_42 at h
  refine r_iload (j := 8) F rfl dX0_counted_42 ?_
  refine r_iload_n (j := 3) F rfl rfl dX0_counted_44 ?_
  refine r_icmp_ge (tgt := 102) F (by decide) dX0_counted_45 (fun hc => ?_) (fun hc => ?_)
  · replace h := ite_p h hc
    refine r_aload_n (j := 0) F rfl rfl dX0_counted_102 ?_
    replace h := bind_so h
    obtain ⟨a103, h103, h⟩ := h
    refine r_getT (t := 2) rfl clok_0 F (by decide) h103 tw_295 dX0_counted_103 ?_
    replace h := bind_so h
    obtain ⟨a106, h106, h⟩ := h
    refine r_getT (t := 2) rfl clok_5 F (by decide) h106 tw_421 dX0_counted_106 ?_
    refine r_iload_n (j := 1) F rfl rfl dX0_counted_109 ?_
    replace h := bind_so h
    obtain ⟨a110, h110, h⟩ := h
    refine r_iald F h110 dX0_counted_110 ?_
    by_cases hc0 : a110 = 0
    · replace h := ite_p h hc0
      refine r_tIn (off := 25) (tgt := 136) F (by omega) (by omega) (by rw [hc0]; rfl) (by decide) dX0_counted_111 ?_
      refine r_iload_n (j := 3) F rfl rfl dX0_counted_136 ?_
      refine r_lload (j := 5) F rfl dX0_counted_137 ?_
      refine r_lload (j := 6) F rfl dX0_counted_139 ?_
      refine r_lload (j := 7) F rfl dX0_counted_141 ?_
      replace h := bind_so h
      obtain ⟨q143, h143, h⟩ := h
      refine r_callS (as := [vI l3, vL l5, vL l7, vL l9]) (rv := (some (vL q143.1))) (kc := 0) (nc := 0) (tX0_atLeast h143) F tw_909 tw_910 tw_911 tw_116 ⟨by decide, by decide, show (parseMethodDescriptor yX0_atLeast.desc).map (fun d => d.parameters.length) = some 4 by decide +kernel⟩ ⟨by show _ ≤ H + 1; omega, by show _ ≤ 64 * (H + 1); omega⟩ (Nat.le_of_ble_eq_true rfl) dX0_counted_143 ?_
      obtain rfl := Option.some.inj h
      exact r_lret F dX0_counted_146
    replace h := ite_n h hc0
    by_cases hc1 : a110 = 1
    · replace h := ite_p h hc1
      refine r_tIn (off := 36) (tgt := 147) F (by omega) (by omega) (by rw [hc1]; rfl) (by decide) dX0_counted_111 ?_
      refine r_lload (j := 5) F rfl dX0_counted_147 ?_
      obtain rfl := Option.some.inj h
      exact r_lret F dX0_counted_149
    replace h := ite_n h hc1
    by_cases hc2 : a110 = 2
    · replace h := ite_p h hc2
      refine r_tIn (off := 39) (tgt := 150) F (by omega) (by omega) (by rw [hc2]; rfl) (by decide) dX0_counted_111 ?_
      refine r_aload_n (j := 0) F rfl rfl dX0_counted_150 ?_
      replace h := bind_so h
      obtain ⟨a151, h151, h⟩ := h
      refine r_getT (t := 2) rfl clok_0 F (by decide) h151 tw_295 dX0_counted_151 ?_
      replace h := bind_so h
      obtain ⟨a154, h154, h⟩ := h
      refine r_getT (t := 2) rfl clok_5 F (by decide) h154 tw_423 dX0_counted_154 ?_
      refine r_iload_n (j := 1) F rfl rfl dX0_counted_157 ?_
      replace h := bind_so h
      obtain ⟨a158, h158, h⟩ := h
      refine r_iald F h158 dX0_counted_158 ?_
      refine r_lload (j := 5) F rfl dX0_counted_159 ?_
      refine r_lload (j := 6) F rfl dX0_counted_161 ?_
      refine r_lload (j := 7) F rfl dX0_counted_163 ?_
      replace h := bind_so h
      obtain ⟨q165, h165, h⟩ := h
      refine r_callS (as := [vI a158, vL l5, vL l7, vL l9]) (rv := (some (vL q165.1))) (kc := 0) (nc := 0) (tX0_atLeast h165) F tw_909 tw_910 tw_911 tw_116 ⟨by decide, by decide, show (parseMethodDescriptor yX0_atLeast.desc).map (fun d => d.parameters.length) = some 4 by decide +kernel⟩ ⟨by show _ ≤ H + 1; omega, by show _ ≤ 64 * (H + 1); omega⟩ (Nat.le_of_ble_eq_true rfl) dX0_counted_165 ?_
      obtain rfl := Option.some.inj h
      exact r_lret F dX0_counted_168
    replace h := ite_n h hc2
    refine r_tOut (tgt := 169) F (by omega) (by decide) dX0_counted_111 ?_
    refine r_aload_n (j := 0) F rfl rfl dX0_counted_169 ?_
    replace h := bind_so h
    obtain ⟨a170, h170, h⟩ := h
    refine r_getT (t := 2) rfl clok_0 F (by decide) h170 tw_295 dX0_counted_170 ?_
    replace h := bind_so h
    obtain ⟨a173, h173, h⟩ := h
    refine r_getT (t := 2) rfl clok_5 F (by decide) h173 tw_423 dX0_counted_173 ?_
    refine r_iload_n (j := 1) F rfl rfl dX0_counted_176 ?_
    replace h := bind_so h
    obtain ⟨a177, h177, h⟩ := h
    refine r_iald F h177 dX0_counted_177 ?_
    refine r_iconst F rfl dX0_counted_178 ?_
    refine r_iadd F dX0_counted_179 ?_
    refine r_lload (j := 5) F rfl dX0_counted_180 ?_
    refine r_lload (j := 6) F rfl dX0_counted_182 ?_
    refine r_lload (j := 7) F rfl dX0_counted_184 ?_
    replace h := bind_so h
    obtain ⟨q186, h186, h⟩ := h
    refine r_callS (as := [vI (wI (a177 + 1)), vL l5, vL l7, vL l9]) (rv := (some (vL q186.1))) (kc := 0) (nc := 0) (tX0_atLeast h186) F tw_909 tw_910 tw_911 tw_116 ⟨by decide, by decide, show (parseMethodDescriptor yX0_atLeast.desc).map (fun d => d.parameters.length) = some 4 by decide +kernel⟩ ⟨by show _ ≤ H + 1; omega, by show _ ≤ 64 * (H + 1); omega⟩ (Nat.le_of_ble_eq_true rfl) dX0_counted_186 ?_
    refine r_ldc2v (x := (-1)) F (by unfold InL; omega) (by decide) tw_896 dX0_counted_189 ?_
    refine r_lxor F dX0_counted_192 ?_
    obtain rfl := Option.some.inj h
    exact r_lret F dX0_counted_193
  · replace h := ite_n h hc
    refine r_aload_n (j := 0) F rfl rfl dX0_counted_48 ?_
    replace h := bind_so h
    obtain ⟨a49, h49, h⟩ := h
    refine r_getT (t := 2) rfl clok_0 F (by decide) h49 tw_297 dX0_counted_49 ?_
    refine r_iload (j := 4) F rfl dX0_counted_52 ?_
    refine r_iload (j := 8) F rfl dX0_counted_54 ?_
    replace h := bind_so h
    obtain ⟨M56, h56, h⟩ := h
    refine r_iast F h56 dX0_counted_56 ?_
    refine r_aload_n (j := 0) F rfl rfl dX0_counted_57 ?_
    refine r_iload_n (j := 1) F rfl rfl dX0_counted_58 ?_
    refine r_iconst F rfl dX0_counted_59 ?_
    refine r_iadd F dX0_counted_60 ?_
    refine r_iload_n (j := 2) F rfl rfl dX0_counted_61 ?_
    refine r_iconst F rfl dX0_counted_62 ?_
    refine r_iadd F dX0_counted_63 ?_
    replace h := bind_so h
    obtain ⟨_, g64, h⟩ := h
    replace h := bind_so h
    obtain ⟨q64, h64, h⟩ := h
    refine r_callV (as := [vI (wI (l1 + 1)), vI (wI (l2 + 1))]) (rv := (some (vL q64.1))) (kc := 0) (nc := 0) (hf_judged h64) clok_0 F (gK_so g64) tw_897 tw_899 tw_30 tw_900 tw_116 ⟨by decide, by decide, show (parseMethodDescriptor yX0_judged.desc).map (fun d => d.parameters.length) = some 2 by decide +kernel⟩ ⟨by show _ ≤ H + 1; omega, by show _ ≤ 64 * (H + 1); omega⟩ (Nat.le_of_ble_eq_true rfl) dX0_counted_64 ?_
    refine r_lstore (ls' := [(12, vL q64.1), (0, vR l0), (1, vI l1), (2, vI l2), (3, vI l3), (4, vI l4), (5, vL l5), (7, vL l7), (9, vL l9), (11, vI l11)]) F (by decide) rfl dX0_counted_67 ?_
    refine r_lload (j := 8) F rfl dX0_counted_69 ?_
    refine r_lload (j := 7) F rfl dX0_counted_71 ?_
    refine r_lload (j := 0) F rfl dX0_counted_73 ?_
    refine r_land F dX0_counted_75 ?_
    refine r_lor F dX0_counted_76 ?_
    refine r_lstore (ls' := [(9, vL (lor l9 (land l7 q64.1))), (12, vL q64.1), (0, vR l0), (1, vI l1), (2, vI l2), (3, vI l3), (4, vI l4), (5, vL l5), (7, vL l7), (11, vI l11)]) F (by decide) rfl dX0_counted_77 ?_
    refine r_lload (j := 8) F rfl dX0_counted_79 ?_
    refine r_lload (j := 7) F rfl dX0_counted_81 ?_
    refine r_lload (j := 1) F rfl dX0_counted_83 ?_
    refine r_land F dX0_counted_85 ?_
    refine r_lor F dX0_counted_86 ?_
    refine r_lstore (ls' := [(7, vL (lor l7 (land l5 q64.1))), (9, vL (lor l9 (land l7 q64.1))), (12, vL q64.1), (0, vR l0), (1, vI l1), (2, vI l2), (3, vI l3), (4, vI l4), (5, vL l5), (11, vI l11)]) F (by decide) rfl dX0_counted_87 ?_
    refine r_lload (j := 8) F rfl dX0_counted_89 ?_
    refine r_lload (j := 2) F rfl dX0_counted_91 ?_
    refine r_lor F dX0_counted_93 ?_
    refine r_lstore (ls' := [(5, vL (lor l5 q64.1)), (7, vL (lor l7 (land l5 q64.1))), (9, vL (lor l9 (land l7 q64.1))), (12, vL q64.1), (0, vR l0), (1, vI l1), (2, vI l2), (3, vI l3), (4, vI l4), (11, vI l11)]) F (by decide) rfl dX0_counted_94 ?_
    refine r_iinc (j := 9) (ls' := [(11, vI (wI (l11 + 1))), (5, vL (lor l5 q64.1)), (7, vL (lor l7 (land l5 q64.1))), (9, vL (lor l9 (land l7 q64.1))), (12, vL q64.1), (0, vR l0), (1, vI l1), (2, vI l2), (3, vI l3), (4, vI l4)]) F rfl (by decide) rfl dX0_counted_96 ?_
    refine r_goto (tgt := 42) F (by decide) dX0_counted_99 ?_
    refine r_sub [5, 6, 7, 8, 9, 1, 2, 3, 0] (ls' := [(0, vR l0), (1, vI l1), (2, vI l2), (3, vI l3), (4, vI l4), (5, vL (lor l5 q64.1)), (7, vL (lor l7 (land l5 q64.1))), (9, vL (lor l9 (land l7 q64.1))), (11, vI (wI (l11 + 1)))]) rfl ?_
    exact hk42 h
theorem tX0_counted_42 {E : En} {p : Program} {l : Launch} {e : Env} {s : State} {m : MethodId} {args : Array Value} {below : List Frame} {meth : Method} {c : Code} {q : Int × Mem} {H : Nat} (hH : 8 ≤ H) {f_judged : Int → Int → Int → Mem → Option (Int × Mem)} {f_counted : Int → Int → Int → Mem → Option (Int × Mem)} {f_joined : Int → Int → Int → Mem → Option (Int × Mem)} (hf_judged : ∀ {x0 x1 x2 : Int} {M : Mem} {q : Int × Mem}, f_judged x0 x1 x2 M = some q → Ct H 0 0 yX0_judged cX0_judged 3 (some FieldType.long) [vR x0, vI x1, vI x2] M (some (vL q.1)) q.2) (hf_counted : ∀ {x0 x1 x2 : Int} {M : Mem} {q : Int × Mem}, f_counted x0 x1 x2 M = some q → Ct H 0 0 yX0_counted cX0_counted 14 (some FieldType.long) [vR x0, vI x1, vI x2] M (some (vL q.1)) q.2) (hf_joined : ∀ {x0 x1 x2 : Int} {M : Mem} {q : Int × Mem}, f_joined x0 x1 x2 M = some q → Ct H 0 0 yX0_joined cX0_joined 6 (some FieldType.long) [vR x0, vI x1, vI x2] M (some (vL q.1)) q.2) (F : Fx E p s m args meth c cX0_counted 14 yX0_counted.cls (some FieldType.long) yX0_counted.name) : ∀ {fu : Nat} {l0 l1 l2 l3 l4 l5 l7 l9 l11 : Int} {M : Mem}, mX0_counted_42 f_judged f_counted f_joined fu l0 l1 l2 l3 l4 l5 l7 l9 l11 M = some q → G E p l e (rmOf (H + 1) 0 0) s m args below meth c 14 (QZ E below args s (rmOf (H + 1) 0 0) (some (vL q.1)) q.2) 0 0 M 42 [(0, vR l0), (1, vI l1), (2, vI l2), (3, vI l3), (4, vI l4), (5, vL l5), (7, vL l7), (9, vL l9), (11, vI l11)] [] := by
  intro fu
  induction fu with
  | zero => intro l0 l1 l2 l3 l4 l5 l7 l9 l11 M h; exact nomatch (show (none : Option (Int × Mem)) = some q from h)
  | succ fu ih => intro l0 l1 l2 l3 l4 l5 l7 l9 l11 M h; exact tbX0_counted_42 hH (fun h => hf_judged h) (fun h => hf_counted h) (fun h => hf_joined h)  (fun h => ih h) F h
theorem tX0_counted {H : Nat} (hH : 8 ≤ H) {f_judged : Int → Int → Int → Mem → Option (Int × Mem)} {f_counted : Int → Int → Int → Mem → Option (Int × Mem)} {f_joined : Int → Int → Int → Mem → Option (Int × Mem)} (hf_judged : ∀ {x0 x1 x2 : Int} {M : Mem} {q : Int × Mem}, f_judged x0 x1 x2 M = some q → Ct H 0 0 yX0_judged cX0_judged 3 (some FieldType.long) [vR x0, vI x1, vI x2] M (some (vL q.1)) q.2) (hf_counted : ∀ {x0 x1 x2 : Int} {M : Mem} {q : Int × Mem}, f_counted x0 x1 x2 M = some q → Ct H 0 0 yX0_counted cX0_counted 14 (some FieldType.long) [vR x0, vI x1, vI x2] M (some (vL q.1)) q.2) (hf_joined : ∀ {x0 x1 x2 : Int} {M : Mem} {q : Int × Mem}, f_joined x0 x1 x2 M = some q → Ct H 0 0 yX0_joined cX0_joined 6 (some FieldType.long) [vR x0, vI x1, vI x2] M (some (vL q.1)) q.2) {l0 l1 l2 : Int} {M : Mem} {q : Int × Mem} (h : mX0_counted f_judged f_counted f_joined l0 l1 l2 M = some q) : Ct (H + 1) 0 0 yX0_counted cX0_counted 14 (some FieldType.long) [vR l0, vI l1, vI l2] M (some (vL q.1)) q.2 := by
  unfold mX0_counted at h
  refine Ct.of (by decide) (Nat.le_of_ble_eq_true rfl) ?_
  intro E p l e s m args below meth c F
  refine r_sub [0, 1, 2] (ls' := [(0, vR l0), (1, vI l1), (2, vI l2)]) rfl ?_
  refine r_aload_n (j := 0) F rfl rfl dX0_counted_0 ?_
  refine r_iload_n (j := 1) F rfl rfl dX0_counted_1 ?_
  replace h := bind_so h
  obtain ⟨_, g2, h⟩ := h
  replace h := bind_so h
  obtain ⟨q2, h2, h⟩ := h
  refine r_callV (as := [vI l1]) (rv := (some (vI q2.1))) (kc := 0) (nc := 0) (tX0_sizeAt h2) clok_0 F (gK_so g2) tw_905 tw_907 tw_32 tw_908 tw_116 ⟨by decide, by decide, show (parseMethodDescriptor yX0_sizeAt.desc).map (fun d => d.parameters.length) = some 1 by decide +kernel⟩ ⟨by show _ ≤ H + 1; omega, by show _ ≤ 64 * (H + 1); omega⟩ (Nat.le_of_ble_eq_true rfl) dX0_counted_2 ?_
  refine r_istore_n (ls' := [(3, vI q2.1), (0, vR l0), (1, vI l1), (2, vI l2)]) F rfl (by decide) rfl dX0_counted_5 ?_
  refine r_aload_n (j := 1) F rfl rfl dX0_counted_6 ?_
  replace h := bind_so h
  obtain ⟨a7, h7, h⟩ := h
  refine r_getT (t := 2) rfl clok_0 F (by decide) h7 tw_295 dX0_counted_7 ?_
  replace h := bind_so h
  obtain ⟨a10, h10, h⟩ := h
  refine r_getT (t := 2) rfl clok_5 F (by decide) h10 tw_425 dX0_counted_10 ?_
  refine r_iload_n (j := 2) F rfl rfl dX0_counted_13 ?_
  replace h := bind_so h
  obtain ⟨a14, h14, h⟩ := h
  refine r_iald F h14 dX0_counted_14 ?_
  refine r_istore (ls' := [(4, vI a14), (3, vI q2.1), (0, vR l0), (1, vI l1), (2, vI l2)]) F (by decide) rfl dX0_counted_15 ?_
  refine r_iload (j := 0) F rfl dX0_counted_17 ?_
  refine r_if_lt (tgt := 28) F (by decide) dX0_counted_19 (fun hc => ?_) (fun hc => ?_)
  · replace h := ite_p h hc
    refine r_lconst F dX0_counted_28 ?_
    refine r_eq (y := 0) rfl ?_
    obtain rfl := Option.some.inj h
    exact r_lret F dX0_counted_29
  · replace h := ite_n h hc
    refine r_iload (j := 0) F rfl dX0_counted_22 ?_
    refine r_iconst F rfl dX0_counted_24 ?_
    refine r_icmp_lt (tgt := 30) F (by decide) dX0_counted_25 (fun hc => ?_) (fun hc => ?_)
    · replace h := ite_p h hc
      refine r_lconst F dX0_counted_30 ?_
      refine r_eq (y := 0) rfl ?_
      refine r_lstore (ls' := [(5, vL 0), (4, vI a14), (3, vI q2.1), (0, vR l0), (1, vI l1), (2, vI l2)]) F (by decide) rfl dX0_counted_31 ?_
      refine r_lconst F dX0_counted_33 ?_
      refine r_eq (y := 0) rfl ?_
      refine r_lstore (ls' := [(7, vL 0), (5, vL 0), (4, vI a14), (3, vI q2.1), (0, vR l0), (1, vI l1), (2, vI l2)]) F (by decide) rfl dX0_counted_34 ?_
      refine r_lconst F dX0_counted_36 ?_
      refine r_eq (y := 0) rfl ?_
      refine r_lstore (ls' := [(9, vL 0), (7, vL 0), (5, vL 0), (4, vI a14), (3, vI q2.1), (0, vR l0), (1, vI l1), (2, vI l2)]) F (by decide) rfl dX0_counted_37 ?_
      refine r_iconst F rfl dX0_counted_39 ?_
      refine r_istore (ls' := [(11, vI 0), (9, vL 0), (7, vL 0), (5, vL 0), (4, vI a14), (3, vI q2.1), (0, vR l0), (1, vI l1), (2, vI l2)]) F (by decide) rfl dX0_counted_40 ?_
      refine r_sub [6, 7, 8, 5, 4, 3, 2, 1, 0] (ls' := [(0, vR l0), (1, vI l1), (2, vI l2), (3, vI q2.1), (4, vI a14), (5, vL 0), (7, vL 0), (9, vL 0), (11, vI 0)]) rfl ?_
      exact tX0_counted_42 hH (fun h => hf_judged h) (fun h => hf_counted h) (fun h => hf_joined h) F h
    · replace h := ite_n h hc
      refine r_lconst F dX0_counted_28 ?_
      refine r_eq (y := 0) rfl ?_
      obtain rfl := Option.some.inj h
      exact r_lret F dX0_counted_29
theorem tX0_joined {H : Nat} (hH : 8 ≤ H) {f_judged : Int → Int → Int → Mem → Option (Int × Mem)} {f_counted : Int → Int → Int → Mem → Option (Int × Mem)} {f_joined : Int → Int → Int → Mem → Option (Int × Mem)} (hf_judged : ∀ {x0 x1 x2 : Int} {M : Mem} {q : Int × Mem}, f_judged x0 x1 x2 M = some q → Ct H 0 0 yX0_judged cX0_judged 3 (some FieldType.long) [vR x0, vI x1, vI x2] M (some (vL q.1)) q.2) (hf_counted : ∀ {x0 x1 x2 : Int} {M : Mem} {q : Int × Mem}, f_counted x0 x1 x2 M = some q → Ct H 0 0 yX0_counted cX0_counted 14 (some FieldType.long) [vR x0, vI x1, vI x2] M (some (vL q.1)) q.2) (hf_joined : ∀ {x0 x1 x2 : Int} {M : Mem} {q : Int × Mem}, f_joined x0 x1 x2 M = some q → Ct H 0 0 yX0_joined cX0_joined 6 (some FieldType.long) [vR x0, vI x1, vI x2] M (some (vL q.1)) q.2) {l0 l1 l2 : Int} {M : Mem} {q : Int × Mem} (h : mX0_joined f_judged f_counted f_joined l0 l1 l2 M = some q) : Ct (H + 1) 0 0 yX0_joined cX0_joined 6 (some FieldType.long) [vR l0, vI l1, vI l2] M (some (vL q.1)) q.2 := by
  unfold mX0_joined at h
  refine Ct.of (by decide) (Nat.le_of_ble_eq_true rfl) ?_
  intro E p l e s m args below meth c F
  refine r_sub [0, 1, 2] (ls' := [(0, vR l0), (1, vI l1), (2, vI l2)]) rfl ?_
  refine r_iload_n (j := 1) F rfl rfl dX0_joined_0 ?_
  refine r_iconst F rfl dX0_joined_1 ?_
  refine r_iadd F dX0_joined_2 ?_
  refine r_aload_n (j := 0) F rfl rfl dX0_joined_3 ?_
  replace h := bind_so h
  obtain ⟨a4, h4, h⟩ := h
  refine r_getT (t := 2) rfl clok_0 F (by decide) h4 tw_295 dX0_joined_4 ?_
  replace h := bind_so h
  obtain ⟨a7, h7, h⟩ := h
  refine r_getT (t := 0) rfl clok_5 F (by decide) h7 tw_432 dX0_joined_7 ?_
  refine r_icmp_lt (tgt := 15) F (by decide) dX0_joined_10 (fun hc => ?_) (fun hc => ?_)
  · replace h := ite_p h hc
    refine r_aload_n (j := 0) F rfl rfl dX0_joined_15 ?_
    refine r_iload_n (j := 1) F rfl rfl dX0_joined_16 ?_
    refine r_iconst F rfl dX0_joined_17 ?_
    refine r_iadd F dX0_joined_18 ?_
    refine r_iload_n (j := 2) F rfl rfl dX0_joined_19 ?_
    refine r_iconst F rfl dX0_joined_20 ?_
    refine r_iadd F dX0_joined_21 ?_
    replace h := bind_so h
    obtain ⟨_, g22, h⟩ := h
    replace h := bind_so h
    obtain ⟨q22, h22, h⟩ := h
    refine r_callV (as := [vI (wI (l1 + 1)), vI (wI (l2 + 1))]) (rv := (some (vL q22.1))) (kc := 0) (nc := 0) (hf_judged h22) clok_0 F (gK_so g22) tw_897 tw_899 tw_30 tw_900 tw_116 ⟨by decide, by decide, show (parseMethodDescriptor yX0_judged.desc).map (fun d => d.parameters.length) = some 2 by decide +kernel⟩ ⟨by show _ ≤ H + 1; omega, by show _ ≤ 64 * (H + 1); omega⟩ (Nat.le_of_ble_eq_true rfl) dX0_joined_22 ?_
    refine r_lstore_n (ls' := [(3, vL q22.1), (0, vR l0), (1, vI l1), (2, vI l2)]) F rfl (by decide) rfl dX0_joined_25 ?_
    refine r_aload_n (j := 1) F rfl rfl dX0_joined_26 ?_
    replace h := bind_so h
    obtain ⟨a27, h27, h⟩ := h
    refine r_getT (t := 2) rfl clok_0 F (by decide) h27 tw_295 dX0_joined_27 ?_
    replace h := bind_so h
    obtain ⟨a30, h30, h⟩ := h
    refine r_getT (t := 2) rfl clok_5 F (by decide) h30 tw_429 dX0_joined_30 ?_
    refine r_iload_n (j := 2) F rfl rfl dX0_joined_33 ?_
    refine r_iconst F rfl dX0_joined_34 ?_
    refine r_iadd F dX0_joined_35 ?_
    replace h := bind_so h
    obtain ⟨a36, h36, h⟩ := h
    refine r_iald F h36 dX0_joined_36 ?_
    refine r_istore (ls' := [(5, vI a36), (3, vL q22.1), (0, vR l0), (1, vI l1), (2, vI l2)]) F (by decide) rfl dX0_joined_37 ?_
    refine r_aload_n (j := 2) F rfl rfl dX0_joined_39 ?_
    replace h := bind_so h
    obtain ⟨a40, h40, h⟩ := h
    refine r_getT (t := 2) rfl clok_0 F (by decide) h40 tw_295 dX0_joined_40 ?_
    replace h := bind_so h
    obtain ⟨a43, h43, h⟩ := h
    refine r_getT (t := 2) rfl clok_5 F (by decide) h43 tw_421 dX0_joined_43 ?_
    refine r_iload_n (j := 3) F rfl rfl dX0_joined_46 ?_
    replace h := bind_so h
    obtain ⟨a47, h47, h⟩ := h
    refine r_iald F h47 dX0_joined_47 ?_
    by_cases hc0 : a47 = 4
    · replace h := ite_p h hc0
      refine r_tIn (off := 28) (tgt := 76) F (by omega) (by omega) (by rw [hc0]; rfl) (by decide) dX0_joined_48 ?_
      refine r_lload_n (j := 1) F rfl rfl dX0_joined_76 ?_
      refine r_ldc2v (x := (-1)) F (by unfold InL; omega) (by decide) tw_896 dX0_joined_77 ?_
      refine r_lxor F dX0_joined_80 ?_
      obtain rfl := Option.some.inj h
      exact r_lret F dX0_joined_81
    replace h := ite_n h hc0
    by_cases hc1 : a47 = 5
    · replace h := ite_p h hc1
      refine r_tIn (off := 34) (tgt := 82) F (by omega) (by omega) (by rw [hc1]; rfl) (by decide) dX0_joined_48 ?_
      refine r_lload_n (j := 1) F rfl rfl dX0_joined_82 ?_
      refine r_lconst F dX0_joined_83 ?_
      refine r_eq (y := 0) rfl ?_
      refine r_lcmp F dX0_joined_84 ?_
      refine r_if_ne (tgt := 92) F (by decide) dX0_joined_85 (fun hc => ?_) (fun hc => ?_)
      · replace h := ite_n h hc
        refine r_lload_n (j := 1) F rfl rfl dX0_joined_92 ?_
        refine r_aload_n (j := 2) F rfl rfl dX0_joined_93 ?_
        refine r_iload (j := 0) F rfl dX0_joined_94 ?_
        refine r_iload_n (j := 4) F rfl rfl dX0_joined_96 ?_
        refine r_iconst F rfl dX0_joined_97 ?_
        refine r_iadd F dX0_joined_98 ?_
        replace h := bind_so h
        obtain ⟨_, g99, h⟩ := h
        replace h := bind_so h
        obtain ⟨q99, h99, h⟩ := h
        refine r_callV (as := [vI a36, vI (wI (l2 + 1))]) (rv := (some (vL q99.1))) (kc := 0) (nc := 0) (hf_judged h99) clok_0 F (gK_so g99) tw_897 tw_899 tw_30 tw_900 tw_116 ⟨by decide, by decide, show (parseMethodDescriptor yX0_judged.desc).map (fun d => d.parameters.length) = some 2 by decide +kernel⟩ ⟨by show _ ≤ H + 1; omega, by show _ ≤ 64 * (H + 1); omega⟩ (Nat.le_of_ble_eq_true rfl) dX0_joined_99 ?_
        refine r_land F dX0_joined_102 ?_
        obtain rfl := Option.some.inj h
        exact r_lret F dX0_joined_103
      · replace h := ite_p h hc
        refine r_lconst F dX0_joined_88 ?_
        refine r_eq (y := 0) rfl ?_
        refine r_goto (tgt := 103) F (by decide) dX0_joined_89 ?_
        obtain rfl := Option.some.inj h
        exact r_lret F dX0_joined_103
    replace h := ite_n h hc1
    by_cases hc2 : a47 = 6
    · replace h := ite_p h hc2
      refine r_tIn (off := 56) (tgt := 104) F (by omega) (by omega) (by rw [hc2]; rfl) (by decide) dX0_joined_48 ?_
      refine r_lload_n (j := 1) F rfl rfl dX0_joined_104 ?_
      refine r_ldc2v (x := (-1)) F (by unfold InL; omega) (by decide) tw_896 dX0_joined_105 ?_
      refine r_lcmp F dX0_joined_108 ?_
      refine r_if_ne (tgt := 118) F (by decide) dX0_joined_109 (fun hc => ?_) (fun hc => ?_)
      · replace h := ite_n h hc
        refine r_lload_n (j := 1) F rfl rfl dX0_joined_118 ?_
        refine r_aload_n (j := 2) F rfl rfl dX0_joined_119 ?_
        refine r_iload (j := 0) F rfl dX0_joined_120 ?_
        refine r_iload_n (j := 4) F rfl rfl dX0_joined_122 ?_
        refine r_iconst F rfl dX0_joined_123 ?_
        refine r_iadd F dX0_joined_124 ?_
        replace h := bind_so h
        obtain ⟨_, g125, h⟩ := h
        replace h := bind_so h
        obtain ⟨q125, h125, h⟩ := h
        refine r_callV (as := [vI a36, vI (wI (l2 + 1))]) (rv := (some (vL q125.1))) (kc := 0) (nc := 0) (hf_judged h125) clok_0 F (gK_so g125) tw_897 tw_899 tw_30 tw_900 tw_116 ⟨by decide, by decide, show (parseMethodDescriptor yX0_judged.desc).map (fun d => d.parameters.length) = some 2 by decide +kernel⟩ ⟨by show _ ≤ H + 1; omega, by show _ ≤ 64 * (H + 1); omega⟩ (Nat.le_of_ble_eq_true rfl) dX0_joined_125 ?_
        refine r_lor F dX0_joined_128 ?_
        obtain rfl := Option.some.inj h
        exact r_lret F dX0_joined_129
      · replace h := ite_p h hc
        refine r_ldc2v (x := (-1)) F (by unfold InL; omega) (by decide) tw_896 dX0_joined_112 ?_
        refine r_goto (tgt := 129) F (by decide) dX0_joined_115 ?_
        obtain rfl := Option.some.inj h
        exact r_lret F dX0_joined_129
    replace h := ite_n h hc2
    refine r_tOut (tgt := 130) F (by omega) (by decide) dX0_joined_48 ?_
    refine r_lload_n (j := 1) F rfl rfl dX0_joined_130 ?_
    refine r_lconst F dX0_joined_131 ?_
    refine r_eq (y := 0) rfl ?_
    refine r_lcmp F dX0_joined_132 ?_
    refine r_if_ne (tgt := 142) F (by decide) dX0_joined_133 (fun hc => ?_) (fun hc => ?_)
    · replace h := ite_n h hc
      refine r_lload_n (j := 1) F rfl rfl dX0_joined_142 ?_
      refine r_ldc2v (x := (-1)) F (by unfold InL; omega) (by decide) tw_896 dX0_joined_143 ?_
      refine r_lxor F dX0_joined_146 ?_
      refine r_aload_n (j := 2) F rfl rfl dX0_joined_147 ?_
      refine r_iload (j := 0) F rfl dX0_joined_148 ?_
      refine r_iload_n (j := 4) F rfl rfl dX0_joined_150 ?_
      refine r_iconst F rfl dX0_joined_151 ?_
      refine r_iadd F dX0_joined_152 ?_
      replace h := bind_so h
      obtain ⟨_, g153, h⟩ := h
      replace h := bind_so h
      obtain ⟨q153, h153, h⟩ := h
      refine r_callV (as := [vI a36, vI (wI (l2 + 1))]) (rv := (some (vL q153.1))) (kc := 0) (nc := 0) (hf_judged h153) clok_0 F (gK_so g153) tw_897 tw_899 tw_30 tw_900 tw_116 ⟨by decide, by decide, show (parseMethodDescriptor yX0_judged.desc).map (fun d => d.parameters.length) = some 2 by decide +kernel⟩ ⟨by show _ ≤ H + 1; omega, by show _ ≤ 64 * (H + 1); omega⟩ (Nat.le_of_ble_eq_true rfl) dX0_joined_153 ?_
      refine r_lor F dX0_joined_156 ?_
      obtain rfl := Option.some.inj h
      exact r_lret F dX0_joined_157
    · replace h := ite_p h hc
      refine r_ldc2v (x := (-1)) F (by unfold InL; omega) (by decide) tw_896 dX0_joined_136 ?_
      refine r_goto (tgt := 157) F (by decide) dX0_joined_139 ?_
      obtain rfl := Option.some.inj h
      exact r_lret F dX0_joined_157
  · replace h := ite_n h hc
    refine r_lconst F dX0_joined_13 ?_
    refine r_eq (y := 0) rfl ?_
    obtain rfl := Option.some.inj h
    exact r_lret F dX0_joined_14
theorem tgX0_judged : ∀ (d : Nat) {x0 x1 x2 : Int} {M : Mem} {q : Int × Mem}, gX0_judged d x0 x1 x2 M = some q → Ct (2 * d + 8) 0 0 yX0_judged cX0_judged 3 (some .long) [vR x0, vI x1, vI x2] M (some (vL q.1)) q.2 := by
  intro d
  induction d with
  | zero => intro x0 x1 x2 M q h; exact nomatch (show (none : Option (Int × Mem)) = some q from h)
  | succ d ih =>
    intro x0 x1 x2 M q h
    exact tX0_judged (H := 2 * d + 9) (f_judged := noF) (f_counted := mX0_counted (gX0_judged d) noF noF) (f_joined := mX0_joined (gX0_judged d) noF noF) (by omega) (fun h => noF_so h) (fun h => tX0_counted (H := 2 * d + 8) (f_judged := gX0_judged d) (f_counted := noF) (f_joined := noF) (by omega) (fun h => ih h) (fun h => noF_so h) (fun h => noF_so h) h) (fun h => tX0_joined (H := 2 * d + 8) (f_judged := gX0_judged d) (f_counted := noF) (f_joined := noF) (by omega) (fun h => ih h) (fun h => noF_so h) (fun h => noF_so h) h) h
theorem tX0_isSoIn {l0 l1 l2 l3 : Int} {M : Mem} {q : Int × Mem} (h : mX0_isSoIn l0 l1 l2 l3 M = some q) : Ct 99 0 0 yX0_isSoIn cX0_isSoIn 5 (some FieldType.boolean) [vR l0, vR l1, vR l2, vL l3] M (some (vI q.1)) q.2 := by
  unfold mX0_isSoIn at h
  refine Ct.of (by decide) (Nat.le_of_ble_eq_true rfl) ?_
  intro E p l e s m args below meth c F
  refine r_sub [0, 1, 2, 3] (ls' := [(0, vR l0), (1, vR l1), (2, vR l2), (3, vL l3)]) rfl ?_
  refine r_aload_n (j := 0) F rfl rfl dX0_isSoIn_0 ?_
  refine r_aload_n (j := 1) F rfl rfl dX0_isSoIn_1 ?_
  refine r_aload_n (j := 2) F rfl rfl dX0_isSoIn_2 ?_
  refine r_lload_n (j := 3) F rfl rfl dX0_isSoIn_3 ?_
  replace h := bind_so h
  obtain ⟨_, g4, h⟩ := h
  replace h := bind_so h
  obtain ⟨q4, h4, h⟩ := h
  refine r_callV (as := [vR l1, vR l2, vL l3]) (rv := none) (kc := 0) (nc := 0) (tX0_takeWorld h4) clok_0 F (gK_so g4) tw_891 tw_893 tw_29 tw_894 tw_116 ⟨by decide, by decide, show (parseMethodDescriptor yX0_takeWorld.desc).map (fun d => d.parameters.length) = some 3 by decide +kernel⟩ ⟨by decide, by decide⟩ (Nat.le_of_ble_eq_true rfl) dX0_isSoIn_4 ?_
  refine r_aload_n (j := 0) F rfl rfl dX0_isSoIn_7 ?_
  refine r_iconst F rfl dX0_isSoIn_8 ?_
  refine r_iconst F rfl dX0_isSoIn_9 ?_
  replace h := bind_so h
  obtain ⟨_, g10, h⟩ := h
  replace h := bind_so h
  obtain ⟨q10, h10, h⟩ := h
  refine r_callV (as := [vI 0, vI 0]) (rv := (some (vL q10.1))) (kc := 0) (nc := 0) (tgX0_judged 45 h10) clok_0 F (gK_so g10) tw_897 tw_899 tw_30 tw_900 tw_116 ⟨by decide, by decide, show (parseMethodDescriptor yX0_judged.desc).map (fun d => d.parameters.length) = some 2 by decide +kernel⟩ ⟨by decide, by decide⟩ (Nat.le_of_ble_eq_true rfl) dX0_isSoIn_10 ?_
  refine r_lconst F dX0_isSoIn_13 ?_
  refine r_eq (y := 0) rfl ?_
  refine r_lcmp F dX0_isSoIn_14 ?_
  refine r_if_eq (tgt := 22) F (by decide) dX0_isSoIn_15 (fun hc => ?_) (fun hc => ?_)
  · replace h := ite_p h hc
    refine r_iconst F rfl dX0_isSoIn_22 ?_
    obtain rfl := Option.some.inj h
    exact r_zret (Or.inl rfl) F dX0_isSoIn_23
  · replace h := ite_n h hc
    refine r_iconst F rfl dX0_isSoIn_18 ?_
    refine r_goto (tgt := 23) F (by decide) dX0_isSoIn_19 ?_
    obtain rfl := Option.some.inj h
    exact r_zret (Or.inr rfl) F dX0_isSoIn_23
theorem tX7_soAt_18 {E : En} {p : Program} {l : Launch} {e : Env} {s : State} {m : MethodId} {args : Array Value} {below : List Frame} {meth : Method} {c : Code} {q : Int × Mem} {l0 l1 : Int} {M : Mem} (F : Fx E p s m args meth c cX7_soAt 2 yX7_soAt.cls (some FieldType.long) yX7_soAt.name) (h : mX7_soAt_18 l0 l1 M = some q) : G E p l e (rmOf 0 0 0) s m args below meth c 2 (QZ E below args s (rmOf 0 0 0) (some (vL q.1)) q.2) 0 0 M 18 [(0, vI l0), (1, vI l1)] [] := by
  unfold mX7_soAt_18 at h
  refine r_iload_n (j := 1) F rfl rfl dX7_soAt_18 ?_
  refine r_iload_n (j := 0) F rfl rfl dX7_soAt_19 ?_
  refine r_gs_pat F rfl rfl dX7_soAt_20 ?_
  refine r_len_pat F dX7_soAt_23 ?_
  refine r_isub F dX7_soAt_24 ?_
  refine r_ishr F dX7_soAt_25 ?_
  refine r_iconst F rfl dX7_soAt_26 ?_
  refine r_iand F dX7_soAt_27 ?_
  refine r_if_ne (tgt := 35) F (by decide) dX7_soAt_28 (fun hc => ?_) (fun hc => ?_)
  · replace h := ite_n h hc
    refine r_ldc2v (x := (-1)) F (by unfold InL; omega) (by decide) tw_983 dX7_soAt_35 ?_
    obtain rfl := Option.some.inj h
    exact r_lret F dX7_soAt_38
  · replace h := ite_p h hc
    refine r_lconst F dX7_soAt_31 ?_
    refine r_eq (y := 0) rfl ?_
    refine r_goto (tgt := 38) F (by decide) dX7_soAt_32 ?_
    obtain rfl := Option.some.inj h
    exact r_lret F dX7_soAt_38
theorem tX7_soAt {l0 l1 : Int} {M : Mem} {q : Int × Mem} (h : mX7_soAt l0 l1 M = some q) : Ct 0 0 0 yX7_soAt cX7_soAt 2 (some FieldType.long) [vI l0, vI l1] M (some (vL q.1)) q.2 := by
  unfold mX7_soAt at h
  refine Ct.of (by decide) (Nat.le_of_ble_eq_true rfl) ?_
  intro E p l e s m args below meth c F
  refine r_sub [0, 1] (ls' := [(0, vI l0), (1, vI l1)]) rfl ?_
  refine r_iload_n (j := 0) F rfl rfl dX7_soAt_0 ?_
  refine r_if_lt (tgt := 18) F (by decide) dX7_soAt_1 (fun hc => ?_) (fun hc => ?_)
  · replace h := ite_p h hc
    refine r_sub [0, 1] (ls' := [(0, vI l0), (1, vI l1)]) rfl ?_
    exact tX7_soAt_18 F h
  · replace h := ite_n h hc
    refine r_iload_n (j := 0) F rfl rfl dX7_soAt_4 ?_
    refine r_gs_pat F rfl rfl dX7_soAt_5 ?_
    refine r_len_pat F dX7_soAt_8 ?_
    refine r_icmp_ge (tgt := 18) F (by decide) dX7_soAt_9 (fun hc => ?_) (fun hc => ?_)
    · replace h := ite_p h hc
      refine r_sub [0, 1] (ls' := [(0, vI l0), (1, vI l1)]) rfl ?_
      exact tX7_soAt_18 F h
    · replace h := ite_n h hc
      refine r_gs_pat F rfl rfl dX7_soAt_12 ?_
      refine r_iload_n (j := 0) F rfl rfl dX7_soAt_15 ?_
      replace h := bind_so h
      obtain ⟨a16, h16, h⟩ := h
      refine r_ld_pat F h16 dX7_soAt_16 ?_
      obtain rfl := Option.some.inj h
      exact r_lret F dX7_soAt_17
theorem tX0_soInWord_63 {E : En} {p : Program} {l : Launch} {e : Env} {s : State} {m : MethodId} {args : Array Value} {below : List Frame} {meth : Method} {c : Code} {q : Int × Mem} {l0 : Int} {M : Mem} (F : Fx E p s m args meth c cX0_soInWord 5 yX0_soInWord.cls (some FieldType.long) yX0_soInWord.name) (h : mX0_soInWord_63 l0 M = some q) : G E p l e (rmOf 99 0 0) s m args below meth c 5 (QZ E below args s (rmOf 99 0 0) (some (vL q.1)) q.2) 0 0 M 63 [(0, vR l0)] [] := by
  unfold mX0_soInWord_63 at h
  refine r_aload_n (j := 0) F rfl rfl dX0_soInWord_63 ?_
  refine r_iconst F rfl dX0_soInWord_64 ?_
  refine r_iconst F rfl dX0_soInWord_65 ?_
  replace h := bind_so h
  obtain ⟨_, g66, h⟩ := h
  replace h := bind_so h
  obtain ⟨q66, h66, h⟩ := h
  refine r_callV (as := [vI 0, vI 0]) (rv := (some (vL q66.1))) (kc := 0) (nc := 0) (tgX0_judged 45 h66) clok_0 F (gK_so g66) tw_897 tw_899 tw_30 tw_900 tw_116 ⟨by decide, by decide, show (parseMethodDescriptor yX0_judged.desc).map (fun d => d.parameters.length) = some 2 by decide +kernel⟩ ⟨by decide, by decide⟩ (Nat.le_of_ble_eq_true rfl) dX0_soInWord_66 ?_
  obtain rfl := Option.some.inj h
  exact r_lret F dX0_soInWord_69
theorem tbX0_soInWord_18 {E : En} {p : Program} {l : Launch} {e : Env} {s : State} {m : MethodId} {args : Array Value} {below : List Frame} {meth : Method} {c : Code} {q : Int × Mem} {k18 : Int → Int → Int → Mem → Option (Int × Mem)} (hk18 : ∀ {l0 l3 l4 : Int} {M : Mem}, k18 l0 l3 l4 M = some q → G E p l e (rmOf 99 0 0) s m args below meth c 5 (QZ E below args s (rmOf 99 0 0) (some (vL q.1)) q.2) 0 0 M 18 [(0, vR l0), (3, vI l3), (4, vI l4)] []) {l0 l3 l4 : Int} {M : Mem} (F : Fx E p s m args meth c cX0_soInWord 5 yX0_soInWord.cls (some FieldType.long) yX0_soInWord.name) (h : bX0_soInWord_18 k18 l0 l3 l4 M = some q) : G E p l e (rmOf 99 0 0) s m args below meth c 5 (QZ E below args s (rmOf 99 0 0) (some (vL q.1)) q.2) 0 0 M 18 [(0, vR l0), (3, vI l3), (4, vI l4)] [] := by
  unfold bX0_soInWord_18 at h
  refine r_iload (j := 2) F rfl dX0_soInWord_18 ?_
  refine r_aload_n (j := 0) F rfl rfl dX0_soInWord_20 ?_
  replace h := bind_so h
  obtain ⟨a21, h21, h⟩ := h
  refine r_getT (t := 2) rfl clok_0 F (by decide) h21 tw_294 dX0_soInWord_21 ?_
  replace h := bind_so h
  obtain ⟨a24, h24, h⟩ := h
  refine r_getT (t := 0) rfl clok_3 F (by decide) h24 tw_182 dX0_soInWord_24 ?_
  refine r_icmp_ge (tgt := 63) F (by decide) dX0_soInWord_27 (fun hc => ?_) (fun hc => ?_)
  · replace h := ite_p h hc
    refine r_sub [0] (ls' := [(0, vR l0)]) rfl ?_
    exact tX0_soInWord_63 F h
  · replace h := ite_n h hc
    refine r_iload (j := 2) F rfl dX0_soInWord_30 ?_
    refine r_bipush F rfl (by decide) dX0_soInWord_32 ?_
    refine r_icmp_ge (tgt := 63) F (by decide) dX0_soInWord_34 (fun hc => ?_) (fun hc => ?_)
    · replace h := ite_p h hc
      refine r_sub [0] (ls' := [(0, vR l0)]) rfl ?_
      exact tX0_soInWord_63 F h
    · replace h := ite_n h hc
      refine r_aload_n (j := 0) F rfl rfl dX0_soInWord_37 ?_
      replace h := bind_so h
      obtain ⟨a38, h38, h⟩ := h
      refine r_getT (t := 2) rfl clok_0 F (by decide) h38 tw_296 dX0_soInWord_38 ?_
      refine r_iload (j := 2) F rfl dX0_soInWord_41 ?_
      refine r_aload_n (j := 0) F rfl rfl dX0_soInWord_43 ?_
      replace h := bind_so h
      obtain ⟨a44, h44, h⟩ := h
      refine r_getT (t := 2) rfl clok_0 F (by decide) h44 tw_294 dX0_soInWord_44 ?_
      refine r_iload (j := 2) F rfl dX0_soInWord_47 ?_
      replace h := bind_so h
      obtain ⟨_, g49, h⟩ := h
      replace h := bind_so h
      obtain ⟨q49, h49, h⟩ := h
      refine r_callV (as := [vI l4]) (rv := (some (vI q49.1))) (kc := 0) (nc := 0) (tX3_bit h49) clok_3 F (gK_so g49) tw_895 tw_555 tw_556 tw_557 tw_115 ⟨by decide, by decide, show (parseMethodDescriptor yX3_bit.desc).map (fun d => d.parameters.length) = some 1 by decide +kernel⟩ ⟨by decide, by decide⟩ (Nat.le_of_ble_eq_true rfl) dX0_soInWord_49 ?_
      refine r_iload_n (j := 1) F rfl rfl dX0_soInWord_52 ?_
      replace h := bind_so h
      obtain ⟨q53, h53, h⟩ := h
      refine r_callS (as := [vI q49.1, vI l3]) (rv := (some (vL q53.1))) (kc := 0) (nc := 0) (tX7_soAt h53) F tw_1025 tw_999 tw_1000 tw_118 ⟨by decide, by decide, show (parseMethodDescriptor yX7_soAt.desc).map (fun d => d.parameters.length) = some 2 by decide +kernel⟩ ⟨by decide, by decide⟩ (Nat.le_of_ble_eq_true rfl) dX0_soInWord_53 ?_
      replace h := bind_so h
      obtain ⟨M56, h56, h⟩ := h
      refine r_last F h56 dX0_soInWord_56 ?_
      refine r_iinc (j := 2) (ls' := [(4, vI (wI (l4 + 1))), (0, vR l0), (3, vI l3)]) F rfl (by decide) rfl dX0_soInWord_57 ?_
      refine r_goto (tgt := 18) F (by decide) dX0_soInWord_60 ?_
      refine r_sub [1, 2, 0] (ls' := [(0, vR l0), (3, vI l3), (4, vI (wI (l4 + 1)))]) rfl ?_
      exact hk18 h
theorem tX0_soInWord_18 {E : En} {p : Program} {l : Launch} {e : Env} {s : State} {m : MethodId} {args : Array Value} {below : List Frame} {meth : Method} {c : Code} {q : Int × Mem} (F : Fx E p s m args meth c cX0_soInWord 5 yX0_soInWord.cls (some FieldType.long) yX0_soInWord.name) : ∀ {fu : Nat} {l0 l3 l4 : Int} {M : Mem}, mX0_soInWord_18 fu l0 l3 l4 M = some q → G E p l e (rmOf 99 0 0) s m args below meth c 5 (QZ E below args s (rmOf 99 0 0) (some (vL q.1)) q.2) 0 0 M 18 [(0, vR l0), (3, vI l3), (4, vI l4)] [] := by
  intro fu
  induction fu with
  | zero => intro l0 l3 l4 M h; exact nomatch (show (none : Option (Int × Mem)) = some q from h)
  | succ fu ih => intro l0 l3 l4 M h; exact tbX0_soInWord_18  (fun h => ih h) F h
theorem tX0_soInWord {l0 l1 l2 l3 : Int} {M : Mem} {q : Int × Mem} (h : mX0_soInWord l0 l1 l2 l3 M = some q) : Ct 99 0 0 yX0_soInWord cX0_soInWord 5 (some FieldType.long) [vR l0, vR l1, vR l2, vI l3] M (some (vL q.1)) q.2 := by
  unfold mX0_soInWord at h
  refine Ct.of (by decide) (Nat.le_of_ble_eq_true rfl) ?_
  intro E p l e s m args below meth c F
  refine r_sub [0, 1, 2, 3] (ls' := [(0, vR l0), (1, vR l1), (2, vR l2), (3, vI l3)]) rfl ?_
  refine r_aload_n (j := 0) F rfl rfl dX0_soInWord_0 ?_
  refine r_aload_n (j := 1) F rfl rfl dX0_soInWord_1 ?_
  replace h := bind_so h
  obtain ⟨M2, h2, h⟩ := h
  refine r_put clok_0 F (by decide) rfl (by decide) (by decide) h2 tw_294 dX0_soInWord_2 ?_
  refine r_aload_n (j := 0) F rfl rfl dX0_soInWord_5 ?_
  refine r_aload_n (j := 2) F rfl rfl dX0_soInWord_6 ?_
  replace h := bind_so h
  obtain ⟨M7, h7, h⟩ := h
  refine r_put clok_0 F (by decide) rfl (by decide) (by decide) h7 tw_295 dX0_soInWord_7 ?_
  refine r_aload_n (j := 0) F rfl rfl dX0_soInWord_10 ?_
  refine r_iconst F rfl dX0_soInWord_11 ?_
  replace h := bind_so h
  obtain ⟨M12, h12, h⟩ := h
  refine r_put clok_0 F (by decide) rfl (by decide) (by decide) h12 tw_299 dX0_soInWord_12 ?_
  refine r_iconst F rfl dX0_soInWord_15 ?_
  refine r_istore (ls' := [(4, vI 0), (0, vR l0), (1, vR l1), (2, vR l2), (3, vI l3)]) F (by decide) rfl dX0_soInWord_16 ?_
  refine r_sub [1, 4, 0] (ls' := [(0, vR l0), (3, vI l3), (4, vI 0)]) rfl ?_
  exact tX0_soInWord_18 F h
