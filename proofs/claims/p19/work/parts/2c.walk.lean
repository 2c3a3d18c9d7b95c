theorem tX5_init {l0 l1 : Int} {M : Mem} {q : Int × Mem} (h : mX5_init l0 l1 M = some q) : Ct 1 5 200 yX5_init cX5_init 3 none [vR l0, vI l1] M none q.2 := by
  unfold mX5_init at h
  refine Ct.of (by decide) (Nat.le_of_ble_eq_true rfl) ?_
  intro E p l e s m args below meth c F
  refine r_sub [0, 1] (ls' := [(0, vR l0), (1, vI l1)]) rfl ?_
  refine r_aload_n (j := 0) F rfl rfl dX5_init_0 ?_
  replace h := bind_so h
  obtain ⟨_, h1, h⟩ := h
  refine r_objK (gK_so h1) (by decide) F tw_416 tw_136 tw_137 ⟨by decide, by decide⟩ (Nat.le_of_ble_eq_true rfl) dX5_init_1 ?_
  refine r_aload_n (j := 0) F rfl rfl dX5_init_4 ?_
  refine r_iconst F rfl dX5_init_5 ?_
  replace h := bind_so h
  obtain ⟨M6, h6, h⟩ := h
  refine r_put clok_5 F (by decide) rfl (by decide) (by decide) h6 tw_430 dX5_init_6 ?_
  refine r_iconst F rfl dX5_init_9 ?_
  refine r_iload_n (j := 1) F rfl rfl dX5_init_10 ?_
  refine r_max F tw_417 tw_418 tw_121 tw_419 ⟨by decide, by decide⟩ (Nat.le_of_ble_eq_true rfl) dX5_init_11 ?_
  replace h := bind_so h
  obtain ⟨b14, e14, h⟩ := h
  refine r_eq (y := b14) (Option.some.inj e14) ?_
  refine r_istore_n (ls' := [(2, vI b14), (0, vR l0), (1, vI l1)]) F rfl (by decide) rfl dX5_init_14 ?_
  refine r_aload_n (j := 1) F rfl rfl dX5_init_15 ?_
  refine r_iload_n (j := 0) F rfl rfl dX5_init_16 ?_
  replace h := bind_so h
  obtain ⟨q17, h17, h⟩ := h
  refine r_newaK10 (B := 40) (by decide) F h17 tw_203 dX5_init_17 (by decide) ?_
  replace h := bind_so h
  obtain ⟨M19, h19, h⟩ := h
  refine r_putF clok_5 F (by decide) rfl rfl rfl (by decide) (by decide) h19 tw_420 dX5_init_19 ?_
  refine r_aload_n (j := 1) F rfl rfl dX5_init_22 ?_
  refine r_iload_n (j := 0) F rfl rfl dX5_init_23 ?_
  replace h := bind_so h
  obtain ⟨q24, h24, h⟩ := h
  refine r_newaK10 (B := 40) (by decide) F h24 tw_203 dX5_init_24 (by decide) ?_
  replace h := bind_so h
  obtain ⟨M26, h26, h⟩ := h
  refine r_putF clok_5 F (by decide) rfl rfl rfl (by decide) (by decide) h26 tw_422 dX5_init_26 ?_
  refine r_aload_n (j := 1) F rfl rfl dX5_init_29 ?_
  refine r_iload_n (j := 0) F rfl rfl dX5_init_30 ?_
  replace h := bind_so h
  obtain ⟨q31, h31, h⟩ := h
  refine r_newaK10 (B := 40) (by decide) F h31 tw_203 dX5_init_31 (by decide) ?_
  replace h := bind_so h
  obtain ⟨M33, h33, h⟩ := h
  refine r_putF clok_5 F (by decide) rfl rfl rfl (by decide) (by decide) h33 tw_424 dX5_init_33 ?_
  refine r_aload_n (j := 1) F rfl rfl dX5_init_36 ?_
  refine r_iload_n (j := 0) F rfl rfl dX5_init_37 ?_
  replace h := bind_so h
  obtain ⟨q38, h38, h⟩ := h
  refine r_newaK10 (B := 40) (by decide) F h38 tw_203 dX5_init_38 (by decide) ?_
  replace h := bind_so h
  obtain ⟨M40, h40, h⟩ := h
  refine r_putF clok_5 F (by decide) rfl rfl rfl (by decide) (by decide) h40 tw_426 dX5_init_40 ?_
  refine r_aload_n (j := 1) F rfl rfl dX5_init_43 ?_
  refine r_iload_n (j := 0) F rfl rfl dX5_init_44 ?_
  replace h := bind_so h
  obtain ⟨q45, h45, h⟩ := h
  refine r_newaK10 (B := 40) (by decide) F h45 tw_203 dX5_init_45 (by decide) ?_
  replace h := bind_so h
  obtain ⟨M47, h47, h⟩ := h
  refine r_putF clok_5 F (by decide) rfl rfl rfl (by decide) (by decide) h47 tw_428 dX5_init_47 ?_
  obtain rfl := Option.some.inj h
  exact r_vret F dX5_init_50
theorem tX2_init {l0 : Int} {M : Mem} {q : Int × Mem} (h : mX2_init l0 M = some q) : Ct 2 7 608 yX2_init cX2_init 1 none [vR l0] M none q.2 := by
  unfold mX2_init at h
  refine Ct.of (by decide) (Nat.le_of_ble_eq_true rfl) ?_
  intro E p l e s m args below meth c F
  refine r_sub [0] (ls' := [(0, vR l0)]) rfl ?_
  refine r_aload_n (j := 0) F rfl rfl dX2_init_0 ?_
  replace h := bind_so h
  obtain ⟨_, h1, h⟩ := h
  refine r_objK (gK_so h1) (by decide) F tw_410 tw_136 tw_137 ⟨by decide, by decide⟩ (Nat.le_of_ble_eq_true rfl) dX2_init_1 ?_
  refine r_aload_n (j := 0) F rfl rfl dX2_init_4 ?_
  refine r_null F dX2_init_5 ?_
  replace h := bind_so h
  obtain ⟨M6, h6, h⟩ := h
  refine r_put clok_2 F (by decide) rfl (by decide) (by decide) h6 tw_447 dX2_init_6 ?_
  refine r_aload_n (j := 0) F rfl rfl dX2_init_9 ?_
  refine r_null F dX2_init_10 ?_
  replace h := bind_so h
  obtain ⟨M11, h11, h⟩ := h
  refine r_put clok_2 F (by decide) rfl (by decide) (by decide) h11 tw_448 dX2_init_11 ?_
  refine r_aload_n (j := 0) F rfl rfl dX2_init_14 ?_
  refine r_iconst F rfl dX2_init_15 ?_
  replace h := bind_so h
  obtain ⟨M16, h16, h⟩ := h
  refine r_put clok_2 F (by decide) rfl (by decide) (by decide) h16 tw_449 dX2_init_16 ?_
  refine r_aload_n (j := 0) F rfl rfl dX2_init_19 ?_
  refine r_null F dX2_init_20 ?_
  replace h := bind_so h
  obtain ⟨M21, h21, h⟩ := h
  refine r_put clok_2 F (by decide) rfl (by decide) (by decide) h21 tw_450 dX2_init_21 ?_
  refine r_aload_n (j := 0) F rfl rfl dX2_init_24 ?_
  refine r_iconst F rfl dX2_init_25 ?_
  replace h := bind_so h
  obtain ⟨M26, h26, h⟩ := h
  refine r_putZ clok_2 F (by decide) rfl rfl h26 tw_451 dX2_init_26 ?_
  refine r_aload_n (j := 0) F rfl rfl dX2_init_29 ?_
  replace h := bind_so h
  obtain ⟨q30, h30, h⟩ := h
  refine r_newO clok_5 (by decide +kernel) F h30 tw_411 tw_412 tw_120 dX2_init_30 (by decide) ?_
  refine r_dup1 F rfl dX2_init_33 ?_
  refine r_bipush F rfl (by decide) dX2_init_34 ?_
  replace h := bind_so h
  obtain ⟨_, g36, h⟩ := h
  replace h := bind_so h
  obtain ⟨q36, h36, h⟩ := h
  refine r_callIK (as := [vI 40]) (rv := none) (kc := 5) (nc := 200) (tX5_init h36) rfl (gK_so g36) (by decide) F tw_413 tw_414 rfl tw_415 tw_120 ⟨by decide, by decide, show (parseMethodDescriptor yX5_init.desc).map (fun d => d.parameters.length) = some 1 by decide +kernel⟩ ⟨by decide, by decide⟩ (Nat.le_of_ble_eq_true rfl) dX2_init_36 (by decide) ?_
  replace h := bind_so h
  obtain ⟨M39, h39, h⟩ := h
  refine r_putF clok_2 F (by decide) rfl rfl rfl (by decide) (by decide) h39 tw_452 dX2_init_39 ?_
  refine r_aload_n (j := 0) F rfl rfl dX2_init_42 ?_
  refine r_sipush F rfl (by decide) dX2_init_43 ?_
  replace h := bind_so h
  obtain ⟨q46, h46, h⟩ := h
  refine r_newaK10 (B := 402) (by decide) F h46 tw_203 dX2_init_46 (by decide) ?_
  replace h := bind_so h
  obtain ⟨M48, h48, h⟩ := h
  refine r_putF clok_2 F (by decide) rfl rfl rfl (by decide) (by decide) h48 tw_453 dX2_init_48 ?_
  refine r_aload_n (j := 0) F rfl rfl dX2_init_51 ?_
  refine r_iconst F rfl dX2_init_52 ?_
  replace h := bind_so h
  obtain ⟨M53, h53, h⟩ := h
  refine r_put clok_2 F (by decide) rfl (by decide) (by decide) h53 tw_454 dX2_init_53 ?_
  refine r_aload_n (j := 0) F rfl rfl dX2_init_56 ?_
  refine r_iconst F rfl dX2_init_57 ?_
  replace h := bind_so h
  obtain ⟨M58, h58, h⟩ := h
  refine r_put clok_2 F (by decide) rfl (by decide) (by decide) h58 tw_455 dX2_init_58 ?_
  refine r_aload_n (j := 0) F rfl rfl dX2_init_61 ?_
  refine r_iconst F rfl dX2_init_62 ?_
  replace h := bind_so h
  obtain ⟨M63, h63, h⟩ := h
  refine r_put clok_2 F (by decide) rfl (by decide) (by decide) h63 tw_456 dX2_init_63 ?_
  refine r_aload_n (j := 0) F rfl rfl dX2_init_66 ?_
  refine r_iconst F rfl dX2_init_67 ?_
  replace h := bind_so h
  obtain ⟨M68, h68, h⟩ := h
  refine r_put clok_2 F (by decide) rfl (by decide) (by decide) h68 tw_457 dX2_init_68 ?_
  refine r_aload_n (j := 0) F rfl rfl dX2_init_71 ?_
  refine r_iconst F rfl dX2_init_72 ?_
  replace h := bind_so h
  obtain ⟨M73, h73, h⟩ := h
  refine r_put clok_2 F (by decide) rfl (by decide) (by decide) h73 tw_458 dX2_init_73 ?_
  obtain rfl := Option.some.inj h
  exact r_vret F dX2_init_76
theorem tX6_clearTape {l0 : Int} {M : Mem} {q : Int × Mem} (h : mX6_clearTape l0 M = some q) : Ct 0 0 0 yX6_clearTape cX6_clearTape 1 none [vR l0] M none q.2 := by
  unfold mX6_clearTape at h
  refine Ct.of (by decide) (Nat.le_of_ble_eq_true rfl) ?_
  intro E p l e s m args below meth c F
  refine r_sub [0] (ls' := [(0, vR l0)]) rfl ?_
  refine r_aload_n (j := 0) F rfl rfl dX6_clearTape_0 ?_
  refine r_iconst F rfl dX6_clearTape_1 ?_
  replace h := bind_so h
  obtain ⟨M2, h2, h⟩ := h
  refine r_put clok_6 F (by decide) rfl (by decide) (by decide) h2 tw_219 dX6_clearTape_2 ?_
  refine r_aload_n (j := 0) F rfl rfl dX6_clearTape_5 ?_
  refine r_iconst F rfl dX6_clearTape_6 ?_
  replace h := bind_so h
  obtain ⟨M7, h7, h⟩ := h
  refine r_put clok_6 F (by decide) rfl (by decide) (by decide) h7 tw_222 dX6_clearTape_7 ?_
  refine r_aload_n (j := 0) F rfl rfl dX6_clearTape_10 ?_
  refine r_iconst F rfl dX6_clearTape_11 ?_
  replace h := bind_so h
  obtain ⟨M12, h12, h⟩ := h
  refine r_put clok_6 F (by decide) rfl (by decide) (by decide) h12 tw_225 dX6_clearTape_12 ?_
  obtain rfl := Option.some.inj h
  exact r_vret F dX6_clearTape_15
theorem tX2_expectPart {l0 l1 : Int} {M : Mem} {q : Int × Mem} (h : mX2_expectPart l0 l1 M = some q) : Ct 0 0 0 yX2_expectPart cX2_expectPart 2 none [vR l0, vI l1] M none q.2 := by
  unfold mX2_expectPart at h
  refine Ct.of (by decide) (Nat.le_of_ble_eq_true rfl) ?_
  intro E p l e s m args below meth c F
  refine r_sub [0, 1] (ls' := [(0, vR l0), (1, vI l1)]) rfl ?_
  refine r_aload_n (j := 0) F rfl rfl dX2_expectPart_0 ?_
  replace h := bind_so h
  obtain ⟨a1, h1, h⟩ := h
  refine r_getT (t := 0) rfl clok_2 F (by decide) h1 tw_454 dX2_expectPart_1 ?_
  refine r_aload_n (j := 0) F rfl rfl dX2_expectPart_4 ?_
  replace h := bind_so h
  obtain ⟨a5, h5, h⟩ := h
  refine r_getT (t := 2) rfl clok_2 F (by decide) h5 tw_453 dX2_expectPart_5 ?_
  replace h := bind_so h
  obtain ⟨a8, h8, h⟩ := h
  refine r_alen (t := 10) (by decide) F h8 dX2_expectPart_8 ?_
  refine r_icmp_ge (tgt := 32) F (by decide) dX2_expectPart_9 (fun hc => ?_) (fun hc => ?_)
  · replace h := ite_p h hc
    obtain rfl := Option.some.inj h
    exact r_vret F dX2_expectPart_32
  · replace h := ite_n h hc
    refine r_aload_n (j := 0) F rfl rfl dX2_expectPart_12 ?_
    replace h := bind_so h
    obtain ⟨a13, h13, h⟩ := h
    refine r_getT (t := 2) rfl clok_2 F (by decide) h13 tw_453 dX2_expectPart_13 ?_
    refine r_aload_n (j := 0) F rfl rfl dX2_expectPart_16 ?_
    replace h := bind_so h
    obtain ⟨a17, h17, h⟩ := h
    refine r_getT (t := 0) rfl clok_2 F (by decide) h17 tw_454 dX2_expectPart_17 ?_
    refine r_iload_n (j := 1) F rfl rfl dX2_expectPart_20 ?_
    replace h := bind_so h
    obtain ⟨M21, h21, h⟩ := h
    refine r_iast F h21 dX2_expectPart_21 ?_
    refine r_aload_n (j := 0) F rfl rfl dX2_expectPart_22 ?_
    refine r_dup1 F rfl dX2_expectPart_23 ?_
    replace h := bind_so h
    obtain ⟨a24, h24, h⟩ := h
    refine r_getT (t := 0) rfl clok_2 F (by decide) h24 tw_454 dX2_expectPart_24 ?_
    refine r_iconst F rfl dX2_expectPart_27 ?_
    refine r_iadd F dX2_expectPart_28 ?_
    replace h := bind_so h
    obtain ⟨M29, h29, h⟩ := h
    refine r_put clok_2 F (by decide) rfl (by decide) (by decide) h29 tw_454 dX2_expectPart_29 ?_
    obtain rfl := Option.some.inj h
    exact r_vret F dX2_expectPart_32
theorem tX2_isLetter {l0 l1 : Int} {M : Mem} {q : Int × Mem} (h : mX2_isLetter l0 l1 M = some q) : Ct 0 0 0 yX2_isLetter cX2_isLetter 2 (some FieldType.boolean) [vR l0, vI l1] M (some (vI q.1)) q.2 := by
  unfold mX2_isLetter at h
  refine Ct.of (by decide) (Nat.le_of_ble_eq_true rfl) ?_
  intro E p l e s m args below meth c F
  refine r_sub [0, 1] (ls' := [(0, vR l0), (1, vI l1)]) rfl ?_
  refine r_iload_n (j := 1) F rfl rfl dX2_isLetter_0 ?_
  refine r_aload_n (j := 0) F rfl rfl dX2_isLetter_1 ?_
  replace h := bind_so h
  obtain ⟨a2, h2, h⟩ := h
  refine r_getT (t := 0) rfl clok_2 F (by decide) h2 tw_449 dX2_isLetter_2 ?_
  refine r_icmp_ge (tgt := 34) F (by decide) dX2_isLetter_5 (fun hc => ?_) (fun hc => ?_)
  · replace h := ite_p h hc
    refine r_iconst F rfl dX2_isLetter_34 ?_
    obtain rfl := Option.some.inj h
    exact r_zret (Or.inl rfl) F dX2_isLetter_35
  · replace h := ite_n h hc
    refine r_aload_n (j := 0) F rfl rfl dX2_isLetter_8 ?_
    replace h := bind_so h
    obtain ⟨a9, h9, h⟩ := h
    refine r_getT (t := 2) rfl clok_2 F (by decide) h9 tw_448 dX2_isLetter_9 ?_
    refine r_iload_n (j := 1) F rfl rfl dX2_isLetter_12 ?_
    replace h := bind_so h
    obtain ⟨a13, h13, h⟩ := h
    refine r_iald F h13 dX2_isLetter_13 ?_
    refine r_bipush F rfl (by decide) dX2_isLetter_14 ?_
    refine r_icmp_lt (tgt := 34) F (by decide) dX2_isLetter_16 (fun hc => ?_) (fun hc => ?_)
    · replace h := ite_p h hc
      refine r_iconst F rfl dX2_isLetter_34 ?_
      obtain rfl := Option.some.inj h
      exact r_zret (Or.inl rfl) F dX2_isLetter_35
    · replace h := ite_n h hc
      refine r_aload_n (j := 0) F rfl rfl dX2_isLetter_19 ?_
      replace h := bind_so h
      obtain ⟨a20, h20, h⟩ := h
      refine r_getT (t := 2) rfl clok_2 F (by decide) h20 tw_448 dX2_isLetter_20 ?_
      refine r_iload_n (j := 1) F rfl rfl dX2_isLetter_23 ?_
      replace h := bind_so h
      obtain ⟨a24, h24, h⟩ := h
      refine r_iald F h24 dX2_isLetter_24 ?_
      refine r_bipush F rfl (by decide) dX2_isLetter_25 ?_
      refine r_icmp_gt (tgt := 34) F (by decide) dX2_isLetter_27 (fun hc => ?_) (fun hc => ?_)
      · replace h := ite_p h hc
        refine r_iconst F rfl dX2_isLetter_34 ?_
        obtain rfl := Option.some.inj h
        exact r_zret (Or.inl rfl) F dX2_isLetter_35
      · replace h := ite_n h hc
        refine r_iconst F rfl dX2_isLetter_30 ?_
        refine r_goto (tgt := 35) F (by decide) dX2_isLetter_31 ?_
        obtain rfl := Option.some.inj h
        exact r_zret (Or.inr rfl) F dX2_isLetter_35
theorem tX2_isDigit {l0 l1 : Int} {M : Mem} {q : Int × Mem} (h : mX2_isDigit l0 l1 M = some q) : Ct 0 0 0 yX2_isDigit cX2_isDigit 2 (some FieldType.boolean) [vR l0, vI l1] M (some (vI q.1)) q.2 := by
  unfold mX2_isDigit at h
  refine Ct.of (by decide) (Nat.le_of_ble_eq_true rfl) ?_
  intro E p l e s m args below meth c F
  refine r_sub [0, 1] (ls' := [(0, vR l0), (1, vI l1)]) rfl ?_
  refine r_iload_n (j := 1) F rfl rfl dX2_isDigit_0 ?_
  refine r_aload_n (j := 0) F rfl rfl dX2_isDigit_1 ?_
  replace h := bind_so h
  obtain ⟨a2, h2, h⟩ := h
  refine r_getT (t := 0) rfl clok_2 F (by decide) h2 tw_449 dX2_isDigit_2 ?_
  refine r_icmp_ge (tgt := 34) F (by decide) dX2_isDigit_5 (fun hc => ?_) (fun hc => ?_)
  · replace h := ite_p h hc
    refine r_iconst F rfl dX2_isDigit_34 ?_
    obtain rfl := Option.some.inj h
    exact r_zret (Or.inl rfl) F dX2_isDigit_35
  · replace h := ite_n h hc
    refine r_aload_n (j := 0) F rfl rfl dX2_isDigit_8 ?_
    replace h := bind_so h
    obtain ⟨a9, h9, h⟩ := h
    refine r_getT (t := 2) rfl clok_2 F (by decide) h9 tw_448 dX2_isDigit_9 ?_
    refine r_iload_n (j := 1) F rfl rfl dX2_isDigit_12 ?_
    replace h := bind_so h
    obtain ⟨a13, h13, h⟩ := h
    refine r_iald F h13 dX2_isDigit_13 ?_
    refine r_bipush F rfl (by decide) dX2_isDigit_14 ?_
    refine r_icmp_lt (tgt := 34) F (by decide) dX2_isDigit_16 (fun hc => ?_) (fun hc => ?_)
    · replace h := ite_p h hc
      refine r_iconst F rfl dX2_isDigit_34 ?_
      obtain rfl := Option.some.inj h
      exact r_zret (Or.inl rfl) F dX2_isDigit_35
    · replace h := ite_n h hc
      refine r_aload_n (j := 0) F rfl rfl dX2_isDigit_19 ?_
      replace h := bind_so h
      obtain ⟨a20, h20, h⟩ := h
      refine r_getT (t := 2) rfl clok_2 F (by decide) h20 tw_448 dX2_isDigit_20 ?_
      refine r_iload_n (j := 1) F rfl rfl dX2_isDigit_23 ?_
      replace h := bind_so h
      obtain ⟨a24, h24, h⟩ := h
      refine r_iald F h24 dX2_isDigit_24 ?_
      refine r_bipush F rfl (by decide) dX2_isDigit_25 ?_
      refine r_icmp_gt (tgt := 34) F (by decide) dX2_isDigit_27 (fun hc => ?_) (fun hc => ?_)
      · replace h := ite_p h hc
        refine r_iconst F rfl dX2_isDigit_34 ?_
        obtain rfl := Option.some.inj h
        exact r_zret (Or.inl rfl) F dX2_isDigit_35
      · replace h := ite_n h hc
        refine r_iconst F rfl dX2_isDigit_30 ?_
        refine r_goto (tgt := 35) F (by decide) dX2_isDigit_31 ?_
        obtain rfl := Option.some.inj h
        exact r_zret (Or.inr rfl) F dX2_isDigit_35
theorem tbX2_advance_151 {E : En} {p : Program} {l : Launch} {e : Env} {s : State} {m : MethodId} {args : Array Value} {below : List Frame} {meth : Method} {c : Code} {q : Int × Mem} {k151 : Int → Mem → Option (Int × Mem)} (hk151 : ∀ {l0 : Int} {M : Mem}, k151 l0 M = some q → G E p l e (rmOf 1 0 0) s m args below meth c 1 (QZ E below args s (rmOf 1 0 0) none q.2) 0 0 M 151 [(0, vR l0)] []) {l0 : Int} {M : Mem} (F : Fx E p s m args meth c cX2_advance 1 yX2_advance.cls none yX2_advance.name) (h : bX2_advance_151 k151 l0 M = some q) : G E p l e (rmOf 1 0 0) s m args below meth c 1 (QZ E below args s (rmOf 1 0 0) none q.2) 0 0 M 151 [(0, vR l0)] [] := by
  unfold bX2_advance_151 at h
  refine r_aload_n (j := 0) F rfl rfl dX2_advance_151 ?_
  replace h := bind_so h
  obtain ⟨a152, h152, h⟩ := h
  refine r_getT (t := 0) rfl clok_2 F (by decide) h152 tw_457 dX2_advance_152 ?_
  refine r_aload_n (j := 0) F rfl rfl dX2_advance_155 ?_
  replace h := bind_so h
  obtain ⟨a156, h156, h⟩ := h
  refine r_getT (t := 0) rfl clok_2 F (by decide) h156 tw_456 dX2_advance_156 ?_
  refine r_isub F dX2_advance_159 ?_
  refine r_iconst F rfl dX2_advance_160 ?_
  refine r_icmp_ge (tgt := 217) F (by decide) dX2_advance_161 (fun hc => ?_) (fun hc => ?_)
  · replace h := ite_p h hc
    obtain rfl := Option.some.inj h
    exact r_vret F dX2_advance_217
  · replace h := ite_n h hc
    refine r_aload_n (j := 0) F rfl rfl dX2_advance_164 ?_
    refine r_aload_n (j := 0) F rfl rfl dX2_advance_165 ?_
    replace h := bind_so h
    obtain ⟨a166, h166, h⟩ := h
    refine r_getT (t := 0) rfl clok_2 F (by decide) h166 tw_457 dX2_advance_166 ?_
    replace h := bind_so h
    obtain ⟨_, g169, h⟩ := h
    replace h := bind_so h
    obtain ⟨q169, h169, h⟩ := h
    refine r_callV (as := [vI a166]) (rv := (some (vI q169.1))) (kc := 0) (nc := 0) (tX2_isDigit h169) clok_2 F (gK_so g169) tw_669 tw_671 tw_9 tw_672 tw_119 ⟨by decide, by decide, show (parseMethodDescriptor yX2_isDigit.desc).map (fun d => d.parameters.length) = some 1 by decide +kernel⟩ ⟨by decide, by decide⟩ (Nat.le_of_ble_eq_true rfl) dX2_advance_169 ?_
    refine r_if_eq (tgt := 217) F (by decide) dX2_advance_172 (fun hc => ?_) (fun hc => ?_)
    · replace h := ite_p h hc
      obtain rfl := Option.some.inj h
      exact r_vret F dX2_advance_217
    · replace h := ite_n h hc
      refine r_aload_n (j := 0) F rfl rfl dX2_advance_175 ?_
      refine r_bipush F rfl (by decide) dX2_advance_176 ?_
      refine r_aload_n (j := 0) F rfl rfl dX2_advance_178 ?_
      replace h := bind_so h
      obtain ⟨a179, h179, h⟩ := h
      refine r_getT (t := 0) rfl clok_2 F (by decide) h179 tw_458 dX2_advance_179 ?_
      refine r_imul F dX2_advance_182 ?_
      refine r_aload_n (j := 0) F rfl rfl dX2_advance_183 ?_
      replace h := bind_so h
      obtain ⟨a184, h184, h⟩ := h
      refine r_getT (t := 2) rfl clok_2 F (by decide) h184 tw_448 dX2_advance_184 ?_
      refine r_aload_n (j := 0) F rfl rfl dX2_advance_187 ?_
      replace h := bind_so h
      obtain ⟨a188, h188, h⟩ := h
      refine r_getT (t := 0) rfl clok_2 F (by decide) h188 tw_457 dX2_advance_188 ?_
      replace h := bind_so h
      obtain ⟨a191, h191, h⟩ := h
      refine r_iald F h191 dX2_advance_191 ?_
      refine r_iadd F dX2_advance_192 ?_
      refine r_bipush F rfl (by decide) dX2_advance_193 ?_
      refine r_isub F dX2_advance_195 ?_
      replace h := bind_so h
      obtain ⟨M196, h196, h⟩ := h
      refine r_put clok_2 F (by decide) rfl (by decide) (by decide) h196 tw_458 dX2_advance_196 ?_
      refine r_aload_n (j := 0) F rfl rfl dX2_advance_199 ?_
      refine r_dup1 F rfl dX2_advance_200 ?_
      replace h := bind_so h
      obtain ⟨a201, h201, h⟩ := h
      refine r_getT (t := 0) rfl clok_2 F (by decide) h201 tw_457 dX2_advance_201 ?_
      refine r_iconst F rfl dX2_advance_204 ?_
      refine r_iadd F dX2_advance_205 ?_
      replace h := bind_so h
      obtain ⟨M206, h206, h⟩ := h
      refine r_put clok_2 F (by decide) rfl (by decide) (by decide) h206 tw_457 dX2_advance_206 ?_
      refine r_goto (tgt := 151) F (by decide) dX2_advance_209 ?_
      refine r_sub [0] (ls' := [(0, vR l0)]) rfl ?_
      exact hk151 h
theorem tX2_advance_151 {E : En} {p : Program} {l : Launch} {e : Env} {s : State} {m : MethodId} {args : Array Value} {below : List Frame} {meth : Method} {c : Code} {q : Int × Mem} (F : Fx E p s m args meth c cX2_advance 1 yX2_advance.cls none yX2_advance.name) : ∀ {fu : Nat} {l0 : Int} {M : Mem}, mX2_advance_151 fu l0 M = some q → G E p l e (rmOf 1 0 0) s m args below meth c 1 (QZ E below args s (rmOf 1 0 0) none q.2) 0 0 M 151 [(0, vR l0)] [] := by
  intro fu
  induction fu with
  | zero => intro l0 M h; exact nomatch (show (none : Option (Int × Mem)) = some q from h)
  | succ fu ih => intro l0 M h; exact tbX2_advance_151  (fun h => ih h) F h
theorem tbX2_advance_100 {E : En} {p : Program} {l : Launch} {e : Env} {s : State} {m : MethodId} {args : Array Value} {below : List Frame} {meth : Method} {c : Code} {q : Int × Mem} {k100 : Int → Mem → Option (Int × Mem)} (hk100 : ∀ {l0 : Int} {M : Mem}, k100 l0 M = some q → G E p l e (rmOf 1 0 0) s m args below meth c 1 (QZ E below args s (rmOf 1 0 0) none q.2) 0 0 M 100 [(0, vR l0)] []) {l0 : Int} {M : Mem} (F : Fx E p s m args meth c cX2_advance 1 yX2_advance.cls none yX2_advance.name) (h : bX2_advance_100 k100 l0 M = some q) : G E p l e (rmOf 1 0 0) s m args below meth c 1 (QZ E below args s (rmOf 1 0 0) none q.2) 0 0 M 100 [(0, vR l0)] [] := by
  unfold bX2_advance_100 at h
  refine r_aload_n (j := 0) F rfl rfl dX2_advance_100 ?_
  replace h := bind_so h
  obtain ⟨a101, h101, h⟩ := h
  refine r_getT (t := 0) rfl clok_2 F (by decide) h101 tw_457 dX2_advance_101 ?_
  refine r_aload_n (j := 0) F rfl rfl dX2_advance_104 ?_
  replace h := bind_so h
  obtain ⟨a105, h105, h⟩ := h
  refine r_getT (t := 0) rfl clok_2 F (by decide) h105 tw_449 dX2_advance_105 ?_
  refine r_icmp_ge (tgt := 217) F (by decide) dX2_advance_108 (fun hc => ?_) (fun hc => ?_)
  · replace h := ite_p h hc
    obtain rfl := Option.some.inj h
    exact r_vret F dX2_advance_217
  · replace h := ite_n h hc
    refine r_aload_n (j := 0) F rfl rfl dX2_advance_111 ?_
    refine r_aload_n (j := 0) F rfl rfl dX2_advance_112 ?_
    replace h := bind_so h
    obtain ⟨a113, h113, h⟩ := h
    refine r_getT (t := 0) rfl clok_2 F (by decide) h113 tw_457 dX2_advance_113 ?_
    replace h := bind_so h
    obtain ⟨_, g116, h⟩ := h
    replace h := bind_so h
    obtain ⟨q116, h116, h⟩ := h
    refine r_callV (as := [vI a113]) (rv := (some (vI q116.1))) (kc := 0) (nc := 0) (tX2_isLetter h116) clok_2 F (gK_so g116) tw_665 tw_667 tw_8 tw_668 tw_119 ⟨by decide, by decide, show (parseMethodDescriptor yX2_isLetter.desc).map (fun d => d.parameters.length) = some 1 by decide +kernel⟩ ⟨by decide, by decide⟩ (Nat.le_of_ble_eq_true rfl) dX2_advance_116 ?_
    refine r_if_eq (tgt := 217) F (by decide) dX2_advance_119 (fun hc => ?_) (fun hc => ?_)
    · replace h := ite_p h hc
      obtain rfl := Option.some.inj h
      exact r_vret F dX2_advance_217
    · replace h := ite_n h hc
      refine r_aload_n (j := 0) F rfl rfl dX2_advance_122 ?_
      refine r_dup1 F rfl dX2_advance_123 ?_
      replace h := bind_so h
      obtain ⟨a124, h124, h⟩ := h
      refine r_getT (t := 0) rfl clok_2 F (by decide) h124 tw_457 dX2_advance_124 ?_
      refine r_iconst F rfl dX2_advance_127 ?_
      refine r_iadd F dX2_advance_128 ?_
      replace h := bind_so h
      obtain ⟨M129, h129, h⟩ := h
      refine r_put clok_2 F (by decide) rfl (by decide) (by decide) h129 tw_457 dX2_advance_129 ?_
      refine r_goto (tgt := 100) F (by decide) dX2_advance_132 ?_
      refine r_sub [0] (ls' := [(0, vR l0)]) rfl ?_
      exact hk100 h
theorem tX2_advance_100 {E : En} {p : Program} {l : Launch} {e : Env} {s : State} {m : MethodId} {args : Array Value} {below : List Frame} {meth : Method} {c : Code} {q : Int × Mem} (F : Fx E p s m args meth c cX2_advance 1 yX2_advance.cls none yX2_advance.name) : ∀ {fu : Nat} {l0 : Int} {M : Mem}, mX2_advance_100 fu l0 M = some q → G E p l e (rmOf 1 0 0) s m args below meth c 1 (QZ E below args s (rmOf 1 0 0) none q.2) 0 0 M 100 [(0, vR l0)] [] := by
  intro fu
  induction fu with
  | zero => intro l0 M h; exact nomatch (show (none : Option (Int × Mem)) = some q from h)
  | succ fu ih => intro l0 M h; exact tbX2_advance_100  (fun h => ih h) F h
theorem tX2_advance_52 {E : En} {p : Program} {l : Launch} {e : Env} {s : State} {m : MethodId} {args : Array Value} {below : List Frame} {meth : Method} {c : Code} {q : Int × Mem} {l0 : Int} {M : Mem} (F : Fx E p s m args meth c cX2_advance 1 yX2_advance.cls none yX2_advance.name) (h : mX2_advance_52 l0 M = some q) : G E p l e (rmOf 1 0 0) s m args below meth c 1 (QZ E below args s (rmOf 1 0 0) none q.2) 0 0 M 52 [(0, vR l0)] [] := by
  unfold mX2_advance_52 at h
  refine r_aload_n (j := 0) F rfl rfl dX2_advance_52 ?_
  refine r_aload_n (j := 0) F rfl rfl dX2_advance_53 ?_
  replace h := bind_so h
  obtain ⟨a54, h54, h⟩ := h
  refine r_getT (t := 0) rfl clok_2 F (by decide) h54 tw_457 dX2_advance_54 ?_
  replace h := bind_so h
  obtain ⟨M57, h57, h⟩ := h
  refine r_put clok_2 F (by decide) rfl (by decide) (by decide) h57 tw_456 dX2_advance_57 ?_
  refine r_aload_n (j := 0) F rfl rfl dX2_advance_60 ?_
  refine r_iconst F rfl dX2_advance_61 ?_
  replace h := bind_so h
  obtain ⟨M62, h62, h⟩ := h
  refine r_put clok_2 F (by decide) rfl (by decide) (by decide) h62 tw_458 dX2_advance_62 ?_
  refine r_aload_n (j := 0) F rfl rfl dX2_advance_65 ?_
  replace h := bind_so h
  obtain ⟨a66, h66, h⟩ := h
  refine r_getT (t := 0) rfl clok_2 F (by decide) h66 tw_457 dX2_advance_66 ?_
  refine r_aload_n (j := 0) F rfl rfl dX2_advance_69 ?_
  replace h := bind_so h
  obtain ⟨a70, h70, h⟩ := h
  refine r_getT (t := 0) rfl clok_2 F (by decide) h70 tw_449 dX2_advance_70 ?_
  refine r_icmp_lt (tgt := 84) F (by decide) dX2_advance_73 (fun hc => ?_) (fun hc => ?_)
  · replace h := ite_p h hc
    refine r_aload_n (j := 0) F rfl rfl dX2_advance_84 ?_
    refine r_aload_n (j := 0) F rfl rfl dX2_advance_85 ?_
    replace h := bind_so h
    obtain ⟨a86, h86, h⟩ := h
    refine r_getT (t := 0) rfl clok_2 F (by decide) h86 tw_457 dX2_advance_86 ?_
    replace h := bind_so h
    obtain ⟨_, g89, h⟩ := h
    replace h := bind_so h
    obtain ⟨q89, h89, h⟩ := h
    refine r_callV (as := [vI a86]) (rv := (some (vI q89.1))) (kc := 0) (nc := 0) (tX2_isLetter h89) clok_2 F (gK_so g89) tw_665 tw_667 tw_8 tw_668 tw_119 ⟨by decide, by decide, show (parseMethodDescriptor yX2_isLetter.desc).map (fun d => d.parameters.length) = some 1 by decide +kernel⟩ ⟨by decide, by decide⟩ (Nat.le_of_ble_eq_true rfl) dX2_advance_89 ?_
    refine r_if_eq (tgt := 135) F (by decide) dX2_advance_92 (fun hc => ?_) (fun hc => ?_)
    · replace h := ite_p h hc
      refine r_aload_n (j := 0) F rfl rfl dX2_advance_135 ?_
      refine r_aload_n (j := 0) F rfl rfl dX2_advance_136 ?_
      replace h := bind_so h
      obtain ⟨a137, h137, h⟩ := h
      refine r_getT (t := 0) rfl clok_2 F (by decide) h137 tw_457 dX2_advance_137 ?_
      replace h := bind_so h
      obtain ⟨_, g140, h⟩ := h
      replace h := bind_so h
      obtain ⟨q140, h140, h⟩ := h
      refine r_callV (as := [vI a137]) (rv := (some (vI q140.1))) (kc := 0) (nc := 0) (tX2_isDigit h140) clok_2 F (gK_so g140) tw_669 tw_671 tw_9 tw_672 tw_119 ⟨by decide, by decide, show (parseMethodDescriptor yX2_isDigit.desc).map (fun d => d.parameters.length) = some 1 by decide +kernel⟩ ⟨by decide, by decide⟩ (Nat.le_of_ble_eq_true rfl) dX2_advance_140 ?_
      refine r_if_eq (tgt := 212) F (by decide) dX2_advance_143 (fun hc => ?_) (fun hc => ?_)
      · replace h := ite_p h hc
        refine r_aload_n (j := 0) F rfl rfl dX2_advance_212 ?_
        refine r_iconst F rfl dX2_advance_213 ?_
        replace h := bind_so h
        obtain ⟨M214, h214, h⟩ := h
        refine r_put clok_2 F (by decide) rfl (by decide) (by decide) h214 tw_455 dX2_advance_214 ?_
        obtain rfl := Option.some.inj h
        exact r_vret F dX2_advance_217
      · replace h := ite_n h hc
        refine r_aload_n (j := 0) F rfl rfl dX2_advance_146 ?_
        refine r_iconst F rfl dX2_advance_147 ?_
        replace h := bind_so h
        obtain ⟨M148, h148, h⟩ := h
        refine r_put clok_2 F (by decide) rfl (by decide) (by decide) h148 tw_455 dX2_advance_148 ?_
        refine r_sub [0] (ls' := [(0, vR l0)]) rfl ?_
        exact tX2_advance_151 F h
    · replace h := ite_n h hc
      refine r_aload_n (j := 0) F rfl rfl dX2_advance_95 ?_
      refine r_iconst F rfl dX2_advance_96 ?_
      replace h := bind_so h
      obtain ⟨M97, h97, h⟩ := h
      refine r_put clok_2 F (by decide) rfl (by decide) (by decide) h97 tw_455 dX2_advance_97 ?_
      refine r_sub [0] (ls' := [(0, vR l0)]) rfl ?_
      exact tX2_advance_100 F h
  · replace h := ite_n h hc
    refine r_aload_n (j := 0) F rfl rfl dX2_advance_76 ?_
    refine r_iconst F rfl dX2_advance_77 ?_
    replace h := bind_so h
    obtain ⟨M78, h78, h⟩ := h
    refine r_put clok_2 F (by decide) rfl (by decide) (by decide) h78 tw_455 dX2_advance_78 ?_
    refine r_goto (tgt := 217) F (by decide) dX2_advance_81 ?_
    obtain rfl := Option.some.inj h
    exact r_vret F dX2_advance_217
theorem tX2_advance_39 {E : En} {p : Program} {l : Launch} {e : Env} {s : State} {m : MethodId} {args : Array Value} {below : List Frame} {meth : Method} {c : Code} {q : Int × Mem} {k0 : Int → Mem → Option (Int × Mem)} (hk0 : ∀ {l0 : Int} {M : Mem}, k0 l0 M = some q → G E p l e (rmOf 1 0 0) s m args below meth c 1 (QZ E below args s (rmOf 1 0 0) none q.2) 0 0 M 0 [(0, vR l0)] []) {l0 : Int} {M : Mem} (F : Fx E p s m args meth c cX2_advance 1 yX2_advance.cls none yX2_advance.name) (h : mX2_advance_39 k0 l0 M = some q) : G E p l e (rmOf 1 0 0) s m args below meth c 1 (QZ E below args s (rmOf 1 0 0) none q.2) 0 0 M 39 [(0, vR l0)] [] := by
  unfold mX2_advance_39 at h
  refine r_aload_n (j := 0) F rfl rfl dX2_advance_39 ?_
  refine r_dup1 F rfl dX2_advance_40 ?_
  replace h := bind_so h
  obtain ⟨a41, h41, h⟩ := h
  refine r_getT (t := 0) rfl clok_2 F (by decide) h41 tw_457 dX2_advance_41 ?_
  refine r_iconst F rfl dX2_advance_44 ?_
  refine r_iadd F dX2_advance_45 ?_
  replace h := bind_so h
  obtain ⟨M46, h46, h⟩ := h
  refine r_put clok_2 F (by decide) rfl (by decide) (by decide) h46 tw_457 dX2_advance_46 ?_
  refine r_goto (tgt := 0) F (by decide) dX2_advance_49 ?_
  refine r_sub [0] (ls' := [(0, vR l0)]) rfl ?_
  exact hk0 h
theorem tbX2_advance_0 {E : En} {p : Program} {l : Launch} {e : Env} {s : State} {m : MethodId} {args : Array Value} {below : List Frame} {meth : Method} {c : Code} {q : Int × Mem} {k0 : Int → Mem → Option (Int × Mem)} (hk0 : ∀ {l0 : Int} {M : Mem}, k0 l0 M = some q → G E p l e (rmOf 1 0 0) s m args below meth c 1 (QZ E below args s (rmOf 1 0 0) none q.2) 0 0 M 0 [(0, vR l0)] []) {l0 : Int} {M : Mem} (F : Fx E p s m args meth c cX2_advance 1 yX2_advance.cls none yX2_advance.name) (h : bX2_advance_0 k0 l0 M = some q) : G E p l e (rmOf 1 0 0) s m args below meth c 1 (QZ E below args s (rmOf 1 0 0) none q.2) 0 0 M 0 [(0, vR l0)] [] := by
  unfold bX2_advance_0 at h
  refine r_aload_n (j := 0) F rfl rfl dX2_advance_0 ?_
  replace h := bind_so h
  obtain ⟨a1, h1, h⟩ := h
  refine r_getT (t := 0) rfl clok_2 F (by decide) h1 tw_457 dX2_advance_1 ?_
  refine r_aload_n (j := 0) F rfl rfl dX2_advance_4 ?_
  replace h := bind_so h
  obtain ⟨a5, h5, h⟩ := h
  refine r_getT (t := 0) rfl clok_2 F (by decide) h5 tw_449 dX2_advance_5 ?_
  refine r_icmp_ge (tgt := 52) F (by decide) dX2_advance_8 (fun hc => ?_) (fun hc => ?_)
  · replace h := ite_p h hc
    refine r_sub [0] (ls' := [(0, vR l0)]) rfl ?_
    exact tX2_advance_52 F h
  · replace h := ite_n h hc
    refine r_aload_n (j := 0) F rfl rfl dX2_advance_11 ?_
    replace h := bind_so h
    obtain ⟨a12, h12, h⟩ := h
    refine r_getT (t := 2) rfl clok_2 F (by decide) h12 tw_448 dX2_advance_12 ?_
    refine r_aload_n (j := 0) F rfl rfl dX2_advance_15 ?_
    replace h := bind_so h
    obtain ⟨a16, h16, h⟩ := h
    refine r_getT (t := 0) rfl clok_2 F (by decide) h16 tw_457 dX2_advance_16 ?_
    replace h := bind_so h
    obtain ⟨a19, h19, h⟩ := h
    refine r_iald F h19 dX2_advance_19 ?_
    refine r_bipush F rfl (by decide) dX2_advance_20 ?_
    refine r_icmp_eq (tgt := 39) F (by decide) dX2_advance_22 (fun hc => ?_) (fun hc => ?_)
    · replace h := ite_p h hc
      refine r_sub [0] (ls' := [(0, vR l0)]) rfl ?_
      exact tX2_advance_39 (fun h => hk0 h) F h
    · replace h := ite_n h hc
      refine r_aload_n (j := 0) F rfl rfl dX2_advance_25 ?_
      replace h := bind_so h
      obtain ⟨a26, h26, h⟩ := h
      refine r_getT (t := 2) rfl clok_2 F (by decide) h26 tw_448 dX2_advance_26 ?_
      refine r_aload_n (j := 0) F rfl rfl dX2_advance_29 ?_
      replace h := bind_so h
      obtain ⟨a30, h30, h⟩ := h
      refine r_getT (t := 0) rfl clok_2 F (by decide) h30 tw_457 dX2_advance_30 ?_
      replace h := bind_so h
      obtain ⟨a33, h33, h⟩ := h
      refine r_iald F h33 dX2_advance_33 ?_
      refine r_bipush F rfl (by decide) dX2_advance_34 ?_
      refine r_icmp_ne (tgt := 52) F (by decide) dX2_advance_36 (fun hc => ?_) (fun hc => ?_)
      · replace h := ite_n h hc
        refine r_sub [0] (ls' := [(0, vR l0)]) rfl ?_
        exact tX2_advance_52 F h
      · replace h := ite_p h hc
        refine r_sub [0] (ls' := [(0, vR l0)]) rfl ?_
        exact tX2_advance_39 (fun h => hk0 h) F h
theorem tX2_advance_0 {E : En} {p : Program} {l : Launch} {e : Env} {s : State} {m : MethodId} {args : Array Value} {below : List Frame} {meth : Method} {c : Code} {q : Int × Mem} (F : Fx E p s m args meth c cX2_advance 1 yX2_advance.cls none yX2_advance.name) : ∀ {fu : Nat} {l0 : Int} {M : Mem}, mX2_advance_0 fu l0 M = some q → G E p l e (rmOf 1 0 0) s m args below meth c 1 (QZ E below args s (rmOf 1 0 0) none q.2) 0 0 M 0 [(0, vR l0)] [] := by
  intro fu
  induction fu with
  | zero => intro l0 M h; exact nomatch (show (none : Option (Int × Mem)) = some q from h)
  | succ fu ih => intro l0 M h; exact tbX2_advance_0  (fun h => ih h) F h
theorem tX2_advance {l0 : Int} {M : Mem} {q : Int × Mem} (h : mX2_advance l0 M = some q) : Ct 1 0 0 yX2_advance cX2_advance 1 none [vR l0] M none q.2 := by
  unfold mX2_advance at h
  refine Ct.of (by decide) (Nat.le_of_ble_eq_true rfl) ?_
  intro E p l e s m args below meth c F
  refine r_sub [0] (ls' := [(0, vR l0)]) rfl ?_
  refine r_sub [0] (ls' := [(0, vR l0)]) rfl ?_
  exact tX2_advance_0 F h
theorem tbX2_isWord_28 {E : En} {p : Program} {l : Launch} {e : Env} {s : State} {m : MethodId} {args : Array Value} {below : List Frame} {meth : Method} {c : Code} {q : Int × Mem} {k28 : Int → Int → Int → Mem → Option (Int × Mem)} (hk28 : ∀ {l0 l1 l2 : Int} {M : Mem}, k28 l0 l1 l2 M = some q → G E p l e (rmOf 6 0 0) s m args below meth c 3 (QZ E below args s (rmOf 6 0 0) (some (vI q.1)) q.2) 0 0 M 28 [(0, vR l0), (1, vR l1), (2, vI l2)] []) {l0 l1 l2 : Int} {M : Mem} (F : Fx E p s m args meth c cX2_isWord 3 yX2_isWord.cls (some FieldType.boolean) yX2_isWord.name) (h : bX2_isWord_28 k28 l0 l1 l2 M = some q) : G E p l e (rmOf 6 0 0) s m args below meth c 3 (QZ E below args s (rmOf 6 0 0) (some (vI q.1)) q.2) 0 0 M 28 [(0, vR l0), (1, vR l1), (2, vI l2)] [] := by
  unfold bX2_isWord_28 at h
  refine r_iload_n (j := 2) F rfl rfl dX2_isWord_28 ?_
  refine r_aload_n (j := 1) F rfl rfl dX2_isWord_29 ?_
  replace h := bind_so h
  obtain ⟨a30, h30, h⟩ := h
  refine r_strlen F h30 tw_686 ⟨by decide, by decide⟩ (Nat.le_of_ble_eq_true rfl) dX2_isWord_30 ?_
  refine r_icmp_ge (tgt := 63) F (by decide) dX2_isWord_33 (fun hc => ?_) (fun hc => ?_)
  · replace h := ite_p h hc
    refine r_iconst F rfl dX2_isWord_63 ?_
    obtain rfl := Option.some.inj h
    exact r_zret (Or.inr rfl) F dX2_isWord_64
  · replace h := ite_n h hc
    refine r_aload_n (j := 0) F rfl rfl dX2_isWord_36 ?_
    replace h := bind_so h
    obtain ⟨a37, h37, h⟩ := h
    refine r_getT (t := 2) rfl clok_2 F (by decide) h37 tw_448 dX2_isWord_37 ?_
    refine r_aload_n (j := 0) F rfl rfl dX2_isWord_40 ?_
    replace h := bind_so h
    obtain ⟨a41, h41, h⟩ := h
    refine r_getT (t := 0) rfl clok_2 F (by decide) h41 tw_456 dX2_isWord_41 ?_
    refine r_iload_n (j := 2) F rfl rfl dX2_isWord_44 ?_
    refine r_iadd F dX2_isWord_45 ?_
    replace h := bind_so h
    obtain ⟨a46, h46, h⟩ := h
    refine r_iald F h46 dX2_isWord_46 ?_
    refine r_aload_n (j := 1) F rfl rfl dX2_isWord_47 ?_
    refine r_iload_n (j := 2) F rfl rfl dX2_isWord_48 ?_
    replace h := bind_so h
    obtain ⟨a49, h49, h⟩ := h
    refine r_strat F h49 tw_696 ⟨by decide, by decide⟩ (Nat.le_of_ble_eq_true rfl) dX2_isWord_49 ?_
    refine r_icmp_eq (tgt := 57) F (by decide) dX2_isWord_52 (fun hc => ?_) (fun hc => ?_)
    · replace h := ite_p h hc
      refine r_iinc (j := 2) (ls' := [(2, vI (wI (l2 + 1))), (0, vR l0), (1, vR l1)]) F rfl (by decide) rfl dX2_isWord_57 ?_
      refine r_goto (tgt := 28) F (by decide) dX2_isWord_60 ?_
      refine r_sub [1, 2, 0] (ls' := [(0, vR l0), (1, vR l1), (2, vI (wI (l2 + 1)))]) rfl ?_
      exact hk28 h
    · replace h := ite_n h hc
      refine r_iconst F rfl dX2_isWord_55 ?_
      obtain rfl := Option.some.inj h
      exact r_zret (Or.inl rfl) F dX2_isWord_56
theorem tX2_isWord_28 {E : En} {p : Program} {l : Launch} {e : Env} {s : State} {m : MethodId} {args : Array Value} {below : List Frame} {meth : Method} {c : Code} {q : Int × Mem} (F : Fx E p s m args meth c cX2_isWord 3 yX2_isWord.cls (some FieldType.boolean) yX2_isWord.name) : ∀ {fu : Nat} {l0 l1 l2 : Int} {M : Mem}, mX2_isWord_28 fu l0 l1 l2 M = some q → G E p l e (rmOf 6 0 0) s m args below meth c 3 (QZ E below args s (rmOf 6 0 0) (some (vI q.1)) q.2) 0 0 M 28 [(0, vR l0), (1, vR l1), (2, vI l2)] [] := by
  intro fu
  induction fu with
  | zero => intro l0 l1 l2 M h; exact nomatch (show (none : Option (Int × Mem)) = some q from h)
  | succ fu ih => intro l0 l1 l2 M h; exact tbX2_isWord_28  (fun h => ih h) F h
theorem tX2_isWord {l0 l1 : Int} {M : Mem} {q : Int × Mem} (h : mX2_isWord l0 l1 M = some q) : Ct 6 0 0 yX2_isWord cX2_isWord 3 (some FieldType.boolean) [vR l0, vR l1] M (some (vI q.1)) q.2 := by
  unfold mX2_isWord at h
  refine Ct.of (by decide) (Nat.le_of_ble_eq_true rfl) ?_
  intro E p l e s m args below meth c F
  refine r_sub [0, 1] (ls' := [(0, vR l0), (1, vR l1)]) rfl ?_
  refine r_aload_n (j := 0) F rfl rfl dX2_isWord_0 ?_
  replace h := bind_so h
  obtain ⟨a1, h1, h⟩ := h
  refine r_getT (t := 0) rfl clok_2 F (by decide) h1 tw_455 dX2_isWord_1 ?_
  refine r_iconst F rfl dX2_isWord_4 ?_
  refine r_icmp_ne (tgt := 24) F (by decide) dX2_isWord_5 (fun hc => ?_) (fun hc => ?_)
  · replace h := ite_n h hc
    refine r_iconst F rfl dX2_isWord_24 ?_
    obtain rfl := Option.some.inj h
    exact r_zret (Or.inl rfl) F dX2_isWord_25
  · replace h := ite_p h hc
    refine r_aload_n (j := 0) F rfl rfl dX2_isWord_8 ?_
    replace h := bind_so h
    obtain ⟨a9, h9, h⟩ := h
    refine r_getT (t := 0) rfl clok_2 F (by decide) h9 tw_457 dX2_isWord_9 ?_
    refine r_aload_n (j := 0) F rfl rfl dX2_isWord_12 ?_
    replace h := bind_so h
    obtain ⟨a13, h13, h⟩ := h
    refine r_getT (t := 0) rfl clok_2 F (by decide) h13 tw_456 dX2_isWord_13 ?_
    refine r_isub F dX2_isWord_16 ?_
    refine r_aload_n (j := 1) F rfl rfl dX2_isWord_17 ?_
    replace h := bind_so h
    obtain ⟨a18, h18, h⟩ := h
    refine r_strlen F h18 tw_686 ⟨by decide, by decide⟩ (Nat.le_of_ble_eq_true rfl) dX2_isWord_18 ?_
    refine r_icmp_eq (tgt := 26) F (by decide) dX2_isWord_21 (fun hc => ?_) (fun hc => ?_)
    · replace h := ite_p h hc
      refine r_iconst F rfl dX2_isWord_26 ?_
      refine r_istore_n (ls' := [(2, vI 0), (0, vR l0), (1, vR l1)]) F rfl (by decide) rfl dX2_isWord_27 ?_
      refine r_sub [1, 2, 0] (ls' := [(0, vR l0), (1, vR l1), (2, vI 0)]) rfl ?_
      exact tX2_isWord_28 F h
    · replace h := ite_n h hc
      refine r_iconst F rfl dX2_isWord_24 ?_
      obtain rfl := Option.some.inj h
      exact r_zret (Or.inl rfl) F dX2_isWord_25
theorem tX2_oneLetter {l0 : Int} {M : Mem} {q : Int × Mem} (h : mX2_oneLetter l0 M = some q) : Ct 0 0 0 yX2_oneLetter cX2_oneLetter 1 (some FieldType.int) [vR l0] M (some (vI q.1)) q.2 := by
  unfold mX2_oneLetter at h
  refine Ct.of (by decide) (Nat.le_of_ble_eq_true rfl) ?_
  intro E p l e s m args below meth c F
  refine r_sub [0] (ls' := [(0, vR l0)]) rfl ?_
  refine r_aload_n (j := 0) F rfl rfl dX2_oneLetter_0 ?_
  replace h := bind_so h
  obtain ⟨a1, h1, h⟩ := h
  refine r_getT (t := 0) rfl clok_2 F (by decide) h1 tw_455 dX2_oneLetter_1 ?_
  refine r_iconst F rfl dX2_oneLetter_4 ?_
  refine r_icmp_ne (tgt := 33) F (by decide) dX2_oneLetter_5 (fun hc => ?_) (fun hc => ?_)
  · replace h := ite_n h hc
    refine r_iconst F rfl dX2_oneLetter_33 ?_
    obtain rfl := Option.some.inj h
    exact r_iret F dX2_oneLetter_34
  · replace h := ite_p h hc
    refine r_aload_n (j := 0) F rfl rfl dX2_oneLetter_8 ?_
    replace h := bind_so h
    obtain ⟨a9, h9, h⟩ := h
    refine r_getT (t := 0) rfl clok_2 F (by decide) h9 tw_457 dX2_oneLetter_9 ?_
    refine r_aload_n (j := 0) F rfl rfl dX2_oneLetter_12 ?_
    replace h := bind_so h
    obtain ⟨a13, h13, h⟩ := h
    refine r_getT (t := 0) rfl clok_2 F (by decide) h13 tw_456 dX2_oneLetter_13 ?_
    refine r_isub F dX2_oneLetter_16 ?_
    refine r_iconst F rfl dX2_oneLetter_17 ?_
    refine r_icmp_ne (tgt := 33) F (by decide) dX2_oneLetter_18 (fun hc => ?_) (fun hc => ?_)
    · replace h := ite_n h hc
      refine r_iconst F rfl dX2_oneLetter_33 ?_
      obtain rfl := Option.some.inj h
      exact r_iret F dX2_oneLetter_34
    · replace h := ite_p h hc
      refine r_aload_n (j := 0) F rfl rfl dX2_oneLetter_21 ?_
      replace h := bind_so h
      obtain ⟨a22, h22, h⟩ := h
      refine r_getT (t := 2) rfl clok_2 F (by decide) h22 tw_448 dX2_oneLetter_22 ?_
      refine r_aload_n (j := 0) F rfl rfl dX2_oneLetter_25 ?_
      replace h := bind_so h
      obtain ⟨a26, h26, h⟩ := h
      refine r_getT (t := 0) rfl clok_2 F (by decide) h26 tw_456 dX2_oneLetter_26 ?_
      replace h := bind_so h
      obtain ⟨a29, h29, h⟩ := h
      refine r_iald F h29 dX2_oneLetter_29 ?_
      refine r_goto (tgt := 34) F (by decide) dX2_oneLetter_30 ?_
      obtain rfl := Option.some.inj h
      exact r_iret F dX2_oneLetter_34
theorem tX3_hasRelation {l0 l1 : Int} {M : Mem} {q : Int × Mem} (h : mX3_hasRelation l0 l1 M = some q) : Ct 0 0 0 yX3_hasRelation cX3_hasRelation 2 (some FieldType.boolean) [vR l0, vI l1] M (some (vI q.1)) q.2 := by
  unfold mX3_hasRelation at h
  refine Ct.of (by decide) (Nat.le_of_ble_eq_true rfl) ?_
  intro E p l e s m args below meth c F
  refine r_sub [0, 1] (ls' := [(0, vR l0), (1, vI l1)]) rfl ?_
  refine r_iload_n (j := 1) F rfl rfl dX3_hasRelation_0 ?_
  refine r_if_lt (tgt := 16) F (by decide) dX3_hasRelation_1 (fun hc => ?_) (fun hc => ?_)
  · replace h := ite_p h hc
    refine r_iconst F rfl dX3_hasRelation_16 ?_
    obtain rfl := Option.some.inj h
    exact r_zret (Or.inl rfl) F dX3_hasRelation_17
  · replace h := ite_n h hc
    refine r_iload_n (j := 1) F rfl rfl dX3_hasRelation_4 ?_
    refine r_aload_n (j := 0) F rfl rfl dX3_hasRelation_5 ?_
    replace h := bind_so h
    obtain ⟨a6, h6, h⟩ := h
    refine r_getT (t := 0) rfl clok_3 F (by decide) h6 tw_177 dX3_hasRelation_6 ?_
    refine r_icmp_ge (tgt := 16) F (by decide) dX3_hasRelation_9 (fun hc => ?_) (fun hc => ?_)
    · replace h := ite_p h hc
      refine r_iconst F rfl dX3_hasRelation_16 ?_
      obtain rfl := Option.some.inj h
      exact r_zret (Or.inl rfl) F dX3_hasRelation_17
    · replace h := ite_n h hc
      refine r_iconst F rfl dX3_hasRelation_12 ?_
      refine r_goto (tgt := 17) F (by decide) dX3_hasRelation_13 ?_
      obtain rfl := Option.some.inj h
      exact r_zret (Or.inr rfl) F dX3_hasRelation_17
theorem tX2_firstWord {l0 : Int} {M : Mem} {q : Int × Mem} (h : mX2_firstWord l0 M = some q) : Ct 7 0 0 yX2_firstWord cX2_firstWord 1 (some FieldType.int) [vR l0] M (some (vI q.1)) q.2 := by
  unfold mX2_firstWord at h
  refine Ct.of (by decide) (Nat.le_of_ble_eq_true rfl) ?_
  intro E p l e s m args below meth c F
  refine r_sub [0] (ls' := [(0, vR l0)]) rfl ?_
  refine r_aload_n (j := 0) F rfl rfl dX2_firstWord_0 ?_
  refine r_ldcS (i := 0) F (by decide) rfl rfl dX2_firstWord_1 ?_
  refine r_eq (y := -100) (by decide) ?_
  replace h := bind_so h
  obtain ⟨_, g3, h⟩ := h
  replace h := bind_so h
  obtain ⟨q3, h3, h⟩ := h
  refine r_callV (as := [vR (-100)]) (rv := (some (vI q3.1))) (kc := 0) (nc := 0) (tX2_isWord h3) clok_2 F (gK_so g3) tw_682 tw_684 tw_12 tw_685 tw_119 ⟨by decide, by decide, show (parseMethodDescriptor yX2_isWord.desc).map (fun d => d.parameters.length) = some 1 by decide +kernel⟩ ⟨by decide, by decide⟩ (Nat.le_of_ble_eq_true rfl) dX2_firstWord_3 ?_
  refine r_if_eq (tgt := 11) F (by decide) dX2_firstWord_6 (fun hc => ?_) (fun hc => ?_)
  · replace h := ite_p h hc
    refine r_aload_n (j := 0) F rfl rfl dX2_firstWord_11 ?_
    refine r_ldcS (i := 1) F (by decide) rfl rfl dX2_firstWord_12 ?_
    refine r_eq (y := -101) (by decide) ?_
    replace h := bind_so h
    obtain ⟨_, g14, h⟩ := h
    replace h := bind_so h
    obtain ⟨q14, h14, h⟩ := h
    refine r_callV (as := [vR (-101)]) (rv := (some (vI q14.1))) (kc := 0) (nc := 0) (tX2_isWord h14) clok_2 F (gK_so g14) tw_682 tw_684 tw_12 tw_685 tw_119 ⟨by decide, by decide, show (parseMethodDescriptor yX2_isWord.desc).map (fun d => d.parameters.length) = some 1 by decide +kernel⟩ ⟨by decide, by decide⟩ (Nat.le_of_ble_eq_true rfl) dX2_firstWord_14 ?_
    refine r_if_eq (tgt := 22) F (by decide) dX2_firstWord_17 (fun hc => ?_) (fun hc => ?_)
    · replace h := ite_p h hc
      refine r_aload_n (j := 0) F rfl rfl dX2_firstWord_22 ?_
      refine r_ldcS (i := 2) F (by decide) rfl rfl dX2_firstWord_23 ?_
      refine r_eq (y := -102) (by decide) ?_
      replace h := bind_so h
      obtain ⟨_, g25, h⟩ := h
      replace h := bind_so h
      obtain ⟨q25, h25, h⟩ := h
      refine r_callV (as := [vR (-102)]) (rv := (some (vI q25.1))) (kc := 0) (nc := 0) (tX2_isWord h25) clok_2 F (gK_so g25) tw_682 tw_684 tw_12 tw_685 tw_119 ⟨by decide, by decide, show (parseMethodDescriptor yX2_isWord.desc).map (fun d => d.parameters.length) = some 1 by decide +kernel⟩ ⟨by decide, by decide⟩ (Nat.le_of_ble_eq_true rfl) dX2_firstWord_25 ?_
      refine r_if_eq (tgt := 33) F (by decide) dX2_firstWord_28 (fun hc => ?_) (fun hc => ?_)
      · replace h := ite_p h hc
        refine r_aload_n (j := 0) F rfl rfl dX2_firstWord_33 ?_
        refine r_ldcS (i := 3) F (by decide) rfl rfl dX2_firstWord_34 ?_
        refine r_eq (y := -103) (by decide) ?_
        replace h := bind_so h
        obtain ⟨_, g36, h⟩ := h
        replace h := bind_so h
        obtain ⟨q36, h36, h⟩ := h
        refine r_callV (as := [vR (-103)]) (rv := (some (vI q36.1))) (kc := 0) (nc := 0) (tX2_isWord h36) clok_2 F (gK_so g36) tw_682 tw_684 tw_12 tw_685 tw_119 ⟨by decide, by decide, show (parseMethodDescriptor yX2_isWord.desc).map (fun d => d.parameters.length) = some 1 by decide +kernel⟩ ⟨by decide, by decide⟩ (Nat.le_of_ble_eq_true rfl) dX2_firstWord_36 ?_
        refine r_if_eq (tgt := 44) F (by decide) dX2_firstWord_39 (fun hc => ?_) (fun hc => ?_)
        · replace h := ite_p h hc
          refine r_aload_n (j := 0) F rfl rfl dX2_firstWord_44 ?_
          refine r_ldcS (i := 4) F (by decide) rfl rfl dX2_firstWord_45 ?_
          refine r_eq (y := -104) (by decide) ?_
          replace h := bind_so h
          obtain ⟨_, g47, h⟩ := h
          replace h := bind_so h
          obtain ⟨q47, h47, h⟩ := h
          refine r_callV (as := [vR (-104)]) (rv := (some (vI q47.1))) (kc := 0) (nc := 0) (tX2_isWord h47) clok_2 F (gK_so g47) tw_682 tw_684 tw_12 tw_685 tw_119 ⟨by decide, by decide, show (parseMethodDescriptor yX2_isWord.desc).map (fun d => d.parameters.length) = some 1 by decide +kernel⟩ ⟨by decide, by decide⟩ (Nat.le_of_ble_eq_true rfl) dX2_firstWord_47 ?_
          refine r_if_eq (tgt := 55) F (by decide) dX2_firstWord_50 (fun hc => ?_) (fun hc => ?_)
          · replace h := ite_p h hc
            refine r_aload_n (j := 0) F rfl rfl dX2_firstWord_55 ?_
            refine r_ldcS (i := 5) F (by decide) rfl rfl dX2_firstWord_56 ?_
            refine r_eq (y := -105) (by decide) ?_
            replace h := bind_so h
            obtain ⟨_, g58, h⟩ := h
            replace h := bind_so h
            obtain ⟨q58, h58, h⟩ := h
            refine r_callV (as := [vR (-105)]) (rv := (some (vI q58.1))) (kc := 0) (nc := 0) (tX2_isWord h58) clok_2 F (gK_so g58) tw_682 tw_684 tw_12 tw_685 tw_119 ⟨by decide, by decide, show (parseMethodDescriptor yX2_isWord.desc).map (fun d => d.parameters.length) = some 1 by decide +kernel⟩ ⟨by decide, by decide⟩ (Nat.le_of_ble_eq_true rfl) dX2_firstWord_58 ?_
            refine r_if_eq (tgt := 66) F (by decide) dX2_firstWord_61 (fun hc => ?_) (fun hc => ?_)
            · replace h := ite_p h hc
              refine r_aload_n (j := 0) F rfl rfl dX2_firstWord_66 ?_
              refine r_ldcS (i := 6) F (by decide) rfl rfl dX2_firstWord_67 ?_
              refine r_eq (y := -106) (by decide) ?_
              replace h := bind_so h
              obtain ⟨_, g69, h⟩ := h
              replace h := bind_so h
              obtain ⟨q69, h69, h⟩ := h
              refine r_callV (as := [vR (-106)]) (rv := (some (vI q69.1))) (kc := 0) (nc := 0) (tX2_isWord h69) clok_2 F (gK_so g69) tw_682 tw_684 tw_12 tw_685 tw_119 ⟨by decide, by decide, show (parseMethodDescriptor yX2_isWord.desc).map (fun d => d.parameters.length) = some 1 by decide +kernel⟩ ⟨by decide, by decide⟩ (Nat.le_of_ble_eq_true rfl) dX2_firstWord_69 ?_
              refine r_if_eq (tgt := 78) F (by decide) dX2_firstWord_72 (fun hc => ?_) (fun hc => ?_)
              · replace h := ite_p h hc
                refine r_aload_n (j := 0) F rfl rfl dX2_firstWord_78 ?_
                refine r_ldcS (i := 7) F (by decide) rfl rfl dX2_firstWord_79 ?_
                refine r_eq (y := -107) (by decide) ?_
                replace h := bind_so h
                obtain ⟨_, g81, h⟩ := h
                replace h := bind_so h
                obtain ⟨q81, h81, h⟩ := h
                refine r_callV (as := [vR (-107)]) (rv := (some (vI q81.1))) (kc := 0) (nc := 0) (tX2_isWord h81) clok_2 F (gK_so g81) tw_682 tw_684 tw_12 tw_685 tw_119 ⟨by decide, by decide, show (parseMethodDescriptor yX2_isWord.desc).map (fun d => d.parameters.length) = some 1 by decide +kernel⟩ ⟨by decide, by decide⟩ (Nat.le_of_ble_eq_true rfl) dX2_firstWord_81 ?_
                refine r_if_eq (tgt := 90) F (by decide) dX2_firstWord_84 (fun hc => ?_) (fun hc => ?_)
                · replace h := ite_p h hc
                  refine r_aload_n (j := 0) F rfl rfl dX2_firstWord_90 ?_
                  refine r_ldcS (i := 8) F (by decide) rfl rfl dX2_firstWord_91 ?_
                  refine r_eq (y := -108) (by decide) ?_
                  replace h := bind_so h
                  obtain ⟨_, g93, h⟩ := h
                  replace h := bind_so h
                  obtain ⟨q93, h93, h⟩ := h
                  refine r_callV (as := [vR (-108)]) (rv := (some (vI q93.1))) (kc := 0) (nc := 0) (tX2_isWord h93) clok_2 F (gK_so g93) tw_682 tw_684 tw_12 tw_685 tw_119 ⟨by decide, by decide, show (parseMethodDescriptor yX2_isWord.desc).map (fun d => d.parameters.length) = some 1 by decide +kernel⟩ ⟨by decide, by decide⟩ (Nat.le_of_ble_eq_true rfl) dX2_firstWord_93 ?_
                  refine r_if_eq (tgt := 102) F (by decide) dX2_firstWord_96 (fun hc => ?_) (fun hc => ?_)
                  · replace h := ite_p h hc
                    refine r_aload_n (j := 0) F rfl rfl dX2_firstWord_102 ?_
                    refine r_ldcS (i := 9) F (by decide) rfl rfl dX2_firstWord_103 ?_
                    refine r_eq (y := -109) (by decide) ?_
                    replace h := bind_so h
                    obtain ⟨_, g105, h⟩ := h
                    replace h := bind_so h
                    obtain ⟨q105, h105, h⟩ := h
                    refine r_callV (as := [vR (-109)]) (rv := (some (vI q105.1))) (kc := 0) (nc := 0) (tX2_isWord h105) clok_2 F (gK_so g105) tw_682 tw_684 tw_12 tw_685 tw_119 ⟨by decide, by decide, show (parseMethodDescriptor yX2_isWord.desc).map (fun d => d.parameters.length) = some 1 by decide +kernel⟩ ⟨by decide, by decide⟩ (Nat.le_of_ble_eq_true rfl) dX2_firstWord_105 ?_
                    refine r_if_eq (tgt := 114) F (by decide) dX2_firstWord_108 (fun hc => ?_) (fun hc => ?_)
                    · replace h := ite_p h hc
                      refine r_aload_n (j := 0) F rfl rfl dX2_firstWord_114 ?_
                      refine r_ldcS (i := 10) F (by decide) rfl rfl dX2_firstWord_115 ?_
                      refine r_eq (y := -110) (by decide) ?_
                      replace h := bind_so h
                      obtain ⟨_, g117, h⟩ := h
                      replace h := bind_so h
                      obtain ⟨q117, h117, h⟩ := h
                      refine r_callV (as := [vR (-110)]) (rv := (some (vI q117.1))) (kc := 0) (nc := 0) (tX2_isWord h117) clok_2 F (gK_so g117) tw_682 tw_684 tw_12 tw_685 tw_119 ⟨by decide, by decide, show (parseMethodDescriptor yX2_isWord.desc).map (fun d => d.parameters.length) = some 1 by decide +kernel⟩ ⟨by decide, by decide⟩ (Nat.le_of_ble_eq_true rfl) dX2_firstWord_117 ?_
                      refine r_if_eq (tgt := 126) F (by decide) dX2_firstWord_120 (fun hc => ?_) (fun hc => ?_)
                      · replace h := ite_p h hc
                        refine r_aload_n (j := 0) F rfl rfl dX2_firstWord_126 ?_
                        replace h := bind_so h
                        obtain ⟨a127, h127, h⟩ := h
                        refine r_getT (t := 2) rfl clok_2 F (by decide) h127 tw_450 dX2_firstWord_127 ?_
                        refine r_aload_n (j := 0) F rfl rfl dX2_firstWord_130 ?_
                        replace h := bind_so h
                        obtain ⟨_, g131, h⟩ := h
                        replace h := bind_so h
                        obtain ⟨q131, h131, h⟩ := h
                        refine r_callV (as := []) (rv := (some (vI q131.1))) (kc := 0) (nc := 0) (tX2_oneLetter h131) clok_2 F (gK_so g131) tw_744 tw_746 tw_13 tw_747 tw_119 ⟨by decide, by decide, show (parseMethodDescriptor yX2_oneLetter.desc).map (fun d => d.parameters.length) = some 0 by decide +kernel⟩ ⟨by decide, by decide⟩ (Nat.le_of_ble_eq_true rfl) dX2_firstWord_131 ?_
                        refine r_bipush F rfl (by decide) dX2_firstWord_134 ?_
                        refine r_isub F dX2_firstWord_136 ?_
                        replace h := bind_so h
                        obtain ⟨_, g137, h⟩ := h
                        replace h := bind_so h
                        obtain ⟨q137, h137, h⟩ := h
                        refine r_callV (as := [vI (wI (q131.1 - 114))]) (rv := (some (vI q137.1))) (kc := 0) (nc := 0) (tX3_hasRelation h137) clok_3 F (gK_so g137) tw_748 tw_576 tw_577 tw_578 tw_115 ⟨by decide, by decide, show (parseMethodDescriptor yX3_hasRelation.desc).map (fun d => d.parameters.length) = some 1 by decide +kernel⟩ ⟨by decide, by decide⟩ (Nat.le_of_ble_eq_true rfl) dX2_firstWord_137 ?_
                        refine r_if_eq (tgt := 148) F (by decide) dX2_firstWord_140 (fun hc => ?_) (fun hc => ?_)
                        · replace h := ite_p h hc
                          refine r_iconst F rfl dX2_firstWord_148 ?_
                          obtain rfl := Option.some.inj h
                          exact r_iret F dX2_firstWord_149
                        · replace h := ite_n h hc
                          refine r_bipush F rfl (by decide) dX2_firstWord_143 ?_
                          refine r_goto (tgt := 149) F (by decide) dX2_firstWord_145 ?_
                          obtain rfl := Option.some.inj h
                          exact r_iret F dX2_firstWord_149
                      · replace h := ite_n h hc
                        refine r_bipush F rfl (by decide) dX2_firstWord_123 ?_
                        obtain rfl := Option.some.inj h
                        exact r_iret F dX2_firstWord_125
                    · replace h := ite_n h hc
                      refine r_bipush F rfl (by decide) dX2_firstWord_111 ?_
                      obtain rfl := Option.some.inj h
                      exact r_iret F dX2_firstWord_113
                  · replace h := ite_n h hc
                    refine r_bipush F rfl (by decide) dX2_firstWord_99 ?_
                    obtain rfl := Option.some.inj h
                    exact r_iret F dX2_firstWord_101
                · replace h := ite_n h hc
                  refine r_bipush F rfl (by decide) dX2_firstWord_87 ?_
                  obtain rfl := Option.some.inj h
                  exact r_iret F dX2_firstWord_89
              · replace h := ite_n h hc
                refine r_bipush F rfl (by decide) dX2_firstWord_75 ?_
                obtain rfl := Option.some.inj h
                exact r_iret F dX2_firstWord_77
            · replace h := ite_n h hc
              refine r_iconst F rfl dX2_firstWord_64 ?_
              obtain rfl := Option.some.inj h
              exact r_iret F dX2_firstWord_65
          · replace h := ite_n h hc
            refine r_iconst F rfl dX2_firstWord_53 ?_
            obtain rfl := Option.some.inj h
            exact r_iret F dX2_firstWord_54
        · replace h := ite_n h hc
          refine r_iconst F rfl dX2_firstWord_42 ?_
          obtain rfl := Option.some.inj h
          exact r_iret F dX2_firstWord_43
      · replace h := ite_n h hc
        refine r_iconst F rfl dX2_firstWord_31 ?_
        obtain rfl := Option.some.inj h
        exact r_iret F dX2_firstWord_32
    · replace h := ite_n h hc
      refine r_iconst F rfl dX2_firstWord_20 ?_
      obtain rfl := Option.some.inj h
      exact r_iret F dX2_firstWord_21
  · replace h := ite_n h hc
    refine r_iconst F rfl dX2_firstWord_9 ?_
    obtain rfl := Option.some.inj h
    exact r_iret F dX2_firstWord_10
theorem tX2_note {l0 l1 l2 : Int} {M : Mem} {q : Int × Mem} (h : mX2_note l0 l1 l2 M = some q) : Ct 0 0 0 yX2_note cX2_note 3 none [vR l0, vI l1, vI l2] M none q.2 := by
  unfold mX2_note at h
  refine Ct.of (by decide) (Nat.le_of_ble_eq_true rfl) ?_
  intro E p l e s m args below meth c F
  refine r_sub [0, 1, 2] (ls' := [(0, vR l0), (1, vI l1), (2, vI l2)]) rfl ?_
  refine r_aload_n (j := 0) F rfl rfl dX2_note_0 ?_
  replace h := bind_so h
  obtain ⟨a1, h1, h⟩ := h
  refine r_getT (t := 2) rfl clok_2 F (by decide) h1 tw_447 dX2_note_1 ?_
  replace h := bind_so h
  obtain ⟨a4, h4, h⟩ := h
  refine r_getT (t := 0) rfl clok_6 F (by decide) h4 tw_223 dX2_note_4 ?_
  refine r_if_ne (tgt := 26) F (by decide) dX2_note_7 (fun hc => ?_) (fun hc => ?_)
  · replace h := ite_n h hc
    obtain rfl := Option.some.inj h
    exact r_vret F dX2_note_26
  · replace h := ite_p h hc
    refine r_aload_n (j := 0) F rfl rfl dX2_note_10 ?_
    replace h := bind_so h
    obtain ⟨a11, h11, h⟩ := h
    refine r_getT (t := 2) rfl clok_2 F (by decide) h11 tw_447 dX2_note_11 ?_
    refine r_iload_n (j := 1) F rfl rfl dX2_note_14 ?_
    replace h := bind_so h
    obtain ⟨M15, h15, h⟩ := h
    refine r_put clok_6 F (by decide) rfl (by decide) (by decide) h15 tw_223 dX2_note_15 ?_
    refine r_aload_n (j := 0) F rfl rfl dX2_note_18 ?_
    replace h := bind_so h
    obtain ⟨a19, h19, h⟩ := h
    refine r_getT (t := 2) rfl clok_2 F (by decide) h19 tw_447 dX2_note_19 ?_
    refine r_iload_n (j := 2) F rfl rfl dX2_note_22 ?_
    replace h := bind_so h
    obtain ⟨M23, h23, h⟩ := h
    refine r_put clok_6 F (by decide) rfl (by decide) (by decide) h23 tw_227 dX2_note_23 ?_
    obtain rfl := Option.some.inj h
    exact r_vret F dX2_note_26
theorem tX2_refuse {l0 : Int} {M : Mem} {q : Int × Mem} (h : mX2_refuse l0 M = some q) : Ct 0 0 0 yX2_refuse cX2_refuse 1 none [vR l0] M none q.2 := by
  unfold mX2_refuse at h
  refine Ct.of (by decide) (Nat.le_of_ble_eq_true rfl) ?_
  intro E p l e s m args below meth c F
  refine r_sub [0] (ls' := [(0, vR l0)]) rfl ?_
  refine r_aload_n (j := 0) F rfl rfl dX2_refuse_0 ?_
  replace h := bind_so h
  obtain ⟨a1, h1, h⟩ := h
  refine r_getT (t := 0) rfl clok_2 F (by decide) h1 tw_451 dX2_refuse_1 ?_
  refine r_if_ne (tgt := 31) F (by decide) dX2_refuse_4 (fun hc => ?_) (fun hc => ?_)
  · replace h := ite_n h hc
    obtain rfl := Option.some.inj h
    exact r_vret F dX2_refuse_31
  · replace h := ite_p h hc
    refine r_aload_n (j := 0) F rfl rfl dX2_refuse_7 ?_
    refine r_iconst F rfl dX2_refuse_8 ?_
    replace h := bind_so h
    obtain ⟨M9, h9, h⟩ := h
    refine r_putZ clok_2 F (by decide) rfl rfl h9 tw_451 dX2_refuse_9 ?_
    refine r_aload_n (j := 0) F rfl rfl dX2_refuse_12 ?_
    replace h := bind_so h
    obtain ⟨a13, h13, h⟩ := h
    refine r_getT (t := 2) rfl clok_2 F (by decide) h13 tw_447 dX2_refuse_13 ?_
    refine r_iconst F rfl dX2_refuse_16 ?_
    replace h := bind_so h
    obtain ⟨M17, h17, h⟩ := h
    refine r_put clok_6 F (by decide) rfl (by decide) (by decide) h17 tw_223 dX2_refuse_17 ?_
    refine r_aload_n (j := 0) F rfl rfl dX2_refuse_20 ?_
    replace h := bind_so h
    obtain ⟨a21, h21, h⟩ := h
    refine r_getT (t := 2) rfl clok_2 F (by decide) h21 tw_447 dX2_refuse_21 ?_
    refine r_aload_n (j := 0) F rfl rfl dX2_refuse_24 ?_
    replace h := bind_so h
    obtain ⟨a25, h25, h⟩ := h
    refine r_getT (t := 0) rfl clok_2 F (by decide) h25 tw_456 dX2_refuse_25 ?_
    replace h := bind_so h
    obtain ⟨M28, h28, h⟩ := h
    refine r_put clok_6 F (by decide) rfl (by decide) (by decide) h28 tw_227 dX2_refuse_28 ?_
    obtain rfl := Option.some.inj h
    exact r_vret F dX2_refuse_31
theorem tX2_depth {l0 : Int} {M : Mem} {q : Int × Mem} (h : mX2_depth l0 M = some q) : Ct 0 0 0 yX2_depth cX2_depth 1 (some FieldType.int) [vI l0] M (some (vI q.1)) q.2 := by
  unfold mX2_depth at h
  refine Ct.of (by decide) (Nat.le_of_ble_eq_true rfl) ?_
  intro E p l e s m args below meth c F
  refine r_sub [0] (ls' := [(0, vI l0)]) rfl ?_
  refine r_iload_n (j := 0) F rfl rfl dX2_depth_0 ?_
  refine r_bipush F rfl (by decide) dX2_depth_1 ?_
  refine r_ishr F dX2_depth_3 ?_
  obtain rfl := Option.some.inj h
  exact r_iret F dX2_depth_4
theorem tX2_takeNumber_12 {E : En} {p : Program} {l : Launch} {e : Env} {s : State} {m : MethodId} {args : Array Value} {below : List Frame} {meth : Method} {c : Code} {q : Int × Mem} {l0 : Int} {M : Mem} (F : Fx E p s m args meth c cX2_takeNumber 2 yX2_takeNumber.cls (some FieldType.int) yX2_takeNumber.name) (h : mX2_takeNumber_12 l0 M = some q) : G E p l e (rmOf 2 0 0) s m args below meth c 2 (QZ E below args s (rmOf 2 0 0) (some (vI q.1)) q.2) 0 0 M 12 [(0, vR l0)] [] := by
  unfold mX2_takeNumber_12 at h
  refine r_aload_n (j := 0) F rfl rfl dX2_takeNumber_12 ?_
  replace h := bind_so h
  obtain ⟨a13, h13, h⟩ := h
  refine r_getT (t := 0) rfl clok_2 F (by decide) h13 tw_451 dX2_takeNumber_13 ?_
  refine r_if_eq (tgt := 21) F (by decide) dX2_takeNumber_16 (fun hc => ?_) (fun hc => ?_)
  · replace h := ite_p h hc
    refine r_aload_n (j := 0) F rfl rfl dX2_takeNumber_21 ?_
    replace h := bind_so h
    obtain ⟨a22, h22, h⟩ := h
    refine r_getT (t := 0) rfl clok_2 F (by decide) h22 tw_458 dX2_takeNumber_22 ?_
    refine r_istore_n (ls' := [(1, vI a22), (0, vR l0)]) F rfl (by decide) rfl dX2_takeNumber_25 ?_
    refine r_aload_n (j := 1) F rfl rfl dX2_takeNumber_26 ?_
    replace h := bind_so h
    obtain ⟨_, g27, h⟩ := h
    replace h := bind_so h
    obtain ⟨q27, h27, h⟩ := h
    refine r_callV (as := []) (rv := none) (kc := 0) (nc := 0) (tX2_advance h27) clok_2 F (gK_so g27) tw_661 tw_663 tw_7 tw_664 tw_119 ⟨by decide, by decide, show (parseMethodDescriptor yX2_advance.desc).map (fun d => d.parameters.length) = some 0 by decide +kernel⟩ ⟨by decide, by decide⟩ (Nat.le_of_ble_eq_true rfl) dX2_takeNumber_27 ?_
    refine r_iload_n (j := 0) F rfl rfl dX2_takeNumber_30 ?_
    obtain rfl := Option.some.inj h
    exact r_iret F dX2_takeNumber_31
  · replace h := ite_n h hc
    refine r_iconst F rfl dX2_takeNumber_19 ?_
    obtain rfl := Option.some.inj h
    exact r_iret F dX2_takeNumber_20
theorem tX2_takeNumber {l0 : Int} {M : Mem} {q : Int × Mem} (h : mX2_takeNumber l0 M = some q) : Ct 2 0 0 yX2_takeNumber cX2_takeNumber 2 (some FieldType.int) [vR l0] M (some (vI q.1)) q.2 := by
  unfold mX2_takeNumber at h
  refine Ct.of (by decide) (Nat.le_of_ble_eq_true rfl) ?_
  intro E p l e s m args below meth c F
  refine r_sub [0] (ls' := [(0, vR l0)]) rfl ?_
  refine r_aload_n (j := 0) F rfl rfl dX2_takeNumber_0 ?_
  replace h := bind_so h
  obtain ⟨a1, h1, h⟩ := h
  refine r_getT (t := 0) rfl clok_2 F (by decide) h1 tw_455 dX2_takeNumber_1 ?_
  refine r_iconst F rfl dX2_takeNumber_4 ?_
  refine r_icmp_eq (tgt := 12) F (by decide) dX2_takeNumber_5 (fun hc => ?_) (fun hc => ?_)
  · replace h := ite_p h hc
    refine r_sub [0] (ls' := [(0, vR l0)]) rfl ?_
    exact tX2_takeNumber_12 F h
  · replace h := ite_n h hc
    refine r_aload_n (j := 0) F rfl rfl dX2_takeNumber_8 ?_
    replace h := bind_so h
    obtain ⟨_, g9, h⟩ := h
    replace h := bind_so h
    obtain ⟨q9, h9, h⟩ := h
    refine r_callV (as := []) (rv := none) (kc := 0) (nc := 0) (tX2_refuse h9) clok_2 F (gK_so g9) tw_749 tw_751 tw_14 tw_752 tw_119 ⟨by decide, by decide, show (parseMethodDescriptor yX2_refuse.desc).map (fun d => d.parameters.length) = some 0 by decide +kernel⟩ ⟨by decide, by decide⟩ (Nat.le_of_ble_eq_true rfl) dX2_takeNumber_9 ?_
    refine r_sub [0] (ls' := [(0, vR l0)]) rfl ?_
    exact tX2_takeNumber_12 F h
theorem tX2_takeVariable_21 {E : En} {p : Program} {l : Launch} {e : Env} {s : State} {m : MethodId} {args : Array Value} {below : List Frame} {meth : Method} {c : Code} {q : Int × Mem} {l0 l1 : Int} {M : Mem} (F : Fx E p s m args meth c cX2_takeVariable 2 yX2_takeVariable.cls (some FieldType.int) yX2_takeVariable.name) (h : mX2_takeVariable_21 l0 l1 M = some q) : G E p l e (rmOf 2 0 0) s m args below meth c 2 (QZ E below args s (rmOf 2 0 0) (some (vI q.1)) q.2) 0 0 M 21 [(0, vR l0), (1, vI l1)] [] := by
  unfold mX2_takeVariable_21 at h
  refine r_aload_n (j := 0) F rfl rfl dX2_takeVariable_21 ?_
  replace h := bind_so h
  obtain ⟨a22, h22, h⟩ := h
  refine r_getT (t := 0) rfl clok_2 F (by decide) h22 tw_451 dX2_takeVariable_22 ?_
  refine r_if_eq (tgt := 30) F (by decide) dX2_takeVariable_25 (fun hc => ?_) (fun hc => ?_)
  · replace h := ite_p h hc
    refine r_aload_n (j := 0) F rfl rfl dX2_takeVariable_30 ?_
    replace h := bind_so h
    obtain ⟨_, g31, h⟩ := h
    replace h := bind_so h
    obtain ⟨q31, h31, h⟩ := h
    refine r_callV (as := []) (rv := none) (kc := 0) (nc := 0) (tX2_advance h31) clok_2 F (gK_so g31) tw_661 tw_663 tw_7 tw_664 tw_119 ⟨by decide, by decide, show (parseMethodDescriptor yX2_advance.desc).map (fun d => d.parameters.length) = some 0 by decide +kernel⟩ ⟨by decide, by decide⟩ (Nat.le_of_ble_eq_true rfl) dX2_takeVariable_31 ?_
    refine r_iload_n (j := 1) F rfl rfl dX2_takeVariable_34 ?_
    refine r_bipush F rfl (by decide) dX2_takeVariable_35 ?_
    refine r_isub F dX2_takeVariable_37 ?_
    obtain rfl := Option.some.inj h
    exact r_iret F dX2_takeVariable_38
  · replace h := ite_n h hc
    refine r_iconst F rfl dX2_takeVariable_28 ?_
    obtain rfl := Option.some.inj h
    exact r_iret F dX2_takeVariable_29
theorem tX2_takeVariable_17 {E : En} {p : Program} {l : Launch} {e : Env} {s : State} {m : MethodId} {args : Array Value} {below : List Frame} {meth : Method} {c : Code} {q : Int × Mem} {l0 l1 : Int} {M : Mem} (F : Fx E p s m args meth c cX2_takeVariable 2 yX2_takeVariable.cls (some FieldType.int) yX2_takeVariable.name) (h : mX2_takeVariable_17 l0 l1 M = some q) : G E p l e (rmOf 2 0 0) s m args below meth c 2 (QZ E below args s (rmOf 2 0 0) (some (vI q.1)) q.2) 0 0 M 17 [(0, vR l0), (1, vI l1)] [] := by
  unfold mX2_takeVariable_17 at h
  refine r_aload_n (j := 0) F rfl rfl dX2_takeVariable_17 ?_
  replace h := bind_so h
  obtain ⟨_, g18, h⟩ := h
  replace h := bind_so h
  obtain ⟨q18, h18, h⟩ := h
  refine r_callV (as := []) (rv := none) (kc := 0) (nc := 0) (tX2_refuse h18) clok_2 F (gK_so g18) tw_749 tw_751 tw_14 tw_752 tw_119 ⟨by decide, by decide, show (parseMethodDescriptor yX2_refuse.desc).map (fun d => d.parameters.length) = some 0 by decide +kernel⟩ ⟨by decide, by decide⟩ (Nat.le_of_ble_eq_true rfl) dX2_takeVariable_18 ?_
  refine r_sub [0, 1] (ls' := [(0, vR l0), (1, vI l1)]) rfl ?_
  exact tX2_takeVariable_21 F h
theorem tX2_takeVariable {l0 : Int} {M : Mem} {q : Int × Mem} (h : mX2_takeVariable l0 M = some q) : Ct 2 0 0 yX2_takeVariable cX2_takeVariable 2 (some FieldType.int) [vR l0] M (some (vI q.1)) q.2 := by
  unfold mX2_takeVariable at h
  refine Ct.of (by decide) (Nat.le_of_ble_eq_true rfl) ?_
  intro E p l e s m args below meth c F
  refine r_sub [0] (ls' := [(0, vR l0)]) rfl ?_
  refine r_aload_n (j := 0) F rfl rfl dX2_takeVariable_0 ?_
  replace h := bind_so h
  obtain ⟨_, g1, h⟩ := h
  replace h := bind_so h
  obtain ⟨q1, h1, h⟩ := h
  refine r_callV (as := []) (rv := (some (vI q1.1))) (kc := 0) (nc := 0) (tX2_oneLetter h1) clok_2 F (gK_so g1) tw_744 tw_746 tw_13 tw_747 tw_119 ⟨by decide, by decide, show (parseMethodDescriptor yX2_oneLetter.desc).map (fun d => d.parameters.length) = some 0 by decide +kernel⟩ ⟨by decide, by decide⟩ (Nat.le_of_ble_eq_true rfl) dX2_takeVariable_1 ?_
  refine r_istore_n (ls' := [(1, vI q1.1), (0, vR l0)]) F rfl (by decide) rfl dX2_takeVariable_4 ?_
  refine r_iload_n (j := 0) F rfl rfl dX2_takeVariable_5 ?_
  refine r_bipush F rfl (by decide) dX2_takeVariable_6 ?_
  refine r_icmp_lt (tgt := 17) F (by decide) dX2_takeVariable_8 (fun hc => ?_) (fun hc => ?_)
  · replace h := ite_p h hc
    refine r_sub [1, 0] (ls' := [(0, vR l0), (1, vI q1.1)]) rfl ?_
    exact tX2_takeVariable_17 F h
  · replace h := ite_n h hc
    refine r_iload_n (j := 0) F rfl rfl dX2_takeVariable_11 ?_
    refine r_bipush F rfl (by decide) dX2_takeVariable_12 ?_
    refine r_icmp_le (tgt := 21) F (by decide) dX2_takeVariable_14 (fun hc => ?_) (fun hc => ?_)
    · replace h := ite_p h hc
      refine r_sub [1, 0] (ls' := [(0, vR l0), (1, vI q1.1)]) rfl ?_
      exact tX2_takeVariable_21 F h
    · replace h := ite_n h hc
      refine r_sub [1, 0] (ls' := [(0, vR l0), (1, vI q1.1)]) rfl ?_
      exact tX2_takeVariable_17 F h
theorem tX2_takeKind_48 {E : En} {p : Program} {l : Launch} {e : Env} {s : State} {m : MethodId} {args : Array Value} {below : List Frame} {meth : Method} {c : Code} {q : Int × Mem} {l0 l1 : Int} {M : Mem} (F : Fx E p s m args meth c cX2_takeKind 2 yX2_takeKind.cls (some FieldType.int) yX2_takeKind.name) (h : mX2_takeKind_48 l0 l1 M = some q) : G E p l e (rmOf 7 0 0) s m args below meth c 2 (QZ E below args s (rmOf 7 0 0) (some (vI q.1)) q.2) 0 0 M 48 [(0, vR l0), (1, vI l1)] [] := by
  unfold mX2_takeKind_48 at h
  refine r_aload_n (j := 0) F rfl rfl dX2_takeKind_48 ?_
  replace h := bind_so h
  obtain ⟨a49, h49, h⟩ := h
  refine r_getT (t := 0) rfl clok_2 F (by decide) h49 tw_451 dX2_takeKind_49 ?_
  refine r_if_eq (tgt := 57) F (by decide) dX2_takeKind_52 (fun hc => ?_) (fun hc => ?_)
  · replace h := ite_p h hc
    refine r_aload_n (j := 0) F rfl rfl dX2_takeKind_57 ?_
    replace h := bind_so h
    obtain ⟨_, g58, h⟩ := h
    replace h := bind_so h
    obtain ⟨q58, h58, h⟩ := h
    refine r_callV (as := []) (rv := none) (kc := 0) (nc := 0) (tX2_advance h58) clok_2 F (gK_so g58) tw_661 tw_663 tw_7 tw_664 tw_119 ⟨by decide, by decide, show (parseMethodDescriptor yX2_advance.desc).map (fun d => d.parameters.length) = some 0 by decide +kernel⟩ ⟨by decide, by decide⟩ (Nat.le_of_ble_eq_true rfl) dX2_takeKind_58 ?_
    refine r_iload_n (j := 1) F rfl rfl dX2_takeKind_61 ?_
    obtain rfl := Option.some.inj h
    exact r_iret F dX2_takeKind_62
  · replace h := ite_n h hc
    refine r_iconst F rfl dX2_takeKind_55 ?_
    obtain rfl := Option.some.inj h
    exact r_iret F dX2_takeKind_56
theorem tX2_takeKind {l0 : Int} {M : Mem} {q : Int × Mem} (h : mX2_takeKind l0 M = some q) : Ct 7 0 0 yX2_takeKind cX2_takeKind 2 (some FieldType.int) [vR l0] M (some (vI q.1)) q.2 := by
  unfold mX2_takeKind at h
  refine Ct.of (by decide) (Nat.le_of_ble_eq_true rfl) ?_
  intro E p l e s m args below meth c F
  refine r_sub [0] (ls' := [(0, vR l0)]) rfl ?_
  refine r_iconst F rfl dX2_takeKind_0 ?_
  refine r_istore_n (ls' := [(1, vI (-1)), (0, vR l0)]) F rfl (by decide) rfl dX2_takeKind_1 ?_
  refine r_aload_n (j := 1) F rfl rfl dX2_takeKind_2 ?_
  refine r_ldcS (i := 11) F (by decide) rfl rfl dX2_takeKind_3 ?_
  refine r_eq (y := -111) (by decide) ?_
  replace h := bind_so h
  obtain ⟨_, g5, h⟩ := h
  replace h := bind_so h
  obtain ⟨q5, h5, h⟩ := h
  refine r_callV (as := [vR (-111)]) (rv := (some (vI q5.1))) (kc := 0) (nc := 0) (tX2_isWord h5) clok_2 F (gK_so g5) tw_682 tw_684 tw_12 tw_685 tw_119 ⟨by decide, by decide, show (parseMethodDescriptor yX2_isWord.desc).map (fun d => d.parameters.length) = some 1 by decide +kernel⟩ ⟨by decide, by decide⟩ (Nat.le_of_ble_eq_true rfl) dX2_takeKind_5 ?_
  refine r_if_eq (tgt := 16) F (by decide) dX2_takeKind_8 (fun hc => ?_) (fun hc => ?_)
  · replace h := ite_p h hc
    refine r_aload_n (j := 1) F rfl rfl dX2_takeKind_16 ?_
    refine r_ldcS (i := 12) F (by decide) rfl rfl dX2_takeKind_17 ?_
    refine r_eq (y := -112) (by decide) ?_
    replace h := bind_so h
    obtain ⟨_, g19, h⟩ := h
    replace h := bind_so h
    obtain ⟨q19, h19, h⟩ := h
    refine r_callV (as := [vR (-112)]) (rv := (some (vI q19.1))) (kc := 0) (nc := 0) (tX2_isWord h19) clok_2 F (gK_so g19) tw_682 tw_684 tw_12 tw_685 tw_119 ⟨by decide, by decide, show (parseMethodDescriptor yX2_isWord.desc).map (fun d => d.parameters.length) = some 1 by decide +kernel⟩ ⟨by decide, by decide⟩ (Nat.le_of_ble_eq_true rfl) dX2_takeKind_19 ?_
    refine r_if_eq (tgt := 30) F (by decide) dX2_takeKind_22 (fun hc => ?_) (fun hc => ?_)
    · replace h := ite_p h hc
      refine r_aload_n (j := 1) F rfl rfl dX2_takeKind_30 ?_
      refine r_ldcS (i := 13) F (by decide) rfl rfl dX2_takeKind_31 ?_
      refine r_eq (y := -113) (by decide) ?_
      replace h := bind_so h
      obtain ⟨_, g33, h⟩ := h
      replace h := bind_so h
      obtain ⟨q33, h33, h⟩ := h
      refine r_callV (as := [vR (-113)]) (rv := (some (vI q33.1))) (kc := 0) (nc := 0) (tX2_isWord h33) clok_2 F (gK_so g33) tw_682 tw_684 tw_12 tw_685 tw_119 ⟨by decide, by decide, show (parseMethodDescriptor yX2_isWord.desc).map (fun d => d.parameters.length) = some 1 by decide +kernel⟩ ⟨by decide, by decide⟩ (Nat.le_of_ble_eq_true rfl) dX2_takeKind_33 ?_
      refine r_if_eq (tgt := 44) F (by decide) dX2_takeKind_36 (fun hc => ?_) (fun hc => ?_)
      · replace h := ite_p h hc
        refine r_aload_n (j := 1) F rfl rfl dX2_takeKind_44 ?_
        replace h := bind_so h
        obtain ⟨_, g45, h⟩ := h
        replace h := bind_so h
        obtain ⟨q45, h45, h⟩ := h
        refine r_callV (as := []) (rv := none) (kc := 0) (nc := 0) (tX2_refuse h45) clok_2 F (gK_so g45) tw_749 tw_751 tw_14 tw_752 tw_119 ⟨by decide, by decide, show (parseMethodDescriptor yX2_refuse.desc).map (fun d => d.parameters.length) = some 0 by decide +kernel⟩ ⟨by decide, by decide⟩ (Nat.le_of_ble_eq_true rfl) dX2_takeKind_45 ?_
        refine r_sub [1, 0] (ls' := [(0, vR l0), (1, vI (-1))]) rfl ?_
        exact tX2_takeKind_48 F h
      · replace h := ite_n h hc
        refine r_iconst F rfl dX2_takeKind_39 ?_
        refine r_istore_n (ls' := [(1, vI 2), (0, vR l0)]) F rfl (by decide) rfl dX2_takeKind_40 ?_
        refine r_goto (tgt := 48) F (by decide) dX2_takeKind_41 ?_
        refine r_sub [1, 0] (ls' := [(0, vR l0), (1, vI 2)]) rfl ?_
        exact tX2_takeKind_48 F h
    · replace h := ite_n h hc
      refine r_iconst F rfl dX2_takeKind_25 ?_
      refine r_istore_n (ls' := [(1, vI 1), (0, vR l0)]) F rfl (by decide) rfl dX2_takeKind_26 ?_
      refine r_goto (tgt := 48) F (by decide) dX2_takeKind_27 ?_
      refine r_sub [1, 0] (ls' := [(0, vR l0), (1, vI 1)]) rfl ?_
      exact tX2_takeKind_48 F h
  · replace h := ite_n h hc
    refine r_iconst F rfl dX2_takeKind_11 ?_
    refine r_istore_n (ls' := [(1, vI 0), (0, vR l0)]) F rfl (by decide) rfl dX2_takeKind_12 ?_
    refine r_goto (tgt := 48) F (by decide) dX2_takeKind_13 ?_
    refine r_sub [1, 0] (ls' := [(0, vR l0), (1, vI 0)]) rfl ?_
    exact tX2_takeKind_48 F h
theorem tX5_write_53 {E : En} {p : Program} {l : Launch} {e : Env} {s : State} {m : MethodId} {args : Array Value} {below : List Frame} {meth : Method} {c : Code} {q : Int × Mem} {l0 : Int} {M : Mem} (F : Fx E p s m args meth c cX5_write 5 yX5_write.cls none yX5_write.name) (h : mX5_write_53 l0 M = some q) : G E p l e (rmOf 0 0 0) s m args below meth c 5 (QZ E below args s (rmOf 0 0 0) none q.2) 0 0 M 53 [(0, vR l0)] [] := by
  unfold mX5_write_53 at h
  refine r_aload_n (j := 0) F rfl rfl dX5_write_53 ?_
  refine r_dup1 F rfl dX5_write_54 ?_
  replace h := bind_so h
  obtain ⟨a55, h55, h⟩ := h
  refine r_getT (t := 0) rfl clok_5 F (by decide) h55 tw_430 dX5_write_55 ?_
  refine r_iconst F rfl dX5_write_58 ?_
  refine r_iadd F dX5_write_59 ?_
  replace h := bind_so h
  obtain ⟨M60, h60, h⟩ := h
  refine r_put clok_5 F (by decide) rfl (by decide) (by decide) h60 tw_430 dX5_write_60 ?_
  obtain rfl := Option.some.inj h
  exact r_vret F dX5_write_63
theorem tX5_write {l0 l1 l2 l3 l4 : Int} {M : Mem} {q : Int × Mem} (h : mX5_write l0 l1 l2 l3 l4 M = some q) : Ct 0 0 0 yX5_write cX5_write 5 none [vR l0, vI l1, vI l2, vI l3, vI l4] M none q.2 := by
  unfold mX5_write at h
  refine Ct.of (by decide) (Nat.le_of_ble_eq_true rfl) ?_
  intro E p l e s m args below meth c F
  refine r_sub [0, 1, 2, 3, 4] (ls' := [(0, vR l0), (1, vI l1), (2, vI l2), (3, vI l3), (4, vI l4)]) rfl ?_
  refine r_aload_n (j := 0) F rfl rfl dX5_write_0 ?_
  replace h := bind_so h
  obtain ⟨a1, h1, h⟩ := h
  refine r_getT (t := 0) rfl clok_5 F (by decide) h1 tw_430 dX5_write_1 ?_
  refine r_aload_n (j := 0) F rfl rfl dX5_write_4 ?_
  replace h := bind_so h
  obtain ⟨a5, h5, h⟩ := h
  refine r_getT (t := 2) rfl clok_5 F (by decide) h5 tw_420 dX5_write_5 ?_
  replace h := bind_so h
  obtain ⟨a8, h8, h⟩ := h
  refine r_alen (t := 10) (by decide) F h8 dX5_write_8 ?_
  refine r_icmp_ge (tgt := 53) F (by decide) dX5_write_9 (fun hc => ?_) (fun hc => ?_)
  · replace h := ite_p h hc
    refine r_sub [0] (ls' := [(0, vR l0)]) rfl ?_
    exact tX5_write_53 F h
  · replace h := ite_n h hc
    refine r_aload_n (j := 0) F rfl rfl dX5_write_12 ?_
    replace h := bind_so h
    obtain ⟨a13, h13, h⟩ := h
    refine r_getT (t := 2) rfl clok_5 F (by decide) h13 tw_420 dX5_write_13 ?_
    refine r_aload_n (j := 0) F rfl rfl dX5_write_16 ?_
    replace h := bind_so h
    obtain ⟨a17, h17, h⟩ := h
    refine r_getT (t := 0) rfl clok_5 F (by decide) h17 tw_430 dX5_write_17 ?_
    refine r_iload_n (j := 1) F rfl rfl dX5_write_20 ?_
    replace h := bind_so h
    obtain ⟨M21, h21, h⟩ := h
    refine r_iast F h21 dX5_write_21 ?_
    refine r_aload_n (j := 0) F rfl rfl dX5_write_22 ?_
    replace h := bind_so h
    obtain ⟨a23, h23, h⟩ := h
    refine r_getT (t := 2) rfl clok_5 F (by decide) h23 tw_422 dX5_write_23 ?_
    refine r_aload_n (j := 0) F rfl rfl dX5_write_26 ?_
    replace h := bind_so h
    obtain ⟨a27, h27, h⟩ := h
    refine r_getT (t := 0) rfl clok_5 F (by decide) h27 tw_430 dX5_write_27 ?_
    refine r_iload_n (j := 2) F rfl rfl dX5_write_30 ?_
    replace h := bind_so h
    obtain ⟨M31, h31, h⟩ := h
    refine r_iast F h31 dX5_write_31 ?_
    refine r_aload_n (j := 0) F rfl rfl dX5_write_32 ?_
    replace h := bind_so h
    obtain ⟨a33, h33, h⟩ := h
    refine r_getT (t := 2) rfl clok_5 F (by decide) h33 tw_424 dX5_write_33 ?_
    refine r_aload_n (j := 0) F rfl rfl dX5_write_36 ?_
    replace h := bind_so h
    obtain ⟨a37, h37, h⟩ := h
    refine r_getT (t := 0) rfl clok_5 F (by decide) h37 tw_430 dX5_write_37 ?_
    refine r_iload_n (j := 3) F rfl rfl dX5_write_40 ?_
    replace h := bind_so h
    obtain ⟨M41, h41, h⟩ := h
    refine r_iast F h41 dX5_write_41 ?_
    refine r_aload_n (j := 0) F rfl rfl dX5_write_42 ?_
    replace h := bind_so h
    obtain ⟨a43, h43, h⟩ := h
    refine r_getT (t := 2) rfl clok_5 F (by decide) h43 tw_426 dX5_write_43 ?_
    refine r_aload_n (j := 0) F rfl rfl dX5_write_46 ?_
    replace h := bind_so h
    obtain ⟨a47, h47, h⟩ := h
    refine r_getT (t := 0) rfl clok_5 F (by decide) h47 tw_430 dX5_write_47 ?_
    refine r_iload (j := 4) F rfl dX5_write_50 ?_
    replace h := bind_so h
    obtain ⟨M52, h52, h⟩ := h
    refine r_iast F h52 dX5_write_52 ?_
    refine r_sub [0] (ls' := [(0, vR l0)]) rfl ?_
    exact tX5_write_53 F h
theorem tX2_bind {l0 l1 l2 l3 : Int} {M : Mem} {q : Int × Mem} (h : mX2_bind l0 l1 l2 l3 M = some q) : Ct 1 0 0 yX2_bind cX2_bind 7 (some FieldType.int) [vI l0, vI l1, vI l2, vI l3] M (some (vI q.1)) q.2 := by
  unfold mX2_bind at h
  refine Ct.of (by decide) (Nat.le_of_ble_eq_true rfl) ?_
  intro E p l e s m args below meth c F
  refine r_sub [0, 1, 2, 3] (ls' := [(0, vI l0), (1, vI l1), (2, vI l2), (3, vI l3)]) rfl ?_
  refine r_iconst F rfl dX2_bind_0 ?_
  refine r_iload_n (j := 1) F rfl rfl dX2_bind_1 ?_
  refine r_imul F dX2_bind_2 ?_
  refine r_istore (ls' := [(4, vI (wI (4 * l1))), (0, vI l0), (1, vI l1), (2, vI l2), (3, vI l3)]) F (by decide) rfl dX2_bind_3 ?_
  refine r_iload_n (j := 1) F rfl rfl dX2_bind_5 ?_
  replace h := bind_so h
  obtain ⟨q6, h6, h⟩ := h
  refine r_callS (as := [vI l0]) (rv := (some (vI q6.1))) (kc := 0) (nc := 0) (tX2_depth h6) F tw_761 tw_762 tw_763 tw_119 ⟨by decide, by decide, show (parseMethodDescriptor yX2_depth.desc).map (fun d => d.parameters.length) = some 1 by decide +kernel⟩ ⟨by decide, by decide⟩ (Nat.le_of_ble_eq_true rfl) dX2_bind_6 ?_
  refine r_iconst F rfl dX2_bind_9 ?_
  refine r_iadd F dX2_bind_10 ?_
  refine r_iconst F rfl dX2_bind_11 ?_
  refine r_min F tw_779 tw_620 tw_121 tw_621 ⟨by decide, by decide⟩ (Nat.le_of_ble_eq_true rfl) dX2_bind_12 ?_
  replace h := bind_so h
  obtain ⟨b15, e15, h⟩ := h
  refine r_eq (y := b15) (Option.some.inj e15) ?_
  refine r_istore (ls' := [(5, vI b15), (4, vI (wI (4 * l1))), (0, vI l0), (1, vI l1), (2, vI l2), (3, vI l3)]) F (by decide) rfl dX2_bind_15 ?_
  refine r_iload_n (j := 2) F rfl rfl dX2_bind_17 ?_
  refine r_ldcv (x := 65535) F rfl (by decide) tw_787 dX2_bind_18 ?_
  refine r_iand F dX2_bind_20 ?_
  refine r_bipush F rfl (by decide) dX2_bind_21 ?_
  refine r_iload (j := 1) F rfl dX2_bind_23 ?_
  refine r_ishl F dX2_bind_25 ?_
  refine r_iconst F rfl dX2_bind_26 ?_
  refine r_ixor F dX2_bind_27 ?_
  refine r_iand F dX2_bind_28 ?_
  replace h := bind_so h
  obtain ⟨b29, e29, h⟩ := h
  refine r_eq (y := b29) (Option.some.inj e29) ?_
  refine r_istore (ls' := [(6, vI b29), (5, vI b15), (4, vI (wI (4 * l1))), (0, vI l0), (1, vI l1), (2, vI l2), (3, vI l3)]) F (by decide) rfl dX2_bind_29 ?_
  refine r_iload (j := 0) F rfl dX2_bind_31 ?_
  refine r_iconst F rfl dX2_bind_33 ?_
  refine r_iload_n (j := 5) F rfl rfl dX2_bind_34 ?_
  refine r_iadd F dX2_bind_35 ?_
  refine r_iconst F rfl dX2_bind_36 ?_
  refine r_iload_n (j := 6) F rfl rfl dX2_bind_37 ?_
  refine r_imul F dX2_bind_38 ?_
  refine r_iadd F dX2_bind_39 ?_
  refine r_iload (j := 2) F rfl dX2_bind_40 ?_
  refine r_ishl F dX2_bind_42 ?_
  refine r_ior F dX2_bind_43 ?_
  refine r_iload (j := 1) F rfl dX2_bind_44 ?_
  refine r_bipush F rfl (by decide) dX2_bind_46 ?_
  refine r_ishl F dX2_bind_48 ?_
  refine r_ior F dX2_bind_49 ?_
  obtain rfl := Option.some.inj h
  exact r_iret F dX2_bind_50
theorem tX2_readBinder_39 {E : En} {p : Program} {l : Launch} {e : Env} {s : State} {m : MethodId} {args : Array Value} {below : List Frame} {meth : Method} {c : Code} {q : Int × Mem} {l0 l1 l2 s0 : Int} {M : Mem} (F : Fx E p s m args meth c cX2_readBinder 7 yX2_readBinder.cls none yX2_readBinder.name) (h : mX2_readBinder_39 l0 l1 l2 s0 M = some q) : G E p l e (rmOf 8 0 0) s m args below meth c 7 (QZ E below args s (rmOf 8 0 0) none q.2) 0 0 M 39 [(0, vR l0), (1, vI l1), (2, vI l2)] [vI s0] := by
  unfold mX2_readBinder_39 at h
  refine r_istore_n (ls' := [(3, vI s0), (0, vR l0), (1, vI l1), (2, vI l2)]) F rfl (by decide) rfl dX2_readBinder_39 ?_
  refine r_aload_n (j := 1) F rfl rfl dX2_readBinder_40 ?_
  replace h := bind_so h
  obtain ⟨_, g41, h⟩ := h
  replace h := bind_so h
  obtain ⟨q41, h41, h⟩ := h
  refine r_callV (as := []) (rv := (some (vI q41.1))) (kc := 0) (nc := 0) (tX2_takeVariable h41) clok_2 F (gK_so g41) tw_768 tw_770 tw_18 tw_771 tw_119 ⟨by decide, by decide, show (parseMethodDescriptor yX2_takeVariable.desc).map (fun d => d.parameters.length) = some 0 by decide +kernel⟩ ⟨by decide, by decide⟩ (Nat.le_of_ble_eq_true rfl) dX2_readBinder_41 ?_
  refine r_istore (ls' := [(4, vI q41.1), (3, vI s0), (0, vR l0), (1, vI l1), (2, vI l2)]) F (by decide) rfl dX2_readBinder_44 ?_
  refine r_aload_n (j := 2) F rfl rfl dX2_readBinder_46 ?_
  replace h := bind_so h
  obtain ⟨_, g47, h⟩ := h
  replace h := bind_so h
  obtain ⟨q47, h47, h⟩ := h
  refine r_callV (as := []) (rv := (some (vI q47.1))) (kc := 0) (nc := 0) (tX2_takeKind h47) clok_2 F (gK_so g47) tw_772 tw_774 tw_19 tw_775 tw_119 ⟨by decide, by decide, show (parseMethodDescriptor yX2_takeKind.desc).map (fun d => d.parameters.length) = some 0 by decide +kernel⟩ ⟨by decide, by decide⟩ (Nat.le_of_ble_eq_true rfl) dX2_readBinder_47 ?_
  refine r_istore (ls' := [(5, vI q47.1), (4, vI q41.1), (3, vI s0), (0, vR l0), (1, vI l1), (2, vI l2)]) F (by decide) rfl dX2_readBinder_50 ?_
  refine r_aload_n (j := 3) F rfl rfl dX2_readBinder_52 ?_
  replace h := bind_so h
  obtain ⟨a53, h53, h⟩ := h
  refine r_getT (t := 0) rfl clok_2 F (by decide) h53 tw_451 dX2_readBinder_53 ?_
  refine r_if_eq (tgt := 60) F (by decide) dX2_readBinder_56 (fun hc => ?_) (fun hc => ?_)
  · replace h := ite_p h hc
    refine r_iload_n (j := 5) F rfl rfl dX2_readBinder_60 ?_
    replace h := bind_so h
    obtain ⟨q61, h61, h⟩ := h
    refine r_callS (as := [vI l2]) (rv := (some (vI q61.1))) (kc := 0) (nc := 0) (tX2_depth h61) F tw_761 tw_762 tw_763 tw_119 ⟨by decide, by decide, show (parseMethodDescriptor yX2_depth.desc).map (fun d => d.parameters.length) = some 1 by decide +kernel⟩ ⟨by decide, by decide⟩ (Nat.le_of_ble_eq_true rfl) dX2_readBinder_61 ?_
    refine r_iconst F rfl dX2_readBinder_64 ?_
    refine r_min F tw_779 tw_620 tw_121 tw_621 ⟨by decide, by decide⟩ (Nat.le_of_ble_eq_true rfl) dX2_readBinder_65 ?_
    replace h := bind_so h
    obtain ⟨b68, e68, h⟩ := h
    refine r_eq (y := b68) (Option.some.inj e68) ?_
    refine r_istore (ls' := [(6, vI b68), (5, vI q47.1), (4, vI q41.1), (3, vI s0), (0, vR l0), (1, vI l1), (2, vI l2)]) F (by decide) rfl dX2_readBinder_68 ?_
    refine r_aload_n (j := 4) F rfl rfl dX2_readBinder_70 ?_
    replace h := bind_so h
    obtain ⟨a71, h71, h⟩ := h
    refine r_getT (t := 2) rfl clok_2 F (by decide) h71 tw_452 dX2_readBinder_71 ?_
    refine r_iload_n (j := 5) F rfl rfl dX2_readBinder_74 ?_
    refine r_iload_n (j := 3) F rfl rfl dX2_readBinder_75 ?_
    refine r_iload (j := 0) F rfl dX2_readBinder_76 ?_
    refine r_iload (j := 1) F rfl dX2_readBinder_78 ?_
    replace h := bind_so h
    obtain ⟨_, g80, h⟩ := h
    replace h := bind_so h
    obtain ⟨q80, h80, h⟩ := h
    refine r_callV (as := [vI l1, vI s0, vI b68, vI q47.1]) (rv := none) (kc := 0) (nc := 0) (tX5_write h80) clok_5 F (gK_so g80) tw_780 tw_781 tw_782 tw_783 tw_120 ⟨by decide, by decide, show (parseMethodDescriptor yX5_write.desc).map (fun d => d.parameters.length) = some 4 by decide +kernel⟩ ⟨by decide, by decide⟩ (Nat.le_of_ble_eq_true rfl) dX2_readBinder_80 ?_
    refine r_aload_n (j := 4) F rfl rfl dX2_readBinder_83 ?_
    refine r_iload_n (j := 6) F rfl rfl dX2_readBinder_84 ?_
    refine r_iload (j := 2) F rfl dX2_readBinder_85 ?_
    refine r_iload (j := 1) F rfl dX2_readBinder_87 ?_
    refine r_iload (j := 0) F rfl dX2_readBinder_89 ?_
    replace h := bind_so h
    obtain ⟨q91, h91, h⟩ := h
    refine r_callS (as := [vI l2, vI q41.1, vI q47.1, vI b68]) (rv := (some (vI q91.1))) (kc := 0) (nc := 0) (tX2_bind h91) F tw_784 tw_785 tw_786 tw_119 ⟨by decide, by decide, show (parseMethodDescriptor yX2_bind.desc).map (fun d => d.parameters.length) = some 4 by decide +kernel⟩ ⟨by decide, by decide⟩ (Nat.le_of_ble_eq_true rfl) dX2_readBinder_91 ?_
    replace h := bind_so h
    obtain ⟨_, g94, h⟩ := h
    replace h := bind_so h
    obtain ⟨q94, h94, h⟩ := h
    refine r_callV (as := [vI q91.1]) (rv := none) (kc := 0) (nc := 0) (tX2_expectPart h94) clok_2 F (gK_so g94) tw_657 tw_659 tw_6 tw_660 tw_119 ⟨by decide, by decide, show (parseMethodDescriptor yX2_expectPart.desc).map (fun d => d.parameters.length) = some 1 by decide +kernel⟩ ⟨by decide, by decide⟩ (Nat.le_of_ble_eq_true rfl) dX2_readBinder_94 ?_
    obtain rfl := Option.some.inj h
    exact r_vret F dX2_readBinder_97
  · replace h := ite_n h hc
    obtain rfl := Option.some.inj h
    exact r_vret F dX2_readBinder_59
theorem tX2_readBinder_31 {E : En} {p : Program} {l : Launch} {e : Env} {s : State} {m : MethodId} {args : Array Value} {below : List Frame} {meth : Method} {c : Code} {q : Int × Mem} {l0 l1 l2 : Int} {M : Mem} (F : Fx E p s m args meth c cX2_readBinder 7 yX2_readBinder.cls none yX2_readBinder.name) (h : mX2_readBinder_31 l0 l1 l2 M = some q) : G E p l e (rmOf 8 0 0) s m args below meth c 7 (QZ E below args s (rmOf 8 0 0) none q.2) 0 0 M 31 [(0, vR l0), (1, vI l1), (2, vI l2)] [] := by
  unfold mX2_readBinder_31 at h
  refine r_aload_n (j := 0) F rfl rfl dX2_readBinder_31 ?_
  replace h := bind_so h
  obtain ⟨_, g32, h⟩ := h
  replace h := bind_so h
  obtain ⟨q32, h32, h⟩ := h
  refine r_callV (as := []) (rv := (some (vI q32.1))) (kc := 0) (nc := 0) (tX2_takeNumber h32) clok_2 F (gK_so g32) tw_764 tw_766 tw_17 tw_767 tw_119 ⟨by decide, by decide, show (parseMethodDescriptor yX2_takeNumber.desc).map (fun d => d.parameters.length) = some 0 by decide +kernel⟩ ⟨by decide, by decide⟩ (Nat.le_of_ble_eq_true rfl) dX2_readBinder_32 ?_
  refine r_goto (tgt := 39) F (by decide) dX2_readBinder_35 ?_
  refine r_sub [0, 1, 2] (ls' := [(0, vR l0), (1, vI l1), (2, vI l2)]) rfl ?_
  exact tX2_readBinder_39 F h
theorem tX2_readBinder_17 {E : En} {p : Program} {l : Launch} {e : Env} {s : State} {m : MethodId} {args : Array Value} {below : List Frame} {meth : Method} {c : Code} {q : Int × Mem} {l0 l1 l2 : Int} {M : Mem} (F : Fx E p s m args meth c cX2_readBinder 7 yX2_readBinder.cls none yX2_readBinder.name) (h : mX2_readBinder_17 l0 l1 l2 M = some q) : G E p l e (rmOf 8 0 0) s m args below meth c 7 (QZ E below args s (rmOf 8 0 0) none q.2) 0 0 M 17 [(0, vR l0), (1, vI l1), (2, vI l2)] [] := by
  unfold mX2_readBinder_17 at h
  refine r_aload_n (j := 0) F rfl rfl dX2_readBinder_17 ?_
  replace h := bind_so h
  obtain ⟨_, g18, h⟩ := h
  replace h := bind_so h
  obtain ⟨q18, h18, h⟩ := h
  refine r_callV (as := []) (rv := none) (kc := 0) (nc := 0) (tX2_advance h18) clok_2 F (gK_so g18) tw_661 tw_663 tw_7 tw_664 tw_119 ⟨by decide, by decide, show (parseMethodDescriptor yX2_advance.desc).map (fun d => d.parameters.length) = some 0 by decide +kernel⟩ ⟨by decide, by decide⟩ (Nat.le_of_ble_eq_true rfl) dX2_readBinder_18 ?_
  refine r_iload_n (j := 1) F rfl rfl dX2_readBinder_21 ?_
  refine r_iconst F rfl dX2_readBinder_22 ?_
  refine r_icmp_eq (tgt := 31) F (by decide) dX2_readBinder_23 (fun hc => ?_) (fun hc => ?_)
  · replace h := ite_p h hc
    refine r_sub [0, 1, 2] (ls' := [(0, vR l0), (1, vI l1), (2, vI l2)]) rfl ?_
    exact tX2_readBinder_31 F h
  · replace h := ite_n h hc
    refine r_iload_n (j := 1) F rfl rfl dX2_readBinder_26 ?_
    refine r_iconst F rfl dX2_readBinder_27 ?_
    refine r_icmp_ne (tgt := 38) F (by decide) dX2_readBinder_28 (fun hc => ?_) (fun hc => ?_)
    · replace h := ite_n h hc
      refine r_iconst F rfl dX2_readBinder_38 ?_
      refine r_sub [0, 1, 2] (ls' := [(0, vR l0), (1, vI l1), (2, vI l2)]) rfl ?_
      exact tX2_readBinder_39 F h
    · replace h := ite_p h hc
      refine r_sub [0, 1, 2] (ls' := [(0, vR l0), (1, vI l1), (2, vI l2)]) rfl ?_
      exact tX2_readBinder_31 F h
theorem tX2_readBinder {l0 l1 l2 : Int} {M : Mem} {q : Int × Mem} (h : mX2_readBinder l0 l1 l2 M = some q) : Ct 8 0 0 yX2_readBinder cX2_readBinder 7 none [vR l0, vI l1, vI l2] M none q.2 := by
  unfold mX2_readBinder at h
  refine Ct.of (by decide) (Nat.le_of_ble_eq_true rfl) ?_
  intro E p l e s m args below meth c F
  refine r_sub [0, 1, 2] (ls' := [(0, vR l0), (1, vI l1), (2, vI l2)]) rfl ?_
  refine r_iload_n (j := 2) F rfl rfl dX2_readBinder_0 ?_
  replace h := bind_so h
  obtain ⟨q1, h1, h⟩ := h
  refine r_callS (as := [vI l2]) (rv := (some (vI q1.1))) (kc := 0) (nc := 0) (tX2_depth h1) F tw_761 tw_762 tw_763 tw_119 ⟨by decide, by decide, show (parseMethodDescriptor yX2_depth.desc).map (fun d => d.parameters.length) = some 1 by decide +kernel⟩ ⟨by decide, by decide⟩ (Nat.le_of_ble_eq_true rfl) dX2_readBinder_1 ?_
  refine r_iconst F rfl dX2_readBinder_4 ?_
  refine r_icmp_lt (tgt := 17) F (by decide) dX2_readBinder_5 (fun hc => ?_) (fun hc => ?_)
  · replace h := ite_p h hc
    refine r_sub [0, 1, 2] (ls' := [(0, vR l0), (1, vI l1), (2, vI l2)]) rfl ?_
    exact tX2_readBinder_17 F h
  · replace h := ite_n h hc
    refine r_aload_n (j := 0) F rfl rfl dX2_readBinder_8 ?_
    refine r_iconst F rfl dX2_readBinder_9 ?_
    refine r_aload_n (j := 0) F rfl rfl dX2_readBinder_10 ?_
    replace h := bind_so h
    obtain ⟨a11, h11, h⟩ := h
    refine r_getT (t := 0) rfl clok_2 F (by decide) h11 tw_456 dX2_readBinder_11 ?_
    replace h := bind_so h
    obtain ⟨_, g14, h⟩ := h
    replace h := bind_so h
    obtain ⟨q14, h14, h⟩ := h
    refine r_callV (as := [vI 5, vI a11]) (rv := none) (kc := 0) (nc := 0) (tX2_note h14) clok_2 F (gK_so g14) tw_753 tw_755 tw_15 tw_756 tw_119 ⟨by decide, by decide, show (parseMethodDescriptor yX2_note.desc).map (fun d => d.parameters.length) = some 2 by decide +kernel⟩ ⟨by decide, by decide⟩ (Nat.le_of_ble_eq_true rfl) dX2_readBinder_14 ?_
    refine r_sub [0, 1, 2] (ls' := [(0, vR l0), (1, vI l1), (2, vI l2)]) rfl ?_
    exact tX2_readBinder_17 F h
theorem tX2_readJoint {l0 l1 l2 : Int} {M : Mem} {q : Int × Mem} (h : mX2_readJoint l0 l1 l2 M = some q) : Ct 2 0 0 yX2_readJoint cX2_readJoint 3 none [vR l0, vI l1, vI l2] M none q.2 := by
  unfold mX2_readJoint at h
  refine Ct.of (by decide) (Nat.le_of_ble_eq_true rfl) ?_
  intro E p l e s m args below meth c F
  refine r_sub [0, 1, 2] (ls' := [(0, vR l0), (1, vI l1), (2, vI l2)]) rfl ?_
  refine r_aload_n (j := 0) F rfl rfl dX2_readJoint_0 ?_
  replace h := bind_so h
  obtain ⟨_, g1, h⟩ := h
  replace h := bind_so h
  obtain ⟨q1, h1, h⟩ := h
  refine r_callV (as := []) (rv := none) (kc := 0) (nc := 0) (tX2_advance h1) clok_2 F (gK_so g1) tw_661 tw_663 tw_7 tw_664 tw_119 ⟨by decide, by decide, show (parseMethodDescriptor yX2_advance.desc).map (fun d => d.parameters.length) = some 0 by decide +kernel⟩ ⟨by decide, by decide⟩ (Nat.le_of_ble_eq_true rfl) dX2_readJoint_1 ?_
  refine r_aload_n (j := 0) F rfl rfl dX2_readJoint_4 ?_
  replace h := bind_so h
  obtain ⟨a5, h5, h⟩ := h
  refine r_getT (t := 2) rfl clok_2 F (by decide) h5 tw_452 dX2_readJoint_5 ?_
  refine r_iload_n (j := 1) F rfl rfl dX2_readJoint_8 ?_
  refine r_iconst F rfl dX2_readJoint_9 ?_
  refine r_iconst F rfl dX2_readJoint_10 ?_
  refine r_iconst F rfl dX2_readJoint_11 ?_
  replace h := bind_so h
  obtain ⟨_, g12, h⟩ := h
  replace h := bind_so h
  obtain ⟨q12, h12, h⟩ := h
  refine r_callV (as := [vI l1, vI 0, vI 0, vI 0]) (rv := none) (kc := 0) (nc := 0) (tX5_write h12) clok_5 F (gK_so g12) tw_780 tw_781 tw_782 tw_783 tw_120 ⟨by decide, by decide, show (parseMethodDescriptor yX5_write.desc).map (fun d => d.parameters.length) = some 4 by decide +kernel⟩ ⟨by decide, by decide⟩ (Nat.le_of_ble_eq_true rfl) dX2_readJoint_12 ?_
  refine r_aload_n (j := 0) F rfl rfl dX2_readJoint_15 ?_
  refine r_iload_n (j := 2) F rfl rfl dX2_readJoint_16 ?_
  replace h := bind_so h
  obtain ⟨_, g17, h⟩ := h
  replace h := bind_so h
  obtain ⟨q17, h17, h⟩ := h
  refine r_callV (as := [vI l2]) (rv := none) (kc := 0) (nc := 0) (tX2_expectPart h17) clok_2 F (gK_so g17) tw_657 tw_659 tw_6 tw_660 tw_119 ⟨by decide, by decide, show (parseMethodDescriptor yX2_expectPart.desc).map (fun d => d.parameters.length) = some 1 by decide +kernel⟩ ⟨by decide, by decide⟩ (Nat.le_of_ble_eq_true rfl) dX2_readJoint_17 ?_
  obtain rfl := Option.some.inj h
  exact r_vret F dX2_readJoint_20
theorem tX2_kindOf {l0 : Int} {M : Mem} {q : Int × Mem} (h : mX2_kindOf l0 M = some q) : Ct 0 0 0 yX2_kindOf cX2_kindOf 1 (some FieldType.int) [vI l0] M (some (vI q.1)) q.2 := by
  unfold mX2_kindOf at h
  refine Ct.of (by decide) (Nat.le_of_ble_eq_true rfl) ?_
  intro E p l e s m args below meth c F
  refine r_sub [0] (ls' := [(0, vI l0)]) rfl ?_
  refine r_iload_n (j := 0) F rfl rfl dX2_kindOf_0 ?_
  refine r_if_ne (tgt := 8) F (by decide) dX2_kindOf_1 (fun hc => ?_) (fun hc => ?_)
  · replace h := ite_n h hc
    refine r_iload_n (j := 0) F rfl rfl dX2_kindOf_8 ?_
    refine r_iconst F rfl dX2_kindOf_9 ?_
    refine r_isub F dX2_kindOf_10 ?_
    refine r_iconst F rfl dX2_kindOf_11 ?_
    refine r_iand F dX2_kindOf_12 ?_
    obtain rfl := Option.some.inj h
    exact r_iret F dX2_kindOf_13
  · replace h := ite_p h hc
    refine r_iconst F rfl dX2_kindOf_4 ?_
    refine r_goto (tgt := 13) F (by decide) dX2_kindOf_5 ?_
    obtain rfl := Option.some.inj h
    exact r_iret F dX2_kindOf_13
theorem tX2_takeBound_64 {E : En} {p : Program} {l : Launch} {e : Env} {s : State} {m : MethodId} {args : Array Value} {below : List Frame} {meth : Method} {c : Code} {q : Int × Mem} {l5 : Int} {M : Mem} (F : Fx E p s m args meth c cX2_takeBound 6 yX2_takeBound.cls (some FieldType.int) yX2_takeBound.name) (h : mX2_takeBound_64 l5 M = some q) : G E p l e (rmOf 3 0 0) s m args below meth c 6 (QZ E below args s (rmOf 3 0 0) (some (vI q.1)) q.2) 0 0 M 64 [(5, vI l5)] [] := by
  unfold mX2_takeBound_64 at h
  refine r_iload (j := 0) F rfl dX2_takeBound_64 ?_
  obtain rfl := Option.some.inj h
  exact r_iret F dX2_takeBound_66
theorem tX2_takeBound {l0 l1 l2 : Int} {M : Mem} {q : Int × Mem} (h : mX2_takeBound l0 l1 l2 M = some q) : Ct 3 0 0 yX2_takeBound cX2_takeBound 6 (some FieldType.int) [vR l0, vI l1, vI l2] M (some (vI q.1)) q.2 := by
  unfold mX2_takeBound at h
  refine Ct.of (by decide) (Nat.le_of_ble_eq_true rfl) ?_
  intro E p l e s m args below meth c F
  refine r_sub [0, 1, 2] (ls' := [(0, vR l0), (1, vI l1), (2, vI l2)]) rfl ?_
  refine r_aload_n (j := 0) F rfl rfl dX2_takeBound_0 ?_
  replace h := bind_so h
  obtain ⟨a1, h1, h⟩ := h
  refine r_getT (t := 0) rfl clok_2 F (by decide) h1 tw_456 dX2_takeBound_1 ?_
  refine r_istore_n (ls' := [(3, vI a1), (0, vR l0), (1, vI l1), (2, vI l2)]) F rfl (by decide) rfl dX2_takeBound_4 ?_
  refine r_aload_n (j := 1) F rfl rfl dX2_takeBound_5 ?_
  replace h := bind_so h
  obtain ⟨_, g6, h⟩ := h
  replace h := bind_so h
  obtain ⟨q6, h6, h⟩ := h
  refine r_callV (as := []) (rv := (some (vI q6.1))) (kc := 0) (nc := 0) (tX2_takeVariable h6) clok_2 F (gK_so g6) tw_768 tw_770 tw_18 tw_771 tw_119 ⟨by decide, by decide, show (parseMethodDescriptor yX2_takeVariable.desc).map (fun d => d.parameters.length) = some 0 by decide +kernel⟩ ⟨by decide, by decide⟩ (Nat.le_of_ble_eq_true rfl) dX2_takeBound_6 ?_
  refine r_istore (ls' := [(4, vI q6.1), (3, vI a1), (0, vR l0), (1, vI l1), (2, vI l2)]) F (by decide) rfl dX2_takeBound_9 ?_
  refine r_iload (j := 0) F rfl dX2_takeBound_11 ?_
  refine r_iconst F rfl dX2_takeBound_13 ?_
  refine r_icmp_ne (tgt := 19) F (by decide) dX2_takeBound_14 (fun hc => ?_) (fun hc => ?_)
  · replace h := ite_n h hc
    refine r_iload_n (j := 3) F rfl rfl dX2_takeBound_19 ?_
    refine r_iconst F rfl dX2_takeBound_20 ?_
    refine r_iload (j := 0) F rfl dX2_takeBound_21 ?_
    refine r_imul F dX2_takeBound_23 ?_
    refine r_ishr F dX2_takeBound_24 ?_
    refine r_bipush F rfl (by decide) dX2_takeBound_25 ?_
    refine r_iand F dX2_takeBound_27 ?_
    replace h := bind_so h
    obtain ⟨b28, e28, h⟩ := h
    refine r_eq (y := b28) (Option.some.inj e28) ?_
    refine r_istore (ls' := [(5, vI b28), (4, vI q6.1), (3, vI a1), (0, vR l0), (1, vI l1), (2, vI l2)]) F (by decide) rfl dX2_takeBound_28 ?_
    refine r_iload (j := 0) F rfl dX2_takeBound_30 ?_
    refine r_if_ne (tgt := 44) F (by decide) dX2_takeBound_32 (fun hc => ?_) (fun hc => ?_)
    · replace h := ite_n h hc
      refine r_iload_n (j := 5) F rfl rfl dX2_takeBound_44 ?_
      refine r_iconst F rfl dX2_takeBound_45 ?_
      refine r_icmp_eq (tgt := 64) F (by decide) dX2_takeBound_46 (fun hc => ?_) (fun hc => ?_)
      · replace h := ite_p h hc
        refine r_sub [0] (ls' := [(5, vI b28)]) rfl ?_
        exact tX2_takeBound_64 F h
      · replace h := ite_n h hc
        refine r_iload (j := 0) F rfl dX2_takeBound_49 ?_
        replace h := bind_so h
        obtain ⟨q51, h51, h⟩ := h
        refine r_callS (as := [vI b28]) (rv := (some (vI q51.1))) (kc := 0) (nc := 0) (tX2_kindOf h51) F tw_800 tw_801 tw_802 tw_119 ⟨by decide, by decide, show (parseMethodDescriptor yX2_kindOf.desc).map (fun d => d.parameters.length) = some 1 by decide +kernel⟩ ⟨by decide, by decide⟩ (Nat.le_of_ble_eq_true rfl) dX2_takeBound_51 ?_
        refine r_iload_n (j := 5) F rfl rfl dX2_takeBound_54 ?_
        refine r_icmp_eq (tgt := 64) F (by decide) dX2_takeBound_55 (fun hc => ?_) (fun hc => ?_)
        · replace h := ite_p h hc
          refine r_sub [0] (ls' := [(5, vI b28)]) rfl ?_
          exact tX2_takeBound_64 F h
        · replace h := ite_n h hc
          refine r_aload_n (j := 3) F rfl rfl dX2_takeBound_58 ?_
          refine r_iconst F rfl dX2_takeBound_59 ?_
          refine r_iload_n (j := 2) F rfl rfl dX2_takeBound_60 ?_
          replace h := bind_so h
          obtain ⟨_, g61, h⟩ := h
          replace h := bind_so h
          obtain ⟨q61, h61, h⟩ := h
          refine r_callV (as := [vI 3, vI a1]) (rv := none) (kc := 0) (nc := 0) (tX2_note h61) clok_2 F (gK_so g61) tw_753 tw_755 tw_15 tw_756 tw_119 ⟨by decide, by decide, show (parseMethodDescriptor yX2_note.desc).map (fun d => d.parameters.length) = some 2 by decide +kernel⟩ ⟨by decide, by decide⟩ (Nat.le_of_ble_eq_true rfl) dX2_takeBound_61 ?_
          refine r_sub [0] (ls' := [(5, vI b28)]) rfl ?_
          exact tX2_takeBound_64 F h
    · replace h := ite_p h hc
      refine r_aload_n (j := 3) F rfl rfl dX2_takeBound_35 ?_
      refine r_iconst F rfl dX2_takeBound_36 ?_
      refine r_iload_n (j := 2) F rfl rfl dX2_takeBound_37 ?_
      replace h := bind_so h
      obtain ⟨_, g38, h⟩ := h
      replace h := bind_so h
      obtain ⟨q38, h38, h⟩ := h
      refine r_callV (as := [vI 2, vI a1]) (rv := none) (kc := 0) (nc := 0) (tX2_note h38) clok_2 F (gK_so g38) tw_753 tw_755 tw_15 tw_756 tw_119 ⟨by decide, by decide, show (parseMethodDescriptor yX2_note.desc).map (fun d => d.parameters.length) = some 2 by decide +kernel⟩ ⟨by decide, by decide⟩ (Nat.le_of_ble_eq_true rfl) dX2_takeBound_38 ?_
      refine r_goto (tgt := 64) F (by decide) dX2_takeBound_41 ?_
      refine r_sub [0] (ls' := [(5, vI b28)]) rfl ?_
      exact tX2_takeBound_64 F h
  · replace h := ite_p h hc
    refine r_iconst F rfl dX2_takeBound_17 ?_
    obtain rfl := Option.some.inj h
    exact r_iret F dX2_takeBound_18
theorem tX2_slotOf {l0 : Int} {M : Mem} {q : Int × Mem} (h : mX2_slotOf l0 M = some q) : Ct 0 0 0 yX2_slotOf cX2_slotOf 1 (some FieldType.int) [vI l0] M (some (vI q.1)) q.2 := by
  unfold mX2_slotOf at h
  refine Ct.of (by decide) (Nat.le_of_ble_eq_true rfl) ?_
  intro E p l e s m args below meth c F
  refine r_sub [0] (ls' := [(0, vI l0)]) rfl ?_
  refine r_iload_n (j := 0) F rfl rfl dX2_slotOf_0 ?_
  refine r_if_ne (tgt := 8) F (by decide) dX2_slotOf_1 (fun hc => ?_) (fun hc => ?_)
  · replace h := ite_n h hc
    refine r_iload_n (j := 0) F rfl rfl dX2_slotOf_8 ?_
    refine r_iconst F rfl dX2_slotOf_9 ?_
    refine r_isub F dX2_slotOf_10 ?_
    refine r_iconst F rfl dX2_slotOf_11 ?_
    refine r_ishr F dX2_slotOf_12 ?_
    obtain rfl := Option.some.inj h
    exact r_iret F dX2_slotOf_13
  · replace h := ite_p h hc
    refine r_iconst F rfl dX2_slotOf_4 ?_
    refine r_goto (tgt := 13) F (by decide) dX2_slotOf_5 ?_
    obtain rfl := Option.some.inj h
    exact r_iret F dX2_slotOf_13
theorem tX2_readSame {l0 l1 : Int} {M : Mem} {q : Int × Mem} (h : mX2_readSame l0 l1 M = some q) : Ct 4 0 0 yX2_readSame cX2_readSame 4 none [vR l0, vI l1] M none q.2 := by
  unfold mX2_readSame at h
  refine Ct.of (by decide) (Nat.le_of_ble_eq_true rfl) ?_
  intro E p l e s m args below meth c F
  refine r_sub [0, 1] (ls' := [(0, vR l0), (1, vI l1)]) rfl ?_
  refine r_aload_n (j := 0) F rfl rfl dX2_readSame_0 ?_
  replace h := bind_so h
  obtain ⟨_, g1, h⟩ := h
  replace h := bind_so h
  obtain ⟨q1, h1, h⟩ := h
  refine r_callV (as := []) (rv := none) (kc := 0) (nc := 0) (tX2_advance h1) clok_2 F (gK_so g1) tw_661 tw_663 tw_7 tw_664 tw_119 ⟨by decide, by decide, show (parseMethodDescriptor yX2_advance.desc).map (fun d => d.parameters.length) = some 0 by decide +kernel⟩ ⟨by decide, by decide⟩ (Nat.le_of_ble_eq_true rfl) dX2_readSame_1 ?_
  refine r_aload_n (j := 0) F rfl rfl dX2_readSame_4 ?_
  refine r_iload_n (j := 1) F rfl rfl dX2_readSame_5 ?_
  refine r_iconst F rfl dX2_readSame_6 ?_
  replace h := bind_so h
  obtain ⟨_, g7, h⟩ := h
  replace h := bind_so h
  obtain ⟨q7, h7, h⟩ := h
  refine r_callV (as := [vI l1, vI (-1)]) (rv := (some (vI q7.1))) (kc := 0) (nc := 0) (tX2_takeBound h7) clok_2 F (gK_so g7) tw_796 tw_798 tw_22 tw_799 tw_119 ⟨by decide, by decide, show (parseMethodDescriptor yX2_takeBound.desc).map (fun d => d.parameters.length) = some 2 by decide +kernel⟩ ⟨by decide, by decide⟩ (Nat.le_of_ble_eq_true rfl) dX2_readSame_7 ?_
  refine r_istore_n (ls' := [(2, vI q7.1), (0, vR l0), (1, vI l1)]) F rfl (by decide) rfl dX2_readSame_10 ?_
  refine r_aload_n (j := 1) F rfl rfl dX2_readSame_11 ?_
  refine r_iload_n (j := 2) F rfl rfl dX2_readSame_12 ?_
  refine r_iload_n (j := 0) F rfl rfl dX2_readSame_13 ?_
  replace h := bind_so h
  obtain ⟨q14, h14, h⟩ := h
  refine r_callS (as := [vI q7.1]) (rv := (some (vI q14.1))) (kc := 0) (nc := 0) (tX2_kindOf h14) F tw_800 tw_801 tw_802 tw_119 ⟨by decide, by decide, show (parseMethodDescriptor yX2_kindOf.desc).map (fun d => d.parameters.length) = some 1 by decide +kernel⟩ ⟨by decide, by decide⟩ (Nat.le_of_ble_eq_true rfl) dX2_readSame_14 ?_
  replace h := bind_so h
  obtain ⟨_, g17, h⟩ := h
  replace h := bind_so h
  obtain ⟨q17, h17, h⟩ := h
  refine r_callV (as := [vI l1, vI q14.1]) (rv := (some (vI q17.1))) (kc := 0) (nc := 0) (tX2_takeBound h17) clok_2 F (gK_so g17) tw_796 tw_798 tw_22 tw_799 tw_119 ⟨by decide, by decide, show (parseMethodDescriptor yX2_takeBound.desc).map (fun d => d.parameters.length) = some 2 by decide +kernel⟩ ⟨by decide, by decide⟩ (Nat.le_of_ble_eq_true rfl) dX2_readSame_17 ?_
  refine r_istore_n (ls' := [(3, vI q17.1), (2, vI q7.1), (0, vR l0), (1, vI l1)]) F rfl (by decide) rfl dX2_readSame_20 ?_
  refine r_aload_n (j := 2) F rfl rfl dX2_readSame_21 ?_
  replace h := bind_so h
  obtain ⟨a22, h22, h⟩ := h
  refine r_getT (t := 2) rfl clok_2 F (by decide) h22 tw_452 dX2_readSame_22 ?_
  refine r_bipush F rfl (by decide) dX2_readSame_25 ?_
  refine r_iconst F rfl dX2_readSame_27 ?_
  refine r_iload_n (j := 1) F rfl rfl dX2_readSame_28 ?_
  replace h := bind_so h
  obtain ⟨q29, h29, h⟩ := h
  refine r_callS (as := [vI q7.1]) (rv := (some (vI q29.1))) (kc := 0) (nc := 0) (tX2_slotOf h29) F tw_803 tw_804 tw_805 tw_119 ⟨by decide, by decide, show (parseMethodDescriptor yX2_slotOf.desc).map (fun d => d.parameters.length) = some 1 by decide +kernel⟩ ⟨by decide, by decide⟩ (Nat.le_of_ble_eq_true rfl) dX2_readSame_29 ?_
  refine r_iload_n (j := 0) F rfl rfl dX2_readSame_32 ?_
  replace h := bind_so h
  obtain ⟨q33, h33, h⟩ := h
  refine r_callS (as := [vI q17.1]) (rv := (some (vI q33.1))) (kc := 0) (nc := 0) (tX2_slotOf h33) F tw_803 tw_804 tw_805 tw_119 ⟨by decide, by decide, show (parseMethodDescriptor yX2_slotOf.desc).map (fun d => d.parameters.length) = some 1 by decide +kernel⟩ ⟨by decide, by decide⟩ (Nat.le_of_ble_eq_true rfl) dX2_readSame_33 ?_
  replace h := bind_so h
  obtain ⟨_, g36, h⟩ := h
  replace h := bind_so h
  obtain ⟨q36, h36, h⟩ := h
  refine r_callV (as := [vI 8, vI 0, vI q29.1, vI q33.1]) (rv := none) (kc := 0) (nc := 0) (tX5_write h36) clok_5 F (gK_so g36) tw_780 tw_781 tw_782 tw_783 tw_120 ⟨by decide, by decide, show (parseMethodDescriptor yX5_write.desc).map (fun d => d.parameters.length) = some 4 by decide +kernel⟩ ⟨by decide, by decide⟩ (Nat.le_of_ble_eq_true rfl) dX2_readSame_36 ?_
  obtain rfl := Option.some.inj h
  exact r_vret F dX2_readSame_39
theorem tX2_takeRelation_23 {E : En} {p : Program} {l : Launch} {e : Env} {s : State} {m : MethodId} {args : Array Value} {below : List Frame} {meth : Method} {c : Code} {q : Int × Mem} {l0 l1 : Int} {M : Mem} (F : Fx E p s m args meth c cX2_takeRelation 2 yX2_takeRelation.cls (some FieldType.int) yX2_takeRelation.name) (h : mX2_takeRelation_23 l0 l1 M = some q) : G E p l e (rmOf 2 0 0) s m args below meth c 2 (QZ E below args s (rmOf 2 0 0) (some (vI q.1)) q.2) 0 0 M 23 [(0, vR l0), (1, vI l1)] [] := by
  unfold mX2_takeRelation_23 at h
  refine r_aload_n (j := 0) F rfl rfl dX2_takeRelation_23 ?_
  replace h := bind_so h
  obtain ⟨a24, h24, h⟩ := h
  refine r_getT (t := 0) rfl clok_2 F (by decide) h24 tw_451 dX2_takeRelation_24 ?_
  refine r_if_eq (tgt := 32) F (by decide) dX2_takeRelation_27 (fun hc => ?_) (fun hc => ?_)
  · replace h := ite_p h hc
    refine r_aload_n (j := 0) F rfl rfl dX2_takeRelation_32 ?_
    replace h := bind_so h
    obtain ⟨_, g33, h⟩ := h
    replace h := bind_so h
    obtain ⟨q33, h33, h⟩ := h
    refine r_callV (as := []) (rv := none) (kc := 0) (nc := 0) (tX2_advance h33) clok_2 F (gK_so g33) tw_661 tw_663 tw_7 tw_664 tw_119 ⟨by decide, by decide, show (parseMethodDescriptor yX2_advance.desc).map (fun d => d.parameters.length) = some 0 by decide +kernel⟩ ⟨by decide, by decide⟩ (Nat.le_of_ble_eq_true rfl) dX2_takeRelation_33 ?_
    refine r_iload_n (j := 1) F rfl rfl dX2_takeRelation_36 ?_
    obtain rfl := Option.some.inj h
    exact r_iret F dX2_takeRelation_37
  · replace h := ite_n h hc
    refine r_iconst F rfl dX2_takeRelation_30 ?_
    obtain rfl := Option.some.inj h
    exact r_iret F dX2_takeRelation_31
theorem tX2_takeRelation {l0 : Int} {M : Mem} {q : Int × Mem} (h : mX2_takeRelation l0 M = some q) : Ct 2 0 0 yX2_takeRelation cX2_takeRelation 2 (some FieldType.int) [vR l0] M (some (vI q.1)) q.2 := by
  unfold mX2_takeRelation at h
  refine Ct.of (by decide) (Nat.le_of_ble_eq_true rfl) ?_
  intro E p l e s m args below meth c F
  refine r_sub [0] (ls' := [(0, vR l0)]) rfl ?_
  refine r_aload_n (j := 0) F rfl rfl dX2_takeRelation_0 ?_
  replace h := bind_so h
  obtain ⟨_, g1, h⟩ := h
  replace h := bind_so h
  obtain ⟨q1, h1, h⟩ := h
  refine r_callV (as := []) (rv := (some (vI q1.1))) (kc := 0) (nc := 0) (tX2_oneLetter h1) clok_2 F (gK_so g1) tw_744 tw_746 tw_13 tw_747 tw_119 ⟨by decide, by decide, show (parseMethodDescriptor yX2_oneLetter.desc).map (fun d => d.parameters.length) = some 0 by decide +kernel⟩ ⟨by decide, by decide⟩ (Nat.le_of_ble_eq_true rfl) dX2_takeRelation_1 ?_
  refine r_bipush F rfl (by decide) dX2_takeRelation_4 ?_
  refine r_isub F dX2_takeRelation_6 ?_
  refine r_istore_n (ls' := [(1, vI (wI (q1.1 - 114))), (0, vR l0)]) F rfl (by decide) rfl dX2_takeRelation_7 ?_
  refine r_aload_n (j := 1) F rfl rfl dX2_takeRelation_8 ?_
  replace h := bind_so h
  obtain ⟨a9, h9, h⟩ := h
  refine r_getT (t := 2) rfl clok_2 F (by decide) h9 tw_450 dX2_takeRelation_9 ?_
  refine r_iload_n (j := 0) F rfl rfl dX2_takeRelation_12 ?_
  replace h := bind_so h
  obtain ⟨_, g13, h⟩ := h
  replace h := bind_so h
  obtain ⟨q13, h13, h⟩ := h
  refine r_callV (as := [vI (wI (q1.1 - 114))]) (rv := (some (vI q13.1))) (kc := 0) (nc := 0) (tX3_hasRelation h13) clok_3 F (gK_so g13) tw_748 tw_576 tw_577 tw_578 tw_115 ⟨by decide, by decide, show (parseMethodDescriptor yX3_hasRelation.desc).map (fun d => d.parameters.length) = some 1 by decide +kernel⟩ ⟨by decide, by decide⟩ (Nat.le_of_ble_eq_true rfl) dX2_takeRelation_13 ?_
  refine r_if_ne (tgt := 23) F (by decide) dX2_takeRelation_16 (fun hc => ?_) (fun hc => ?_)
  · replace h := ite_n h hc
    refine r_sub [1, 0] (ls' := [(0, vR l0), (1, vI (wI (q1.1 - 114)))]) rfl ?_
    exact tX2_takeRelation_23 F h
  · replace h := ite_p h hc
    refine r_aload_n (j := 1) F rfl rfl dX2_takeRelation_19 ?_
    replace h := bind_so h
    obtain ⟨_, g20, h⟩ := h
    replace h := bind_so h
    obtain ⟨q20, h20, h⟩ := h
    refine r_callV (as := []) (rv := none) (kc := 0) (nc := 0) (tX2_refuse h20) clok_2 F (gK_so g20) tw_749 tw_751 tw_14 tw_752 tw_119 ⟨by decide, by decide, show (parseMethodDescriptor yX2_refuse.desc).map (fun d => d.parameters.length) = some 0 by decide +kernel⟩ ⟨by decide, by decide⟩ (Nat.le_of_ble_eq_true rfl) dX2_takeRelation_20 ?_
    refine r_sub [1, 0] (ls' := [(0, vR l0), (1, vI (wI (q1.1 - 114)))]) rfl ?_
    exact tX2_takeRelation_23 F h
theorem tX2_takeRoad_27 {E : En} {p : Program} {l : Launch} {e : Env} {s : State} {m : MethodId} {args : Array Value} {below : List Frame} {meth : Method} {c : Code} {q : Int × Mem} {l2 : Int} {M : Mem} (F : Fx E p s m args meth c cX2_takeRoad 3 yX2_takeRoad.cls (some FieldType.int) yX2_takeRoad.name) (h : mX2_takeRoad_27 l2 M = some q) : G E p l e (rmOf 3 0 0) s m args below meth c 3 (QZ E below args s (rmOf 3 0 0) (some (vI q.1)) q.2) 0 0 M 27 [(2, vI l2)] [] := by
  unfold mX2_takeRoad_27 at h
  refine r_iload_n (j := 0) F rfl rfl dX2_takeRoad_27 ?_
  obtain rfl := Option.some.inj h
  exact r_iret F dX2_takeRoad_28
theorem tX2_takeRoad {l0 : Int} {M : Mem} {q : Int × Mem} (h : mX2_takeRoad l0 M = some q) : Ct 3 0 0 yX2_takeRoad cX2_takeRoad 3 (some FieldType.int) [vR l0] M (some (vI q.1)) q.2 := by
  unfold mX2_takeRoad at h
  refine Ct.of (by decide) (Nat.le_of_ble_eq_true rfl) ?_
  intro E p l e s m args below meth c F
  refine r_sub [0] (ls' := [(0, vR l0)]) rfl ?_
  refine r_aload_n (j := 0) F rfl rfl dX2_takeRoad_0 ?_
  replace h := bind_so h
  obtain ⟨a1, h1, h⟩ := h
  refine r_getT (t := 0) rfl clok_2 F (by decide) h1 tw_456 dX2_takeRoad_1 ?_
  refine r_istore_n (ls' := [(1, vI a1), (0, vR l0)]) F rfl (by decide) rfl dX2_takeRoad_4 ?_
  refine r_aload_n (j := 1) F rfl rfl dX2_takeRoad_5 ?_
  replace h := bind_so h
  obtain ⟨_, g6, h⟩ := h
  replace h := bind_so h
  obtain ⟨q6, h6, h⟩ := h
  refine r_callV (as := []) (rv := (some (vI q6.1))) (kc := 0) (nc := 0) (tX2_takeRelation h6) clok_2 F (gK_so g6) tw_814 tw_816 tw_25 tw_817 tw_119 ⟨by decide, by decide, show (parseMethodDescriptor yX2_takeRelation.desc).map (fun d => d.parameters.length) = some 0 by decide +kernel⟩ ⟨by decide, by decide⟩ (Nat.le_of_ble_eq_true rfl) dX2_takeRoad_6 ?_
  refine r_istore_n (ls' := [(2, vI q6.1), (1, vI a1), (0, vR l0)]) F rfl (by decide) rfl dX2_takeRoad_9 ?_
  refine r_aload_n (j := 2) F rfl rfl dX2_takeRoad_10 ?_
  replace h := bind_so h
  obtain ⟨a11, h11, h⟩ := h
  refine r_getT (t := 2) rfl clok_2 F (by decide) h11 tw_450 dX2_takeRoad_11 ?_
  refine r_iload_n (j := 0) F rfl rfl dX2_takeRoad_14 ?_
  replace h := bind_so h
  obtain ⟨_, g15, h⟩ := h
  replace h := bind_so h
  obtain ⟨q15, h15, h⟩ := h
  refine r_callV (as := [vI q6.1]) (rv := (some (vI q15.1))) (kc := 0) (nc := 0) (tX3_isOfOneKindTwice h15) clok_3 F (gK_so g15) tw_818 tw_819 tw_820 tw_821 tw_115 ⟨by decide, by decide, show (parseMethodDescriptor yX3_isOfOneKindTwice.desc).map (fun d => d.parameters.length) = some 1 by decide +kernel⟩ ⟨by decide, by decide⟩ (Nat.le_of_ble_eq_true rfl) dX2_takeRoad_15 ?_
  refine r_if_ne (tgt := 27) F (by decide) dX2_takeRoad_18 (fun hc => ?_) (fun hc => ?_)
  · replace h := ite_n h hc
    refine r_sub [0] (ls' := [(2, vI q6.1)]) rfl ?_
    exact tX2_takeRoad_27 F h
  · replace h := ite_p h hc
    refine r_aload_n (j := 2) F rfl rfl dX2_takeRoad_21 ?_
    refine r_iconst F rfl dX2_takeRoad_22 ?_
    refine r_iload_n (j := 1) F rfl rfl dX2_takeRoad_23 ?_
    replace h := bind_so h
    obtain ⟨_, g24, h⟩ := h
    replace h := bind_so h
    obtain ⟨q24, h24, h⟩ := h
    refine r_callV (as := [vI 3, vI a1]) (rv := none) (kc := 0) (nc := 0) (tX2_note h24) clok_2 F (gK_so g24) tw_753 tw_755 tw_15 tw_756 tw_119 ⟨by decide, by decide, show (parseMethodDescriptor yX2_note.desc).map (fun d => d.parameters.length) = some 2 by decide +kernel⟩ ⟨by decide, by decide⟩ (Nat.le_of_ble_eq_true rfl) dX2_takeRoad_24 ?_
    refine r_sub [0] (ls' := [(2, vI q6.1)]) rfl ?_
    exact tX2_takeRoad_27 F h
theorem tX2_readReach_33 {E : En} {p : Program} {l : Launch} {e : Env} {s : State} {m : MethodId} {args : Array Value} {below : List Frame} {meth : Method} {c : Code} {q : Int × Mem} {l0 l1 l2 s0 : Int} {M : Mem} (F : Fx E p s m args meth c cX2_readReach 6 yX2_readReach.cls none yX2_readReach.name) (h : mX2_readReach_33 l0 l1 l2 s0 M = some q) : G E p l e (rmOf 4 0 0) s m args below meth c 6 (QZ E below args s (rmOf 4 0 0) none q.2) 0 0 M 33 [(0, vR l0), (1, vI l1), (2, vI l2)] [vI s0] := by
  unfold mX2_readReach_33 at h
  refine r_istore_n (ls' := [(3, vI s0), (0, vR l0), (1, vI l1), (2, vI l2)]) F rfl (by decide) rfl dX2_readReach_33 ?_
  refine r_aload_n (j := 1) F rfl rfl dX2_readReach_34 ?_
  refine r_iload_n (j := 2) F rfl rfl dX2_readReach_35 ?_
  refine r_iload_n (j := 0) F rfl rfl dX2_readReach_36 ?_
  replace h := bind_so h
  obtain ⟨_, g37, h⟩ := h
  replace h := bind_so h
  obtain ⟨q37, h37, h⟩ := h
  refine r_callV (as := [vI l1, vI s0]) (rv := (some (vI q37.1))) (kc := 0) (nc := 0) (tX2_takeBound h37) clok_2 F (gK_so g37) tw_796 tw_798 tw_22 tw_799 tw_119 ⟨by decide, by decide, show (parseMethodDescriptor yX2_takeBound.desc).map (fun d => d.parameters.length) = some 2 by decide +kernel⟩ ⟨by decide, by decide⟩ (Nat.le_of_ble_eq_true rfl) dX2_readReach_37 ?_
  refine r_istore (ls' := [(4, vI q37.1), (3, vI s0), (0, vR l0), (1, vI l1), (2, vI l2)]) F (by decide) rfl dX2_readReach_40 ?_
  refine r_aload_n (j := 2) F rfl rfl dX2_readReach_42 ?_
  refine r_iload_n (j := 3) F rfl rfl dX2_readReach_43 ?_
  refine r_iload_n (j := 1) F rfl rfl dX2_readReach_44 ?_
  replace h := bind_so h
  obtain ⟨_, g45, h⟩ := h
  replace h := bind_so h
  obtain ⟨q45, h45, h⟩ := h
  refine r_callV (as := [vI l1, vI s0]) (rv := (some (vI q45.1))) (kc := 0) (nc := 0) (tX2_takeBound h45) clok_2 F (gK_so g45) tw_796 tw_798 tw_22 tw_799 tw_119 ⟨by decide, by decide, show (parseMethodDescriptor yX2_takeBound.desc).map (fun d => d.parameters.length) = some 2 by decide +kernel⟩ ⟨by decide, by decide⟩ (Nat.le_of_ble_eq_true rfl) dX2_readReach_45 ?_
  refine r_istore (ls' := [(5, vI q45.1), (4, vI q37.1), (3, vI s0), (0, vR l0), (1, vI l1), (2, vI l2)]) F (by decide) rfl dX2_readReach_48 ?_
  refine r_aload_n (j := 3) F rfl rfl dX2_readReach_50 ?_
  replace h := bind_so h
  obtain ⟨a51, h51, h⟩ := h
  refine r_getT (t := 2) rfl clok_2 F (by decide) h51 tw_452 dX2_readReach_51 ?_
  refine r_bipush F rfl (by decide) dX2_readReach_54 ?_
  refine r_iload_n (j := 5) F rfl rfl dX2_readReach_56 ?_
  refine r_iload (j := 1) F rfl dX2_readReach_57 ?_
  replace h := bind_so h
  obtain ⟨q59, h59, h⟩ := h
  refine r_callS (as := [vI q37.1]) (rv := (some (vI q59.1))) (kc := 0) (nc := 0) (tX2_slotOf h59) F tw_803 tw_804 tw_805 tw_119 ⟨by decide, by decide, show (parseMethodDescriptor yX2_slotOf.desc).map (fun d => d.parameters.length) = some 1 by decide +kernel⟩ ⟨by decide, by decide⟩ (Nat.le_of_ble_eq_true rfl) dX2_readReach_59 ?_
  refine r_iload (j := 0) F rfl dX2_readReach_62 ?_
  replace h := bind_so h
  obtain ⟨q64, h64, h⟩ := h
  refine r_callS (as := [vI q45.1]) (rv := (some (vI q64.1))) (kc := 0) (nc := 0) (tX2_slotOf h64) F tw_803 tw_804 tw_805 tw_119 ⟨by decide, by decide, show (parseMethodDescriptor yX2_slotOf.desc).map (fun d => d.parameters.length) = some 1 by decide +kernel⟩ ⟨by decide, by decide⟩ (Nat.le_of_ble_eq_true rfl) dX2_readReach_64 ?_
  replace h := bind_so h
  obtain ⟨_, g67, h⟩ := h
  replace h := bind_so h
  obtain ⟨q67, h67, h⟩ := h
  refine r_callV (as := [vI 9, vI l2, vI q59.1, vI q64.1]) (rv := none) (kc := 0) (nc := 0) (tX5_write h67) clok_5 F (gK_so g67) tw_780 tw_781 tw_782 tw_783 tw_120 ⟨by decide, by decide, show (parseMethodDescriptor yX5_write.desc).map (fun d => d.parameters.length) = some 4 by decide +kernel⟩ ⟨by decide, by decide⟩ (Nat.le_of_ble_eq_true rfl) dX2_readReach_67 ?_
  obtain rfl := Option.some.inj h
  exact r_vret F dX2_readReach_70
theorem tX2_readReach {l0 l1 : Int} {M : Mem} {q : Int × Mem} (h : mX2_readReach l0 l1 M = some q) : Ct 4 0 0 yX2_readReach cX2_readReach 6 none [vR l0, vI l1] M none q.2 := by
  unfold mX2_readReach at h
  refine Ct.of (by decide) (Nat.le_of_ble_eq_true rfl) ?_
  intro E p l e s m args below meth c F
  refine r_sub [0, 1] (ls' := [(0, vR l0), (1, vI l1)]) rfl ?_
  refine r_aload_n (j := 0) F rfl rfl dX2_readReach_0 ?_
  replace h := bind_so h
  obtain ⟨_, g1, h⟩ := h
  replace h := bind_so h
  obtain ⟨q1, h1, h⟩ := h
  refine r_callV (as := []) (rv := none) (kc := 0) (nc := 0) (tX2_advance h1) clok_2 F (gK_so g1) tw_661 tw_663 tw_7 tw_664 tw_119 ⟨by decide, by decide, show (parseMethodDescriptor yX2_advance.desc).map (fun d => d.parameters.length) = some 0 by decide +kernel⟩ ⟨by decide, by decide⟩ (Nat.le_of_ble_eq_true rfl) dX2_readReach_1 ?_
  refine r_aload_n (j := 0) F rfl rfl dX2_readReach_4 ?_
  replace h := bind_so h
  obtain ⟨_, g5, h⟩ := h
  replace h := bind_so h
  obtain ⟨q5, h5, h⟩ := h
  refine r_callV (as := []) (rv := (some (vI q5.1))) (kc := 0) (nc := 0) (tX2_takeRoad h5) clok_2 F (gK_so g5) tw_810 tw_812 tw_24 tw_813 tw_119 ⟨by decide, by decide, show (parseMethodDescriptor yX2_takeRoad.desc).map (fun d => d.parameters.length) = some 0 by decide +kernel⟩ ⟨by decide, by decide⟩ (Nat.le_of_ble_eq_true rfl) dX2_readReach_5 ?_
  refine r_istore_n (ls' := [(2, vI q5.1), (0, vR l0), (1, vI l1)]) F rfl (by decide) rfl dX2_readReach_8 ?_
  refine r_aload_n (j := 1) F rfl rfl dX2_readReach_9 ?_
  replace h := bind_so h
  obtain ⟨a10, h10, h⟩ := h
  refine r_getT (t := 2) rfl clok_2 F (by decide) h10 tw_450 dX2_readReach_10 ?_
  refine r_iload_n (j := 0) F rfl rfl dX2_readReach_13 ?_
  replace h := bind_so h
  obtain ⟨_, g14, h⟩ := h
  replace h := bind_so h
  obtain ⟨q14, h14, h⟩ := h
  refine r_callV (as := [vI q5.1]) (rv := (some (vI q14.1))) (kc := 0) (nc := 0) (tX3_isOfOneKindTwice h14) clok_3 F (gK_so g14) tw_818 tw_819 tw_820 tw_821 tw_115 ⟨by decide, by decide, show (parseMethodDescriptor yX3_isOfOneKindTwice.desc).map (fun d => d.parameters.length) = some 1 by decide +kernel⟩ ⟨by decide, by decide⟩ (Nat.le_of_ble_eq_true rfl) dX2_readReach_14 ?_
  refine r_if_eq (tgt := 32) F (by decide) dX2_readReach_17 (fun hc => ?_) (fun hc => ?_)
  · replace h := ite_p h hc
    refine r_iconst F rfl dX2_readReach_32 ?_
    refine r_sub [1, 2, 0] (ls' := [(0, vR l0), (1, vI l1), (2, vI q5.1)]) rfl ?_
    exact tX2_readReach_33 F h
  · replace h := ite_n h hc
    refine r_aload_n (j := 1) F rfl rfl dX2_readReach_20 ?_
    replace h := bind_so h
    obtain ⟨a21, h21, h⟩ := h
    refine r_getT (t := 2) rfl clok_2 F (by decide) h21 tw_450 dX2_readReach_21 ?_
    replace h := bind_so h
    obtain ⟨a24, h24, h⟩ := h
    refine r_getT (t := 2) rfl clok_3 F (by decide) h24 tw_162 dX2_readReach_24 ?_
    refine r_iload_n (j := 0) F rfl rfl dX2_readReach_27 ?_
    replace h := bind_so h
    obtain ⟨a28, h28, h⟩ := h
    refine r_iald F h28 dX2_readReach_28 ?_
    refine r_goto (tgt := 33) F (by decide) dX2_readReach_29 ?_
    refine r_sub [1, 2, 0] (ls' := [(0, vR l0), (1, vI l1), (2, vI q5.1)]) rfl ?_
    exact tX2_readReach_33 F h
