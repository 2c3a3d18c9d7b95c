theorem tX8_fault {l0 l1 : Int} {M : Mem} {q : Int × Mem} (h : mX8_fault l0 l1 M = some q) : Ct 0 0 0 yX8_fault cX8_fault 2 (some FieldType.int) [vR l0, vI l1] M (some (vI q.1)) q.2 := by
  unfold mX8_fault at h
  refine Ct.of (by decide) (Nat.le_of_ble_eq_true rfl) ?_
  intro E p l e s m args below meth c F
  refine r_sub [0, 1] (ls' := [(0, vR l0), (1, vI l1)]) rfl ?_
  refine r_iload_n (j := 1) F rfl rfl dX8_fault_0 ?_
  by_cases hc0 : l1 = 0
  · replace h := ite_p h hc0
    refine r_look (off := 27) (tgt := 28) F (by decide) (by rw [hc0]; rfl) (by decide) dX8_fault_1 ?_
    refine r_aload_n (j := 0) F rfl rfl dX8_fault_28 ?_
    replace h := bind_so h
    obtain ⟨a29, h29, h⟩ := h
    refine r_getT (t := 2) rfl clok_8 F (by decide) h29 tw_488 dX8_fault_29 ?_
    replace h := bind_so h
    obtain ⟨a32, h32, h⟩ := h
    refine r_getT (t := 0) rfl clok_6 F (by decide) h32 tw_224 dX8_fault_32 ?_
    obtain rfl := Option.some.inj h
    exact r_iret F dX8_fault_35
  replace h := ite_n h hc0
  by_cases hc1 : l1 = 1
  · replace h := ite_p h hc1
    refine r_look (off := 35) (tgt := 36) F (by decide) (by rw [hc1]; rfl) (by decide) dX8_fault_1 ?_
    refine r_aload_n (j := 0) F rfl rfl dX8_fault_36 ?_
    replace h := bind_so h
    obtain ⟨a37, h37, h⟩ := h
    refine r_getT (t := 2) rfl clok_8 F (by decide) h37 tw_488 dX8_fault_37 ?_
    replace h := bind_so h
    obtain ⟨a40, h40, h⟩ := h
    refine r_getT (t := 0) rfl clok_6 F (by decide) h40 tw_226 dX8_fault_40 ?_
    obtain rfl := Option.some.inj h
    exact r_iret F dX8_fault_43
  replace h := ite_n h hc1
  refine r_look (off := 43) (tgt := 44) F (by decide) (by simp [Op.lookupswitch.offset, show ¬ (0 = l1) from fun z => hc0 z.symm, show ¬ (1 = l1) from fun z => hc1 z.symm]) (by decide) dX8_fault_1 ?_
  refine r_iconst F rfl dX8_fault_44 ?_
  obtain rfl := Option.some.inj h
  exact r_iret F dX8_fault_45
theorem tX8_strike {l0 l1 : Int} {M : Mem} {q : Int × Mem} (h : mX8_strike l0 l1 M = some q) : Ct 1 0 0 yX8_strike cX8_strike 2 (some FieldType.boolean) [vR l0, vI l1] M (some (vI q.1)) q.2 := by
  unfold mX8_strike at h
  refine Ct.of (by decide) (Nat.le_of_ble_eq_true rfl) ?_
  intro E p l e s m args below meth c F
  refine r_sub [0, 1] (ls' := [(0, vR l0), (1, vI l1)]) rfl ?_
  refine r_aload_n (j := 0) F rfl rfl dX8_strike_0 ?_
  replace h := bind_so h
  obtain ⟨a1, h1, h⟩ := h
  refine r_getT (t := 2) rfl clok_8 F (by decide) h1 tw_488 dX8_strike_1 ?_
  refine r_iload_n (j := 1) F rfl rfl dX8_strike_4 ?_
  replace h := bind_so h
  obtain ⟨_, g5, h⟩ := h
  replace h := bind_so h
  obtain ⟨q5, h5, h⟩ := h
  refine r_callV (as := [vI l1]) (rv := (some (vI q5.1))) (kc := 0) (nc := 0) (tX6_hasStory h5) clok_6 F (gK_so g5) tw_866 tw_867 tw_868 tw_869 tw_114 ⟨by decide, by decide, show (parseMethodDescriptor yX6_hasStory.desc).map (fun d => d.parameters.length) = some 1 by decide +kernel⟩ ⟨by decide, by decide⟩ (Nat.le_of_ble_eq_true rfl) dX8_strike_5 ?_
  refine r_if_eq (tgt := 24) F (by decide) dX8_strike_8 (fun hc => ?_) (fun hc => ?_)
  · replace h := ite_p h hc
    refine r_iconst F rfl dX8_strike_24 ?_
    obtain rfl := Option.some.inj h
    exact r_zret (Or.inl rfl) F dX8_strike_25
  · replace h := ite_n h hc
    refine r_aload_n (j := 0) F rfl rfl dX8_strike_11 ?_
    replace h := bind_so h
    obtain ⟨a12, h12, h⟩ := h
    refine r_getT (t := 2) rfl clok_8 F (by decide) h12 tw_488 dX8_strike_12 ?_
    replace h := bind_so h
    obtain ⟨a15, h15, h⟩ := h
    refine r_getT (t := 2) rfl clok_6 F (by decide) h15 tw_232 dX8_strike_15 ?_
    refine r_iload_n (j := 1) F rfl rfl dX8_strike_18 ?_
    replace h := bind_so h
    obtain ⟨a19, h19, h⟩ := h
    refine r_iald F h19 dX8_strike_19 ?_
    refine r_iconst F rfl dX8_strike_20 ?_
    refine r_icmp_eq (tgt := 26) F (by decide) dX8_strike_21 (fun hc => ?_) (fun hc => ?_)
    · replace h := ite_p h hc
      refine r_aload_n (j := 0) F rfl rfl dX8_strike_26 ?_
      replace h := bind_so h
      obtain ⟨a27, h27, h⟩ := h
      refine r_getT (t := 2) rfl clok_8 F (by decide) h27 tw_488 dX8_strike_27 ?_
      replace h := bind_so h
      obtain ⟨a30, h30, h⟩ := h
      refine r_getT (t := 2) rfl clok_6 F (by decide) h30 tw_232 dX8_strike_30 ?_
      refine r_iload_n (j := 1) F rfl rfl dX8_strike_33 ?_
      refine r_aload_n (j := 0) F rfl rfl dX8_strike_34 ?_
      replace h := bind_so h
      obtain ⟨a35, h35, h⟩ := h
      refine r_getT (t := 2) rfl clok_8 F (by decide) h35 tw_488 dX8_strike_35 ?_
      replace h := bind_so h
      obtain ⟨a38, h38, h⟩ := h
      refine r_getT (t := 0) rfl clok_6 F (by decide) h38 tw_239 dX8_strike_38 ?_
      replace h := bind_so h
      obtain ⟨M41, h41, h⟩ := h
      refine r_iast F h41 dX8_strike_41 ?_
      refine r_iconst F rfl dX8_strike_42 ?_
      obtain rfl := Option.some.inj h
      exact r_zret (Or.inr rfl) F dX8_strike_43
    · replace h := ite_n h hc
      refine r_iconst F rfl dX8_strike_24 ?_
      obtain rfl := Option.some.inj h
      exact r_zret (Or.inl rfl) F dX8_strike_25
theorem tX8_day {l0 l1 : Int} {M : Mem} {q : Int × Mem} (h : mX8_day l0 l1 M = some q) : Ct 0 0 0 yX8_day cX8_day 2 (some FieldType.boolean) [vR l0, vI l1] M (some (vI q.1)) q.2 := by
  unfold mX8_day at h
  refine Ct.of (by decide) (Nat.le_of_ble_eq_true rfl) ?_
  intro E p l e s m args below meth c F
  refine r_sub [0, 1] (ls' := [(0, vR l0), (1, vI l1)]) rfl ?_
  refine r_iload_n (j := 1) F rfl rfl dX8_day_0 ?_
  refine r_aload_n (j := 0) F rfl rfl dX8_day_1 ?_
  replace h := bind_so h
  obtain ⟨a2, h2, h⟩ := h
  refine r_getT (t := 2) rfl clok_8 F (by decide) h2 tw_488 dX8_day_2 ?_
  replace h := bind_so h
  obtain ⟨a5, h5, h⟩ := h
  refine r_getT (t := 0) rfl clok_6 F (by decide) h5 tw_239 dX8_day_5 ?_
  refine r_icmp_lt (tgt := 18) F (by decide) dX8_day_8 (fun hc => ?_) (fun hc => ?_)
  · replace h := ite_p h hc
    refine r_iconst F rfl dX8_day_18 ?_
    obtain rfl := Option.some.inj h
    exact r_zret (Or.inl rfl) F dX8_day_19
  · replace h := ite_n h hc
    refine r_iload_n (j := 1) F rfl rfl dX8_day_11 ?_
    refine r_sipush F rfl (by decide) dX8_day_12 ?_
    refine r_icmp_le (tgt := 20) F (by decide) dX8_day_15 (fun hc => ?_) (fun hc => ?_)
    · replace h := ite_p h hc
      refine r_aload_n (j := 0) F rfl rfl dX8_day_20 ?_
      replace h := bind_so h
      obtain ⟨a21, h21, h⟩ := h
      refine r_getT (t := 2) rfl clok_8 F (by decide) h21 tw_488 dX8_day_21 ?_
      refine r_iload_n (j := 1) F rfl rfl dX8_day_24 ?_
      replace h := bind_so h
      obtain ⟨M25, h25, h⟩ := h
      refine r_put clok_6 F (by decide) rfl (by decide) (by decide) h25 tw_239 dX8_day_25 ?_
      refine r_iconst F rfl dX8_day_28 ?_
      obtain rfl := Option.some.inj h
      exact r_zret (Or.inr rfl) F dX8_day_29
    · replace h := ite_n h hc
      refine r_iconst F rfl dX8_day_18 ?_
      obtain rfl := Option.some.inj h
      exact r_zret (Or.inl rfl) F dX8_day_19
theorem tX8_view {l0 l1 : Int} {M : Mem} {q : Int × Mem} (h : mX8_view l0 l1 M = some q) : Ct 0 0 0 yX8_view cX8_view 2 (some FieldType.boolean) [vR l0, vI l1] M (some (vI q.1)) q.2 := by
  unfold mX8_view at h
  refine Ct.of (by decide) (Nat.le_of_ble_eq_true rfl) ?_
  intro E p l e s m args below meth c F
  refine r_sub [0, 1] (ls' := [(0, vR l0), (1, vI l1)]) rfl ?_
  refine r_iload_n (j := 1) F rfl rfl dX8_view_0 ?_
  refine r_iconst F rfl dX8_view_1 ?_
  refine r_icmp_lt (tgt := 16) F (by decide) dX8_view_2 (fun hc => ?_) (fun hc => ?_)
  · replace h := ite_p h hc
    refine r_iconst F rfl dX8_view_16 ?_
    obtain rfl := Option.some.inj h
    exact r_zret (Or.inl rfl) F dX8_view_17
  · replace h := ite_n h hc
    refine r_iload_n (j := 1) F rfl rfl dX8_view_5 ?_
    refine r_aload_n (j := 0) F rfl rfl dX8_view_6 ?_
    replace h := bind_so h
    obtain ⟨a7, h7, h⟩ := h
    refine r_getT (t := 2) rfl clok_8 F (by decide) h7 tw_488 dX8_view_7 ?_
    replace h := bind_so h
    obtain ⟨a10, h10, h⟩ := h
    refine r_getT (t := 0) rfl clok_6 F (by decide) h10 tw_239 dX8_view_10 ?_
    refine r_icmp_le (tgt := 18) F (by decide) dX8_view_13 (fun hc => ?_) (fun hc => ?_)
    · replace h := ite_p h hc
      refine r_aload_n (j := 0) F rfl rfl dX8_view_18 ?_
      replace h := bind_so h
      obtain ⟨a19, h19, h⟩ := h
      refine r_getT (t := 2) rfl clok_8 F (by decide) h19 tw_488 dX8_view_19 ?_
      refine r_iload_n (j := 1) F rfl rfl dX8_view_22 ?_
      replace h := bind_so h
      obtain ⟨M23, h23, h⟩ := h
      refine r_put clok_6 F (by decide) rfl (by decide) (by decide) h23 tw_241 dX8_view_23 ?_
      refine r_iconst F rfl dX8_view_26 ?_
      obtain rfl := Option.some.inj h
      exact r_zret (Or.inr rfl) F dX8_view_27
    · replace h := ite_n h hc
      refine r_iconst F rfl dX8_view_16 ?_
      obtain rfl := Option.some.inj h
      exact r_zret (Or.inl rfl) F dX8_view_17
theorem tX8_so_23 {E : En} {p : Program} {l : Launch} {e : Env} {s : State} {m : MethodId} {args : Array Value} {below : List Frame} {meth : Method} {c : Code} {q : Int × Mem} {l0 s0 : Int} {M : Mem} (F : Fx E p s m args meth c cX8_so 3 yX8_so.cls (some FieldType.int) yX8_so.name) (h : mX8_so_23 l0 s0 M = some q) : G E p l e (rmOf 100 0 0) s m args below meth c 3 (QZ E below args s (rmOf 100 0 0) (some (vI q.1)) q.2) 0 0 M 23 [(0, vR l0)] [vR s0] := by
  unfold mX8_so_23 at h
  refine r_astore_n (ls' := [(2, vR s0), (0, vR l0)]) F rfl (by decide) rfl dX8_so_23 ?_
  refine r_aload_n (j := 0) F rfl rfl dX8_so_24 ?_
  refine r_ifnonnull (tgt := 30) F (by decide) dX8_so_25 (fun hc => ?_) (fun hc => ?_)
  · replace h := ite_n h hc
    refine r_aload_n (j := 1) F rfl rfl dX8_so_30 ?_
    replace h := bind_so h
    obtain ⟨a31, h31, h⟩ := h
    refine r_getT (t := 2) rfl clok_8 F (by decide) h31 tw_487 dX8_so_31 ?_
    replace h := bind_so h
    obtain ⟨a34, h34, h⟩ := h
    refine r_getT (t := 2) rfl clok_4 F (by decide) h34 tw_369 dX8_so_34 ?_
    refine r_aload_n (j := 1) F rfl rfl dX8_so_37 ?_
    replace h := bind_so h
    obtain ⟨a38, h38, h⟩ := h
    refine r_getT (t := 2) rfl clok_8 F (by decide) h38 tw_488 dX8_so_38 ?_
    replace h := bind_so h
    obtain ⟨a41, h41, h⟩ := h
    refine r_getT (t := 2) rfl clok_6 F (by decide) h41 tw_207 dX8_so_41 ?_
    refine r_aload_n (j := 0) F rfl rfl dX8_so_44 ?_
    refine r_aload_n (j := 1) F rfl rfl dX8_so_45 ?_
    replace h := bind_so h
    obtain ⟨a46, h46, h⟩ := h
    refine r_getT (t := 2) rfl clok_8 F (by decide) h46 tw_488 dX8_so_46 ?_
    replace h := bind_so h
    obtain ⟨a49, h49, h⟩ := h
    refine r_getT (t := 1) rfl clok_6 F (by decide) h49 tw_211 dX8_so_49 ?_
    replace h := bind_so h
    obtain ⟨_, g52, h⟩ := h
    replace h := bind_so h
    obtain ⟨q52, h52, h⟩ := h
    refine r_callV (as := [vR a41, vR s0, vL a49]) (rv := (some (vI q52.1))) (kc := 0) (nc := 0) (tX0_isSoIn h52) clok_0 F (gK_so g52) tw_887 tw_888 tw_889 tw_890 tw_116 ⟨by decide, by decide, show (parseMethodDescriptor yX0_isSoIn.desc).map (fun d => d.parameters.length) = some 3 by decide +kernel⟩ ⟨by decide, by decide⟩ (Nat.le_of_ble_eq_true rfl) dX8_so_52 ?_
    refine r_if_eq (tgt := 62) F (by decide) dX8_so_55 (fun hc => ?_) (fun hc => ?_)
    · replace h := ite_p h hc
      refine r_iconst F rfl dX8_so_62 ?_
      obtain rfl := Option.some.inj h
      exact r_iret F dX8_so_63
    · replace h := ite_n h hc
      refine r_iconst F rfl dX8_so_58 ?_
      refine r_goto (tgt := 63) F (by decide) dX8_so_59 ?_
      obtain rfl := Option.some.inj h
      exact r_iret F dX8_so_63
  · replace h := ite_p h hc
    refine r_iconst F rfl dX8_so_28 ?_
    obtain rfl := Option.some.inj h
    exact r_iret F dX8_so_29
theorem tX8_so {l0 l1 : Int} {M : Mem} {q : Int × Mem} (h : mX8_so l0 l1 M = some q) : Ct 100 0 0 yX8_so cX8_so 3 (some FieldType.int) [vR l0, vI l1] M (some (vI q.1)) q.2 := by
  unfold mX8_so at h
  refine Ct.of (by decide) (Nat.le_of_ble_eq_true rfl) ?_
  intro E p l e s m args below meth c F
  refine r_sub [0, 1] (ls' := [(0, vR l0), (1, vI l1)]) rfl ?_
  refine r_iload_n (j := 1) F rfl rfl dX8_so_0 ?_
  refine r_iconst F rfl dX8_so_1 ?_
  refine r_icmp_ne (tgt := 15) F (by decide) dX8_so_2 (fun hc => ?_) (fun hc => ?_)
  · replace h := ite_n h hc
    refine r_aload_n (j := 0) F rfl rfl dX8_so_15 ?_
    replace h := bind_so h
    obtain ⟨a16, h16, h⟩ := h
    refine r_getT (t := 2) rfl clok_8 F (by decide) h16 tw_488 dX8_so_16 ?_
    refine r_iload_n (j := 1) F rfl rfl dX8_so_19 ?_
    replace h := bind_so h
    obtain ⟨_, g20, h⟩ := h
    replace h := bind_so h
    obtain ⟨q20, h20, h⟩ := h
    refine r_callV (as := [vI l1]) (rv := (some (vR q20.1))) (kc := 0) (nc := 0) (tX6_storyText h20) clok_6 F (gK_so g20) tw_882 tw_883 tw_884 tw_885 tw_114 ⟨by decide, by decide, show (parseMethodDescriptor yX6_storyText.desc).map (fun d => d.parameters.length) = some 1 by decide +kernel⟩ ⟨by decide, by decide⟩ (Nat.le_of_ble_eq_true rfl) dX8_so_20 ?_
    refine r_sub [0] (ls' := [(0, vR l0)]) rfl ?_
    exact tX8_so_23 F h
  · replace h := ite_p h hc
    refine r_aload_n (j := 0) F rfl rfl dX8_so_5 ?_
    replace h := bind_so h
    obtain ⟨a6, h6, h⟩ := h
    refine r_getT (t := 2) rfl clok_8 F (by decide) h6 tw_488 dX8_so_6 ?_
    replace h := bind_so h
    obtain ⟨a9, h9, h⟩ := h
    refine r_getT (t := 2) rfl clok_6 F (by decide) h9 tw_236 dX8_so_9 ?_
    refine r_goto (tgt := 23) F (by decide) dX8_so_12 ?_
    refine r_sub [0] (ls' := [(0, vR l0)]) rfl ?_
    exact tX8_so_23 F h
theorem tX8_breaks {l0 l1 l2 : Int} {M : Mem} {q : Int × Mem} (h : mX8_breaks l0 l1 l2 M = some q) : Ct 100 0 0 yX8_breaks cX8_breaks 4 (some FieldType.int) [vR l0, vI l1, vI l2] M (some (vI q.1)) q.2 := by
  unfold mX8_breaks at h
  refine Ct.of (by decide) (Nat.le_of_ble_eq_true rfl) ?_
  intro E p l e s m args below meth c F
  refine r_sub [0, 1, 2] (ls' := [(0, vR l0), (1, vI l1), (2, vI l2)]) rfl ?_
  refine r_aload_n (j := 0) F rfl rfl dX8_breaks_0 ?_
  replace h := bind_so h
  obtain ⟨a1, h1, h⟩ := h
  refine r_getT (t := 2) rfl clok_8 F (by decide) h1 tw_488 dX8_breaks_1 ?_
  refine r_iload_n (j := 1) F rfl rfl dX8_breaks_4 ?_
  replace h := bind_so h
  obtain ⟨_, g5, h⟩ := h
  replace h := bind_so h
  obtain ⟨q5, h5, h⟩ := h
  refine r_callV (as := [vI l1]) (rv := (some (vR q5.1))) (kc := 0) (nc := 0) (tX6_storyText h5) clok_6 F (gK_so g5) tw_882 tw_883 tw_884 tw_885 tw_114 ⟨by decide, by decide, show (parseMethodDescriptor yX6_storyText.desc).map (fun d => d.parameters.length) = some 1 by decide +kernel⟩ ⟨by decide, by decide⟩ (Nat.le_of_ble_eq_true rfl) dX8_breaks_5 ?_
  refine r_astore_n (ls' := [(3, vR q5.1), (0, vR l0), (1, vI l1), (2, vI l2)]) F rfl (by decide) rfl dX8_breaks_8 ?_
  refine r_aload_n (j := 0) F rfl rfl dX8_breaks_9 ?_
  refine r_ifnonnull (tgt := 15) F (by decide) dX8_breaks_10 (fun hc => ?_) (fun hc => ?_)
  · replace h := ite_n h hc
    refine r_aload_n (j := 1) F rfl rfl dX8_breaks_15 ?_
    replace h := bind_so h
    obtain ⟨a16, h16, h⟩ := h
    refine r_getT (t := 2) rfl clok_8 F (by decide) h16 tw_487 dX8_breaks_16 ?_
    replace h := bind_so h
    obtain ⟨a19, h19, h⟩ := h
    refine r_getT (t := 2) rfl clok_4 F (by decide) h19 tw_369 dX8_breaks_19 ?_
    refine r_aload_n (j := 1) F rfl rfl dX8_breaks_22 ?_
    replace h := bind_so h
    obtain ⟨a23, h23, h⟩ := h
    refine r_getT (t := 2) rfl clok_8 F (by decide) h23 tw_488 dX8_breaks_23 ?_
    replace h := bind_so h
    obtain ⟨a26, h26, h⟩ := h
    refine r_getT (t := 2) rfl clok_6 F (by decide) h26 tw_207 dX8_breaks_26 ?_
    refine r_aload_n (j := 0) F rfl rfl dX8_breaks_29 ?_
    refine r_aload_n (j := 1) F rfl rfl dX8_breaks_30 ?_
    replace h := bind_so h
    obtain ⟨a31, h31, h⟩ := h
    refine r_getT (t := 2) rfl clok_8 F (by decide) h31 tw_488 dX8_breaks_31 ?_
    replace h := bind_so h
    obtain ⟨a34, h34, h⟩ := h
    refine r_getT (t := 1) rfl clok_6 F (by decide) h34 tw_211 dX8_breaks_34 ?_
    refine r_iload_n (j := 3) F rfl rfl dX8_breaks_37 ?_
    replace h := bind_so h
    obtain ⟨_, g38, h⟩ := h
    replace h := bind_so h
    obtain ⟨q38, h38, h⟩ := h
    refine r_callV (as := [vR a26, vR q5.1, vL a34, vI l2]) (rv := (some (vI q38.1))) (kc := 0) (nc := 0) (tX0_breakNumber h38) clok_0 F (gK_so g38) tw_945 tw_946 tw_947 tw_948 tw_116 ⟨by decide, by decide, show (parseMethodDescriptor yX0_breakNumber.desc).map (fun d => d.parameters.length) = some 4 by decide +kernel⟩ ⟨by decide, by decide⟩ (Nat.le_of_ble_eq_true rfl) dX8_breaks_38 ?_
    obtain rfl := Option.some.inj h
    exact r_iret F dX8_breaks_41
  · replace h := ite_p h hc
    refine r_iconst F rfl dX8_breaks_13 ?_
    obtain rfl := Option.some.inj h
    exact r_iret F dX8_breaks_14
theorem tX8_worlds {l0 : Int} {M : Mem} {q : Int × Mem} (h : mX8_worlds l0 M = some q) : Ct 103 0 0 yX8_worlds cX8_worlds 1 (some FieldType.int) [vR l0] M (some (vI q.1)) q.2 := by
  unfold mX8_worlds at h
  refine Ct.of (by decide) (Nat.le_of_ble_eq_true rfl) ?_
  intro E p l e s m args below meth c F
  refine r_sub [0] (ls' := [(0, vR l0)]) rfl ?_
  refine r_aload_n (j := 0) F rfl rfl dX8_worlds_0 ?_
  replace h := bind_so h
  obtain ⟨a1, h1, h⟩ := h
  refine r_getT (t := 2) rfl clok_8 F (by decide) h1 tw_487 dX8_worlds_1 ?_
  replace h := bind_so h
  obtain ⟨_, g4, h⟩ := h
  replace h := bind_so h
  obtain ⟨q4, h4, h⟩ := h
  refine r_callV (as := []) (rv := (some (vI q4.1))) (kc := 0) (nc := 0) (tX4_countWorlds h4) clok_4 F (gK_so g4) tw_961 tw_962 tw_963 tw_964 tw_113 ⟨by decide, by decide, show (parseMethodDescriptor yX4_countWorlds.desc).map (fun d => d.parameters.length) = some 0 by decide +kernel⟩ ⟨by decide, by decide⟩ (Nat.le_of_ble_eq_true rfl) dX8_worlds_4 ?_
  obtain rfl := Option.some.inj h
  exact r_iret F dX8_worlds_7
theorem tX8_forms {l0 : Int} {M : Mem} {q : Int × Mem} (h : mX8_forms l0 M = some q) : Ct 103 0 0 yX8_forms cX8_forms 1 (some FieldType.int) [vR l0] M (some (vI q.1)) q.2 := by
  unfold mX8_forms at h
  refine Ct.of (by decide) (Nat.le_of_ble_eq_true rfl) ?_
  intro E p l e s m args below meth c F
  refine r_sub [0] (ls' := [(0, vR l0)]) rfl ?_
  refine r_aload_n (j := 0) F rfl rfl dX8_forms_0 ?_
  replace h := bind_so h
  obtain ⟨a1, h1, h⟩ := h
  refine r_getT (t := 2) rfl clok_8 F (by decide) h1 tw_487 dX8_forms_1 ?_
  replace h := bind_so h
  obtain ⟨_, g4, h⟩ := h
  replace h := bind_so h
  obtain ⟨q4, h4, h⟩ := h
  refine r_callV (as := []) (rv := (some (vI q4.1))) (kc := 0) (nc := 0) (tX4_countForms h4) clok_4 F (gK_so g4) tw_1044 tw_1045 tw_1046 tw_1047 tw_113 ⟨by decide, by decide, show (parseMethodDescriptor yX4_countForms.desc).map (fun d => d.parameters.length) = some 0 by decide +kernel⟩ ⟨by decide, by decide⟩ (Nat.le_of_ble_eq_true rfl) dX8_forms_4 ?_
  obtain rfl := Option.some.inj h
  exact r_iret F dX8_forms_7
theorem tX8_becomes {l0 l1 : Int} {M : Mem} {q : Int × Mem} (h : mX8_becomes l0 l1 M = some q) : Ct 0 0 0 yX8_becomes cX8_becomes 2 (some FieldType.boolean) [vR l0, vI l1] M (some (vI q.1)) q.2 := by
  unfold mX8_becomes at h
  refine Ct.of (by decide) (Nat.le_of_ble_eq_true rfl) ?_
  intro E p l e s m args below meth c F
  refine r_sub [0, 1] (ls' := [(0, vR l0), (1, vI l1)]) rfl ?_
  refine r_iload_n (j := 1) F rfl rfl dX8_becomes_0 ?_
  refine r_iconst F rfl dX8_becomes_1 ?_
  refine r_icmp_ne (tgt := 7) F (by decide) dX8_becomes_2 (fun hc => ?_) (fun hc => ?_)
  · replace h := ite_n h hc
    refine r_aload_n (j := 0) F rfl rfl dX8_becomes_7 ?_
    replace h := bind_so h
    obtain ⟨a8, h8, h⟩ := h
    refine r_getT (t := 2) rfl clok_8 F (by decide) h8 tw_488 dX8_becomes_8 ?_
    refine r_iload_n (j := 1) F rfl rfl dX8_becomes_11 ?_
    refine r_i2l F dX8_becomes_12 ?_
    replace h := bind_so h
    obtain ⟨M13, h13, h⟩ := h
    refine r_put clok_6 F (by decide) rfl (by decide) (by decide) h13 tw_211 dX8_becomes_13 ?_
    refine r_iconst F rfl dX8_becomes_16 ?_
    obtain rfl := Option.some.inj h
    exact r_zret (Or.inr rfl) F dX8_becomes_17
  · replace h := ite_p h hc
    refine r_iconst F rfl dX8_becomes_5 ?_
    obtain rfl := Option.some.inj h
    exact r_zret (Or.inl rfl) F dX8_becomes_6
theorem tX8_form {l0 l1 : Int} {M : Mem} {q : Int × Mem} (h : mX8_form l0 l1 M = some q) : Ct 103 0 0 yX8_form cX8_form 2 (some FieldType.boolean) [vR l0, vI l1] M (some (vI q.1)) q.2 := by
  unfold mX8_form at h
  refine Ct.of (by decide) (Nat.le_of_ble_eq_true rfl) ?_
  intro E p l e s m args below meth c F
  refine r_sub [0, 1] (ls' := [(0, vR l0), (1, vI l1)]) rfl ?_
  refine r_aload_n (j := 0) F rfl rfl dX8_form_0 ?_
  refine r_aload_n (j := 0) F rfl rfl dX8_form_1 ?_
  replace h := bind_so h
  obtain ⟨a2, h2, h⟩ := h
  refine r_getT (t := 2) rfl clok_8 F (by decide) h2 tw_487 dX8_form_2 ?_
  refine r_iload_n (j := 1) F rfl rfl dX8_form_5 ?_
  replace h := bind_so h
  obtain ⟨_, g6, h⟩ := h
  replace h := bind_so h
  obtain ⟨q6, h6, h⟩ := h
  refine r_callV (as := [vI l1]) (rv := (some (vI q6.1))) (kc := 0) (nc := 0) (tX4_nthForm h6) clok_4 F (gK_so g6) tw_1078 tw_1079 tw_1080 tw_1081 tw_113 ⟨by decide, by decide, show (parseMethodDescriptor yX4_nthForm.desc).map (fun d => d.parameters.length) = some 1 by decide +kernel⟩ ⟨by decide, by decide⟩ (Nat.le_of_ble_eq_true rfl) dX8_form_6 ?_
  replace h := bind_so h
  obtain ⟨_, g9, h⟩ := h
  replace h := bind_so h
  obtain ⟨q9, h9, h⟩ := h
  refine r_callV (as := [vI q6.1]) (rv := (some (vI q9.1))) (kc := 0) (nc := 0) (tX8_becomes h9) clok_8 F (gK_so g9) tw_1087 tw_1089 tw_46 tw_1090 tw_112 ⟨by decide, by decide, show (parseMethodDescriptor yX8_becomes.desc).map (fun d => d.parameters.length) = some 1 by decide +kernel⟩ ⟨by decide, by decide⟩ (Nat.le_of_ble_eq_true rfl) dX8_form_9 ?_
  replace h := bind_so h
  obtain ⟨z, hz, h⟩ := h
  obtain ⟨hz1, rfl⟩ := ite_so hz
  obtain rfl := Option.some.inj h
  exact r_zret hz1 F dX8_form_12
theorem tX8_name {l0 : Int} {M : Mem} {q : Int × Mem} (h : mX8_name l0 M = some q) : Ct 5 0 0 yX8_name cX8_name 2 (some FieldType.boolean) [vR l0] M (some (vI q.1)) q.2 := by
  unfold mX8_name at h
  refine Ct.of (by decide) (Nat.le_of_ble_eq_true rfl) ?_
  intro E p l e s m args below meth c F
  refine r_sub [0] (ls' := [(0, vR l0)]) rfl ?_
  refine r_aload_n (j := 0) F rfl rfl dX8_name_0 ?_
  replace h := bind_so h
  obtain ⟨a1, h1, h⟩ := h
  refine r_getT (t := 2) rfl clok_8 F (by decide) h1 tw_487 dX8_name_1 ?_
  replace h := bind_so h
  obtain ⟨_, g4, h⟩ := h
  replace h := bind_so h
  obtain ⟨q4, h4, h⟩ := h
  refine r_callV (as := []) (rv := (some (vI q4.1))) (kc := 0) (nc := 0) (tX4_leastRow h4) clok_4 F (gK_so g4) tw_1095 tw_1096 tw_1097 tw_1098 tw_113 ⟨by decide, by decide, show (parseMethodDescriptor yX4_leastRow.desc).map (fun d => d.parameters.length) = some 0 by decide +kernel⟩ ⟨by decide, by decide⟩ (Nat.le_of_ble_eq_true rfl) dX8_name_4 ?_
  refine r_istore_n (ls' := [(1, vI q4.1), (0, vR l0)]) F rfl (by decide) rfl dX8_name_7 ?_
  refine r_iload_n (j := 0) F rfl rfl dX8_name_8 ?_
  refine r_i2l F dX8_name_9 ?_
  refine r_aload_n (j := 1) F rfl rfl dX8_name_10 ?_
  replace h := bind_so h
  obtain ⟨a11, h11, h⟩ := h
  refine r_getT (t := 2) rfl clok_8 F (by decide) h11 tw_488 dX8_name_11 ?_
  replace h := bind_so h
  obtain ⟨a14, h14, h⟩ := h
  refine r_getT (t := 1) rfl clok_6 F (by decide) h14 tw_211 dX8_name_14 ?_
  refine r_lcmp F dX8_name_17 ?_
  refine r_if_eq (tgt := 33) F (by decide) dX8_name_18 (fun hc => ?_) (fun hc => ?_)
  · replace h := ite_p h hc
    refine r_iconst F rfl dX8_name_33 ?_
    obtain rfl := Option.some.inj h
    exact r_zret (Or.inl rfl) F dX8_name_34
  · replace h := ite_n h hc
    refine r_aload_n (j := 1) F rfl rfl dX8_name_21 ?_
    refine r_iload_n (j := 0) F rfl rfl dX8_name_22 ?_
    replace h := bind_so h
    obtain ⟨_, g23, h⟩ := h
    replace h := bind_so h
    obtain ⟨q23, h23, h⟩ := h
    refine r_callV (as := [vI q4.1]) (rv := (some (vI q23.1))) (kc := 0) (nc := 0) (tX8_becomes h23) clok_8 F (gK_so g23) tw_1087 tw_1089 tw_46 tw_1090 tw_112 ⟨by decide, by decide, show (parseMethodDescriptor yX8_becomes.desc).map (fun d => d.parameters.length) = some 1 by decide +kernel⟩ ⟨by decide, by decide⟩ (Nat.le_of_ble_eq_true rfl) dX8_name_23 ?_
    refine r_if_eq (tgt := 33) F (by decide) dX8_name_26 (fun hc => ?_) (fun hc => ?_)
    · replace h := ite_p h hc
      refine r_iconst F rfl dX8_name_33 ?_
      obtain rfl := Option.some.inj h
      exact r_zret (Or.inl rfl) F dX8_name_34
    · replace h := ite_n h hc
      refine r_iconst F rfl dX8_name_29 ?_
      refine r_goto (tgt := 34) F (by decide) dX8_name_30 ?_
      obtain rfl := Option.some.inj h
      exact r_zret (Or.inr rfl) F dX8_name_34
theorem tX8_least {l0 l1 : Int} {M : Mem} {q : Int × Mem} (h : mX8_least l0 l1 M = some q) : Ct 103 0 0 yX8_least cX8_least 2 (some FieldType.int) [vR l0, vI l1] M (some (vI q.1)) q.2 := by
  unfold mX8_least at h
  refine Ct.of (by decide) (Nat.le_of_ble_eq_true rfl) ?_
  intro E p l e s m args below meth c F
  refine r_sub [0, 1] (ls' := [(0, vR l0), (1, vI l1)]) rfl ?_
  refine r_iload_n (j := 1) F rfl rfl dX8_least_0 ?_
  replace h := bind_so h
  obtain ⟨q1, h1, h⟩ := h
  refine r_callS (as := [vI l1]) (rv := (some (vI q1.1))) (kc := 0) (nc := 0) (tX3_isKind h1) F tw_1107 tw_512 tw_513 tw_115 ⟨by decide, by decide, show (parseMethodDescriptor yX3_isKind.desc).map (fun d => d.parameters.length) = some 1 by decide +kernel⟩ ⟨by decide, by decide⟩ (Nat.le_of_ble_eq_true rfl) dX8_least_1 ?_
  refine r_if_eq (tgt := 18) F (by decide) dX8_least_4 (fun hc => ?_) (fun hc => ?_)
  · replace h := ite_p h hc
    refine r_iconst F rfl dX8_least_18 ?_
    obtain rfl := Option.some.inj h
    exact r_iret F dX8_least_19
  · replace h := ite_n h hc
    refine r_aload_n (j := 0) F rfl rfl dX8_least_7 ?_
    replace h := bind_so h
    obtain ⟨a8, h8, h⟩ := h
    refine r_getT (t := 2) rfl clok_8 F (by decide) h8 tw_487 dX8_least_8 ?_
    refine r_iload_n (j := 1) F rfl rfl dX8_least_11 ?_
    replace h := bind_so h
    obtain ⟨_, g12, h⟩ := h
    replace h := bind_so h
    obtain ⟨q12, h12, h⟩ := h
    refine r_callV (as := [vI l1]) (rv := (some (vI q12.1))) (kc := 0) (nc := 0) (tX4_leastSize h12) clok_4 F (gK_so g12) tw_1108 tw_1109 tw_1110 tw_1111 tw_113 ⟨by decide, by decide, show (parseMethodDescriptor yX4_leastSize.desc).map (fun d => d.parameters.length) = some 1 by decide +kernel⟩ ⟨by decide, by decide⟩ (Nat.le_of_ble_eq_true rfl) dX8_least_12 ?_
    refine r_goto (tgt := 19) F (by decide) dX8_least_15 ?_
    obtain rfl := Option.some.inj h
    exact r_iret F dX8_least_19
theorem tX8_nthBit_27 {E : En} {p : Program} {l : Launch} {e : Env} {s : State} {m : MethodId} {args : Array Value} {below : List Frame} {meth : Method} {c : Code} {q : Int × Mem} {k4 : Int → Int → Int → Mem → Option (Int × Mem)} (hk4 : ∀ {l0 l2 l3 : Int} {M : Mem}, k4 l0 l2 l3 M = some q → G E p l e (rmOf 0 0 0) s m args below meth c 4 (QZ E below args s (rmOf 0 0 0) (some (vI q.1)) q.2) 0 0 M 4 [(0, vI l0), (2, vI l2), (3, vI l3)] []) {l0 l2 l3 : Int} {M : Mem} (F : Fx E p s m args meth c cX8_nthBit 4 yX8_nthBit.cls (some FieldType.int) yX8_nthBit.name) (h : mX8_nthBit_27 k4 l0 l2 l3 M = some q) : G E p l e (rmOf 0 0 0) s m args below meth c 4 (QZ E below args s (rmOf 0 0 0) (some (vI q.1)) q.2) 0 0 M 27 [(0, vI l0), (2, vI l2), (3, vI l3)] [] := by
  unfold mX8_nthBit_27 at h
  refine r_iinc (j := 2) (ls' := [(3, vI (wI (l3 + 1))), (0, vI l0), (2, vI l2)]) F rfl (by decide) rfl dX8_nthBit_27 ?_
  refine r_goto (tgt := 4) F (by decide) dX8_nthBit_30 ?_
  refine r_sub [1, 2, 0] (ls' := [(0, vI l0), (2, vI l2), (3, vI (wI (l3 + 1)))]) rfl ?_
  exact hk4 h
theorem tbX8_nthBit_4 {E : En} {p : Program} {l : Launch} {e : Env} {s : State} {m : MethodId} {args : Array Value} {below : List Frame} {meth : Method} {c : Code} {q : Int × Mem} {k4 : Int → Int → Int → Mem → Option (Int × Mem)} (hk4 : ∀ {l0 l2 l3 : Int} {M : Mem}, k4 l0 l2 l3 M = some q → G E p l e (rmOf 0 0 0) s m args below meth c 4 (QZ E below args s (rmOf 0 0 0) (some (vI q.1)) q.2) 0 0 M 4 [(0, vI l0), (2, vI l2), (3, vI l3)] []) {l0 l2 l3 : Int} {M : Mem} (F : Fx E p s m args meth c cX8_nthBit 4 yX8_nthBit.cls (some FieldType.int) yX8_nthBit.name) (h : bX8_nthBit_4 k4 l0 l2 l3 M = some q) : G E p l e (rmOf 0 0 0) s m args below meth c 4 (QZ E below args s (rmOf 0 0 0) (some (vI q.1)) q.2) 0 0 M 4 [(0, vI l0), (2, vI l2), (3, vI l3)] [] := by
  unfold bX8_nthBit_4 at h
  refine r_iload_n (j := 2) F rfl rfl dX8_nthBit_4 ?_
  refine r_bipush F rfl (by decide) dX8_nthBit_5 ?_
  refine r_icmp_ge (tgt := 33) F (by decide) dX8_nthBit_7 (fun hc => ?_) (fun hc => ?_)
  · replace h := ite_p h hc
    refine r_iconst F rfl dX8_nthBit_33 ?_
    obtain rfl := Option.some.inj h
    exact r_iret F dX8_nthBit_34
  · replace h := ite_n h hc
    refine r_iload_n (j := 0) F rfl rfl dX8_nthBit_10 ?_
    refine r_iload_n (j := 2) F rfl rfl dX8_nthBit_11 ?_
    refine r_ishr F dX8_nthBit_12 ?_
    refine r_iconst F rfl dX8_nthBit_13 ?_
    refine r_iand F dX8_nthBit_14 ?_
    refine r_if_eq (tgt := 27) F (by decide) dX8_nthBit_15 (fun hc => ?_) (fun hc => ?_)
    · replace h := ite_p h hc
      refine r_sub [0, 1, 2] (ls' := [(0, vI l0), (2, vI l2), (3, vI l3)]) rfl ?_
      exact tX8_nthBit_27 (fun h => hk4 h) F h
    · replace h := ite_n h hc
      refine r_iload_n (j := 1) F rfl rfl dX8_nthBit_18 ?_
      refine r_if_ne (tgt := 24) F (by decide) dX8_nthBit_19 (fun hc => ?_) (fun hc => ?_)
      · replace h := ite_n h hc
        refine r_iinc (j := 1) (ls' := [(2, vI (wI (l2 + (-1)))), (0, vI l0), (3, vI l3)]) F rfl (by decide) rfl dX8_nthBit_24 ?_
        refine r_sub [1, 0, 2] (ls' := [(0, vI l0), (2, vI (wI (l2 + (-1)))), (3, vI l3)]) rfl ?_
        exact tX8_nthBit_27 (fun h => hk4 h) F h
      · replace h := ite_p h hc
        refine r_iload_n (j := 2) F rfl rfl dX8_nthBit_22 ?_
        obtain rfl := Option.some.inj h
        exact r_iret F dX8_nthBit_23
theorem tX8_nthBit_4 {E : En} {p : Program} {l : Launch} {e : Env} {s : State} {m : MethodId} {args : Array Value} {below : List Frame} {meth : Method} {c : Code} {q : Int × Mem} (F : Fx E p s m args meth c cX8_nthBit 4 yX8_nthBit.cls (some FieldType.int) yX8_nthBit.name) : ∀ {fu : Nat} {l0 l2 l3 : Int} {M : Mem}, mX8_nthBit_4 fu l0 l2 l3 M = some q → G E p l e (rmOf 0 0 0) s m args below meth c 4 (QZ E below args s (rmOf 0 0 0) (some (vI q.1)) q.2) 0 0 M 4 [(0, vI l0), (2, vI l2), (3, vI l3)] [] := by
  intro fu
  induction fu with
  | zero => intro l0 l2 l3 M h; exact nomatch (show (none : Option (Int × Mem)) = some q from h)
  | succ fu ih => intro l0 l2 l3 M h; exact tbX8_nthBit_4  (fun h => ih h) F h
theorem tX8_nthBit {l0 l1 : Int} {M : Mem} {q : Int × Mem} (h : mX8_nthBit l0 l1 M = some q) : Ct 0 0 0 yX8_nthBit cX8_nthBit 4 (some FieldType.int) [vI l0, vI l1] M (some (vI q.1)) q.2 := by
  unfold mX8_nthBit at h
  refine Ct.of (by decide) (Nat.le_of_ble_eq_true rfl) ?_
  intro E p l e s m args below meth c F
  refine r_sub [0, 1] (ls' := [(0, vI l0), (1, vI l1)]) rfl ?_
  refine r_iload_n (j := 1) F rfl rfl dX8_nthBit_0 ?_
  refine r_istore_n (ls' := [(2, vI l1), (0, vI l0), (1, vI l1)]) F rfl (by decide) rfl dX8_nthBit_1 ?_
  refine r_iconst F rfl dX8_nthBit_2 ?_
  refine r_istore_n (ls' := [(3, vI 0), (2, vI l1), (0, vI l0), (1, vI l1)]) F rfl (by decide) rfl dX8_nthBit_3 ?_
  refine r_sub [2, 1, 0] (ls' := [(0, vI l0), (2, vI l1), (3, vI 0)]) rfl ?_
  exact tX8_nthBit_4 F h
theorem tX8_core {l0 l1 : Int} {M : Mem} {q : Int × Mem} (h : mX8_core l0 l1 M = some q) : Ct 103 0 0 yX8_core cX8_core 2 (some FieldType.int) [vR l0, vI l1] M (some (vI q.1)) q.2 := by
  unfold mX8_core at h
  refine Ct.of (by decide) (Nat.le_of_ble_eq_true rfl) ?_
  intro E p l e s m args below meth c F
  refine r_sub [0, 1] (ls' := [(0, vR l0), (1, vI l1)]) rfl ?_
  refine r_aload_n (j := 0) F rfl rfl dX8_core_0 ?_
  replace h := bind_so h
  obtain ⟨a1, h1, h⟩ := h
  refine r_getT (t := 2) rfl clok_8 F (by decide) h1 tw_487 dX8_core_1 ?_
  replace h := bind_so h
  obtain ⟨_, g4, h⟩ := h
  replace h := bind_so h
  obtain ⟨q4, h4, h⟩ := h
  refine r_callV (as := []) (rv := (some (vI q4.1))) (kc := 0) (nc := 0) (tX4_coreStories h4) clok_4 F (gK_so g4) tw_1131 tw_1132 tw_1133 tw_1134 tw_113 ⟨by decide, by decide, show (parseMethodDescriptor yX4_coreStories.desc).map (fun d => d.parameters.length) = some 0 by decide +kernel⟩ ⟨by decide, by decide⟩ (Nat.le_of_ble_eq_true rfl) dX8_core_4 ?_
  refine r_iload_n (j := 1) F rfl rfl dX8_core_7 ?_
  replace h := bind_so h
  obtain ⟨q8, h8, h⟩ := h
  refine r_callS (as := [vI q4.1, vI l1]) (rv := (some (vI q8.1))) (kc := 0) (nc := 0) (tX8_nthBit h8) F tw_1151 tw_1152 tw_1153 tw_112 ⟨by decide, by decide, show (parseMethodDescriptor yX8_nthBit.desc).map (fun d => d.parameters.length) = some 2 by decide +kernel⟩ ⟨by decide, by decide⟩ (Nat.le_of_ble_eq_true rfl) dX8_core_8 ?_
  obtain rfl := Option.some.inj h
  exact r_iret F dX8_core_11
theorem tX8_sure {l0 l1 l2 l3 : Int} {M : Mem} {q : Int × Mem} (h : mX8_sure l0 l1 l2 l3 M = some q) : Ct 103 0 0 yX8_sure cX8_sure 4 (some FieldType.int) [vR l0, vI l1, vI l2, vI l3] M (some (vI q.1)) q.2 := by
  unfold mX8_sure at h
  refine Ct.of (by decide) (Nat.le_of_ble_eq_true rfl) ?_
  intro E p l e s m args below meth c F
  refine r_sub [0, 1, 2, 3] (ls' := [(0, vR l0), (1, vI l1), (2, vI l2), (3, vI l3)]) rfl ?_
  refine r_aload_n (j := 0) F rfl rfl dX8_sure_0 ?_
  replace h := bind_so h
  obtain ⟨a1, h1, h⟩ := h
  refine r_getT (t := 2) rfl clok_8 F (by decide) h1 tw_487 dX8_sure_1 ?_
  refine r_aload_n (j := 0) F rfl rfl dX8_sure_4 ?_
  replace h := bind_so h
  obtain ⟨a5, h5, h⟩ := h
  refine r_getT (t := 2) rfl clok_8 F (by decide) h5 tw_488 dX8_sure_5 ?_
  replace h := bind_so h
  obtain ⟨a8, h8, h⟩ := h
  refine r_getT (t := 2) rfl clok_6 F (by decide) h8 tw_207 dX8_sure_8 ?_
  refine r_iload_n (j := 1) F rfl rfl dX8_sure_11 ?_
  refine r_iload_n (j := 2) F rfl rfl dX8_sure_12 ?_
  refine r_iload_n (j := 3) F rfl rfl dX8_sure_13 ?_
  replace h := bind_so h
  obtain ⟨_, g14, h⟩ := h
  replace h := bind_so h
  obtain ⟨q14, h14, h⟩ := h
  refine r_callV (as := [vI l1, vI l2, vI l3]) (rv := (some (vI q14.1))) (kc := 0) (nc := 0) (tX3_place h14) clok_3 F (gK_so g14) tw_546 tw_547 tw_548 tw_549 tw_115 ⟨by decide, by decide, show (parseMethodDescriptor yX3_place.desc).map (fun d => d.parameters.length) = some 3 by decide +kernel⟩ ⟨by decide, by decide⟩ (Nat.le_of_ble_eq_true rfl) dX8_sure_14 ?_
  replace h := bind_so h
  obtain ⟨_, g17, h⟩ := h
  replace h := bind_so h
  obtain ⟨q17, h17, h⟩ := h
  refine r_callV (as := [vI q14.1]) (rv := (some (vI q17.1))) (kc := 0) (nc := 0) (tX4_sureness h17) clok_4 F (gK_so g17) tw_1158 tw_1159 tw_1160 tw_1161 tw_113 ⟨by decide, by decide, show (parseMethodDescriptor yX4_sureness.desc).map (fun d => d.parameters.length) = some 1 by decide +kernel⟩ ⟨by decide, by decide⟩ (Nat.le_of_ble_eq_true rfl) dX8_sure_17 ?_
  obtain rfl := Option.some.inj h
  exact r_iret F dX8_sure_20
theorem tX8_cause {l0 l1 l2 l3 l4 : Int} {M : Mem} {q : Int × Mem} (h : mX8_cause l0 l1 l2 l3 l4 M = some q) : Ct 103 0 0 yX8_cause cX8_cause 7 (some FieldType.int) [vR l0, vI l1, vI l2, vI l3, vI l4] M (some (vI q.1)) q.2 := by
  unfold mX8_cause at h
  refine Ct.of (by decide) (Nat.le_of_ble_eq_true rfl) ?_
  intro E p l e s m args below meth c F
  refine r_sub [0, 1, 2, 3, 4] (ls' := [(0, vR l0), (1, vI l1), (2, vI l2), (3, vI l3), (4, vI l4)]) rfl ?_
  refine r_aload_n (j := 0) F rfl rfl dX8_cause_0 ?_
  replace h := bind_so h
  obtain ⟨a1, h1, h⟩ := h
  refine r_getT (t := 2) rfl clok_8 F (by decide) h1 tw_488 dX8_cause_1 ?_
  replace h := bind_so h
  obtain ⟨a4, h4, h⟩ := h
  refine r_getT (t := 2) rfl clok_6 F (by decide) h4 tw_207 dX8_cause_4 ?_
  refine r_iload_n (j := 1) F rfl rfl dX8_cause_7 ?_
  refine r_iload_n (j := 2) F rfl rfl dX8_cause_8 ?_
  refine r_iload_n (j := 3) F rfl rfl dX8_cause_9 ?_
  replace h := bind_so h
  obtain ⟨_, g10, h⟩ := h
  replace h := bind_so h
  obtain ⟨q10, h10, h⟩ := h
  refine r_callV (as := [vI l1, vI l2, vI l3]) (rv := (some (vI q10.1))) (kc := 0) (nc := 0) (tX3_place h10) clok_3 F (gK_so g10) tw_546 tw_547 tw_548 tw_549 tw_115 ⟨by decide, by decide, show (parseMethodDescriptor yX3_place.desc).map (fun d => d.parameters.length) = some 3 by decide +kernel⟩ ⟨by decide, by decide⟩ (Nat.le_of_ble_eq_true rfl) dX8_cause_10 ?_
  refine r_istore (ls' := [(5, vI q10.1), (0, vR l0), (1, vI l1), (2, vI l2), (3, vI l3), (4, vI l4)]) F (by decide) rfl dX8_cause_13 ?_
  refine r_aload_n (j := 1) F rfl rfl dX8_cause_15 ?_
  replace h := bind_so h
  obtain ⟨a16, h16, h⟩ := h
  refine r_getT (t := 2) rfl clok_8 F (by decide) h16 tw_487 dX8_cause_16 ?_
  refine r_iload (j := 0) F rfl dX8_cause_19 ?_
  replace h := bind_so h
  obtain ⟨_, g21, h⟩ := h
  replace h := bind_so h
  obtain ⟨q21, h21, h⟩ := h
  refine r_callV (as := [vI q10.1]) (rv := (some (vI q21.1))) (kc := 0) (nc := 0) (tX4_sureness h21) clok_4 F (gK_so g21) tw_1158 tw_1159 tw_1160 tw_1161 tw_113 ⟨by decide, by decide, show (parseMethodDescriptor yX4_sureness.desc).map (fun d => d.parameters.length) = some 1 by decide +kernel⟩ ⟨by decide, by decide⟩ (Nat.le_of_ble_eq_true rfl) dX8_cause_21 ?_
  refine r_istore (ls' := [(6, vI q21.1), (5, vI q10.1), (0, vR l0), (1, vI l1), (2, vI l2), (3, vI l3), (4, vI l4)]) F (by decide) rfl dX8_cause_24 ?_
  refine r_iload (j := 0) F rfl dX8_cause_26 ?_
  refine r_iconst F rfl dX8_cause_28 ?_
  refine r_icmp_ne (tgt := 36) F (by decide) dX8_cause_29 (fun hc => ?_) (fun hc => ?_)
  · replace h := ite_n h hc
    refine r_aload_n (j := 2) F rfl rfl dX8_cause_36 ?_
    replace h := bind_so h
    obtain ⟨a37, h37, h⟩ := h
    refine r_getT (t := 2) rfl clok_8 F (by decide) h37 tw_487 dX8_cause_37 ?_
    refine r_iload (j := 1) F rfl dX8_cause_40 ?_
    refine r_iload (j := 0) F rfl dX8_cause_42 ?_
    replace h := bind_so h
    obtain ⟨_, g44, h⟩ := h
    replace h := bind_so h
    obtain ⟨q44, h44, h⟩ := h
    refine r_callV (as := [vI q10.1, vI q21.1]) (rv := (some (vI q44.1))) (kc := 0) (nc := 0) (tX4_causeStories h44) clok_4 F (gK_so g44) tw_1170 tw_1171 tw_1172 tw_1173 tw_113 ⟨by decide, by decide, show (parseMethodDescriptor yX4_causeStories.desc).map (fun d => d.parameters.length) = some 2 by decide +kernel⟩ ⟨by decide, by decide⟩ (Nat.le_of_ble_eq_true rfl) dX8_cause_44 ?_
    refine r_iload (j := 6) F rfl dX8_cause_47 ?_
    replace h := bind_so h
    obtain ⟨q49, h49, h⟩ := h
    refine r_callS (as := [vI q44.1, vI l4]) (rv := (some (vI q49.1))) (kc := 0) (nc := 0) (tX8_nthBit h49) F tw_1151 tw_1152 tw_1153 tw_112 ⟨by decide, by decide, show (parseMethodDescriptor yX8_nthBit.desc).map (fun d => d.parameters.length) = some 2 by decide +kernel⟩ ⟨by decide, by decide⟩ (Nat.le_of_ble_eq_true rfl) dX8_cause_49 ?_
    obtain rfl := Option.some.inj h
    exact r_iret F dX8_cause_52
  · replace h := ite_p h hc
    refine r_iconst F rfl dX8_cause_32 ?_
    refine r_goto (tgt := 52) F (by decide) dX8_cause_33 ?_
    obtain rfl := Option.some.inj h
    exact r_iret F dX8_cause_52
theorem tX8_without {l0 l1 : Int} {M : Mem} {q : Int × Mem} (h : mX8_without l0 l1 M = some q) : Ct 103 0 0 yX8_without cX8_without 2 (some FieldType.int) [vR l0, vI l1] M (some (vI q.1)) q.2 := by
  unfold mX8_without at h
  refine Ct.of (by decide) (Nat.le_of_ble_eq_true rfl) ?_
  intro E p l e s m args below meth c F
  refine r_sub [0, 1] (ls' := [(0, vR l0), (1, vI l1)]) rfl ?_
  refine r_aload_n (j := 0) F rfl rfl dX8_without_0 ?_
  replace h := bind_so h
  obtain ⟨a1, h1, h⟩ := h
  refine r_getT (t := 2) rfl clok_8 F (by decide) h1 tw_487 dX8_without_1 ?_
  refine r_iload_n (j := 1) F rfl rfl dX8_without_4 ?_
  replace h := bind_so h
  obtain ⟨_, g5, h⟩ := h
  replace h := bind_so h
  obtain ⟨q5, h5, h⟩ := h
  refine r_callV (as := [vI l1]) (rv := (some (vI q5.1))) (kc := 0) (nc := 0) (tX4_countWithout h5) clok_4 F (gK_so g5) tw_1178 tw_1179 tw_1180 tw_1181 tw_113 ⟨by decide, by decide, show (parseMethodDescriptor yX4_countWithout.desc).map (fun d => d.parameters.length) = some 1 by decide +kernel⟩ ⟨by decide, by decide⟩ (Nat.le_of_ble_eq_true rfl) dX8_without_5 ?_
  obtain rfl := Option.some.inj h
  exact r_iret F dX8_without_8
theorem tX8_questions {l0 : Int} {M : Mem} {q : Int × Mem} (h : mX8_questions l0 M = some q) : Ct 103 0 0 yX8_questions cX8_questions 1 (some FieldType.int) [vR l0] M (some (vI q.1)) q.2 := by
  unfold mX8_questions at h
  refine Ct.of (by decide) (Nat.le_of_ble_eq_true rfl) ?_
  intro E p l e s m args below meth c F
  refine r_sub [0] (ls' := [(0, vR l0)]) rfl ?_
  refine r_aload_n (j := 0) F rfl rfl dX8_questions_0 ?_
  replace h := bind_so h
  obtain ⟨a1, h1, h⟩ := h
  refine r_getT (t := 2) rfl clok_8 F (by decide) h1 tw_487 dX8_questions_1 ?_
  replace h := bind_so h
  obtain ⟨_, g4, h⟩ := h
  replace h := bind_so h
  obtain ⟨q4, h4, h⟩ := h
  refine r_callV (as := []) (rv := (some (vI q4.1))) (kc := 0) (nc := 0) (tX4_fewestQuestions h4) clok_4 F (gK_so g4) tw_1187 tw_1188 tw_1189 tw_1190 tw_113 ⟨by decide, by decide, show (parseMethodDescriptor yX4_fewestQuestions.desc).map (fun d => d.parameters.length) = some 0 by decide +kernel⟩ ⟨by decide, by decide⟩ (Nat.le_of_ble_eq_true rfl) dX8_questions_4 ?_
  obtain rfl := Option.some.inj h
  exact r_iret F dX8_questions_7
theorem tX8_settle {l0 l1 : Int} {M : Mem} {q : Int × Mem} (h : mX8_settle l0 l1 M = some q) : Ct 103 0 0 yX8_settle cX8_settle 4 (some FieldType.int) [vR l0, vI l1] M (some (vI q.1)) q.2 := by
  unfold mX8_settle at h
  refine Ct.of (by decide) (Nat.le_of_ble_eq_true rfl) ?_
  intro E p l e s m args below meth c F
  refine r_sub [0, 1] (ls' := [(0, vR l0), (1, vI l1)]) rfl ?_
  refine r_aload_n (j := 0) F rfl rfl dX8_settle_0 ?_
  replace h := bind_so h
  obtain ⟨a1, h1, h⟩ := h
  refine r_getT (t := 2) rfl clok_8 F (by decide) h1 tw_487 dX8_settle_1 ?_
  replace h := bind_so h
  obtain ⟨_, g4, h⟩ := h
  replace h := bind_so h
  obtain ⟨q4, h4, h⟩ := h
  refine r_callV (as := []) (rv := (some (vI q4.1))) (kc := 0) (nc := 0) (tX4_settlingPlace h4) clok_4 F (gK_so g4) tw_1202 tw_1203 tw_1204 tw_1205 tw_113 ⟨by decide, by decide, show (parseMethodDescriptor yX4_settlingPlace.desc).map (fun d => d.parameters.length) = some 0 by decide +kernel⟩ ⟨by decide, by decide⟩ (Nat.le_of_ble_eq_true rfl) dX8_settle_4 ?_
  refine r_istore_n (ls' := [(2, vI q4.1), (0, vR l0), (1, vI l1)]) F rfl (by decide) rfl dX8_settle_7 ?_
  refine r_iload_n (j := 0) F rfl rfl dX8_settle_8 ?_
  refine r_iconst F rfl dX8_settle_9 ?_
  refine r_icmp_ne (tgt := 15) F (by decide) dX8_settle_10 (fun hc => ?_) (fun hc => ?_)
  · replace h := ite_n h hc
    refine r_aload_n (j := 1) F rfl rfl dX8_settle_15 ?_
    replace h := bind_so h
    obtain ⟨a16, h16, h⟩ := h
    refine r_getT (t := 2) rfl clok_8 F (by decide) h16 tw_488 dX8_settle_16 ?_
    replace h := bind_so h
    obtain ⟨a19, h19, h⟩ := h
    refine r_getT (t := 2) rfl clok_6 F (by decide) h19 tw_207 dX8_settle_19 ?_
    refine r_iload_n (j := 0) F rfl rfl dX8_settle_22 ?_
    replace h := bind_so h
    obtain ⟨_, g23, h⟩ := h
    replace h := bind_so h
    obtain ⟨q23, h23, h⟩ := h
    refine r_callV (as := [vI q4.1]) (rv := (some (vI q23.1))) (kc := 0) (nc := 0) (tX3_relationAt h23) clok_3 F (gK_so g23) tw_1211 tw_1212 tw_1213 tw_1214 tw_115 ⟨by decide, by decide, show (parseMethodDescriptor yX3_relationAt.desc).map (fun d => d.parameters.length) = some 1 by decide +kernel⟩ ⟨by decide, by decide⟩ (Nat.le_of_ble_eq_true rfl) dX8_settle_23 ?_
    refine r_istore_n (ls' := [(3, vI q23.1), (2, vI q4.1), (0, vR l0), (1, vI l1)]) F rfl (by decide) rfl dX8_settle_26 ?_
    refine r_iload_n (j := 3) F rfl rfl dX8_settle_27 ?_
    by_cases hc0 : l1 = 0
    · replace h := ite_p h hc0
      refine r_tIn (off := 32) (tgt := 60) F (by omega) (by omega) (by rw [hc0]; rfl) (by decide) dX8_settle_28 ?_
      refine r_iload_n (j := 0) F rfl rfl dX8_settle_60 ?_
      obtain rfl := Option.some.inj h
      exact r_iret F dX8_settle_61
    replace h := ite_n h hc0
    by_cases hc1 : l1 = 1
    · replace h := ite_p h hc1
      refine r_tIn (off := 34) (tgt := 62) F (by omega) (by omega) (by rw [hc1]; rfl) (by decide) dX8_settle_28 ?_
      refine r_aload_n (j := 2) F rfl rfl dX8_settle_62 ?_
      replace h := bind_so h
      obtain ⟨a63, h63, h⟩ := h
      refine r_getT (t := 2) rfl clok_8 F (by decide) h63 tw_488 dX8_settle_63 ?_
      replace h := bind_so h
      obtain ⟨a66, h66, h⟩ := h
      refine r_getT (t := 2) rfl clok_6 F (by decide) h66 tw_207 dX8_settle_66 ?_
      refine r_iload_n (j := 0) F rfl rfl dX8_settle_69 ?_
      refine r_iload_n (j := 1) F rfl rfl dX8_settle_70 ?_
      replace h := bind_so h
      obtain ⟨_, g71, h⟩ := h
      replace h := bind_so h
      obtain ⟨q71, h71, h⟩ := h
      refine r_callV (as := [vI q23.1, vI q4.1]) (rv := (some (vI q71.1))) (kc := 0) (nc := 0) (tX3_firstAt h71) clok_3 F (gK_so g71) tw_1215 tw_1216 tw_1217 tw_1218 tw_115 ⟨by decide, by decide, show (parseMethodDescriptor yX3_firstAt.desc).map (fun d => d.parameters.length) = some 2 by decide +kernel⟩ ⟨by decide, by decide⟩ (Nat.le_of_ble_eq_true rfl) dX8_settle_71 ?_
      obtain rfl := Option.some.inj h
      exact r_iret F dX8_settle_74
    replace h := ite_n h hc1
    by_cases hc2 : l1 = 2
    · replace h := ite_p h hc2
      refine r_tIn (off := 47) (tgt := 75) F (by omega) (by omega) (by rw [hc2]; rfl) (by decide) dX8_settle_28 ?_
      refine r_aload_n (j := 2) F rfl rfl dX8_settle_75 ?_
      replace h := bind_so h
      obtain ⟨a76, h76, h⟩ := h
      refine r_getT (t := 2) rfl clok_8 F (by decide) h76 tw_488 dX8_settle_76 ?_
      replace h := bind_so h
      obtain ⟨a79, h79, h⟩ := h
      refine r_getT (t := 2) rfl clok_6 F (by decide) h79 tw_207 dX8_settle_79 ?_
      refine r_iload_n (j := 0) F rfl rfl dX8_settle_82 ?_
      refine r_iload_n (j := 1) F rfl rfl dX8_settle_83 ?_
      replace h := bind_so h
      obtain ⟨_, g84, h⟩ := h
      replace h := bind_so h
      obtain ⟨q84, h84, h⟩ := h
      refine r_callV (as := [vI q23.1, vI q4.1]) (rv := (some (vI q84.1))) (kc := 0) (nc := 0) (tX3_secondAt h84) clok_3 F (gK_so g84) tw_1220 tw_1221 tw_1222 tw_1223 tw_115 ⟨by decide, by decide, show (parseMethodDescriptor yX3_secondAt.desc).map (fun d => d.parameters.length) = some 2 by decide +kernel⟩ ⟨by decide, by decide⟩ (Nat.le_of_ble_eq_true rfl) dX8_settle_84 ?_
      obtain rfl := Option.some.inj h
      exact r_iret F dX8_settle_87
    replace h := ite_n h hc2
    by_cases hc3 : l1 = 3
    · replace h := ite_p h hc3
      refine r_tIn (off := 60) (tgt := 88) F (by omega) (by omega) (by rw [hc3]; rfl) (by decide) dX8_settle_28 ?_
      refine r_aload_n (j := 2) F rfl rfl dX8_settle_88 ?_
      replace h := bind_so h
      obtain ⟨a89, h89, h⟩ := h
      refine r_getT (t := 2) rfl clok_8 F (by decide) h89 tw_487 dX8_settle_89 ?_
      refine r_iload_n (j := 1) F rfl rfl dX8_settle_92 ?_
      replace h := bind_so h
      obtain ⟨_, g93, h⟩ := h
      replace h := bind_so h
      obtain ⟨q93, h93, h⟩ := h
      refine r_callV (as := [vI q4.1]) (rv := (some (vI q93.1))) (kc := 0) (nc := 0) (tX4_greaterAt h93) clok_4 F (gK_so g93) tw_1226 tw_1207 tw_1208 tw_1209 tw_113 ⟨by decide, by decide, show (parseMethodDescriptor yX4_greaterAt.desc).map (fun d => d.parameters.length) = some 1 by decide +kernel⟩ ⟨by decide, by decide⟩ (Nat.le_of_ble_eq_true rfl) dX8_settle_93 ?_
      obtain rfl := Option.some.inj h
      exact r_iret F dX8_settle_96
    replace h := ite_n h hc3
    refine r_tOut (tgt := 97) F (by omega) (by decide) dX8_settle_28 ?_
    refine r_iconst F rfl dX8_settle_97 ?_
    obtain rfl := Option.some.inj h
    exact r_iret F dX8_settle_98
  · replace h := ite_p h hc
    refine r_iconst F rfl dX8_settle_13 ?_
    obtain rfl := Option.some.inj h
    exact r_iret F dX8_settle_14
theorem tX8_near {l0 : Int} {M : Mem} {q : Int × Mem} (h : mX8_near l0 M = some q) : Ct 103 0 0 yX8_near cX8_near 3 (some FieldType.int) [vR l0] M (some (vI q.1)) q.2 := by
  unfold mX8_near at h
  refine Ct.of (by decide) (Nat.le_of_ble_eq_true rfl) ?_
  intro E p l e s m args below meth c F
  refine r_sub [0] (ls' := [(0, vR l0)]) rfl ?_
  refine r_aload_n (j := 0) F rfl rfl dX8_near_0 ?_
  replace h := bind_so h
  obtain ⟨a1, h1, h⟩ := h
  refine r_getT (t := 2) rfl clok_8 F (by decide) h1 tw_487 dX8_near_1 ?_
  replace h := bind_so h
  obtain ⟨_, g4, h⟩ := h
  replace h := bind_so h
  obtain ⟨q4, h4, h⟩ := h
  refine r_callV (as := []) (rv := (some (vI q4.1))) (kc := 0) (nc := 0) (tX4_nearestWorld h4) clok_4 F (gK_so g4) tw_1231 tw_1232 tw_1233 tw_1234 tw_113 ⟨by decide, by decide, show (parseMethodDescriptor yX4_nearestWorld.desc).map (fun d => d.parameters.length) = some 0 by decide +kernel⟩ ⟨by decide, by decide⟩ (Nat.le_of_ble_eq_true rfl) dX8_near_4 ?_
  refine r_istore_n (ls' := [(1, vI q4.1), (0, vR l0)]) F rfl (by decide) rfl dX8_near_7 ?_
  refine r_iload_n (j := 0) F rfl rfl dX8_near_8 ?_
  refine r_iconst F rfl dX8_near_9 ?_
  refine r_icmp_ne (tgt := 15) F (by decide) dX8_near_10 (fun hc => ?_) (fun hc => ?_)
  · replace h := ite_n h hc
    refine r_aload_n (j := 1) F rfl rfl dX8_near_15 ?_
    replace h := bind_so h
    obtain ⟨a16, h16, h⟩ := h
    refine r_getT (t := 2) rfl clok_8 F (by decide) h16 tw_488 dX8_near_16 ?_
    replace h := bind_so h
    obtain ⟨a19, h19, h⟩ := h
    refine r_getT (t := 1) rfl clok_6 F (by decide) h19 tw_211 dX8_near_19 ?_
    refine r_iload_n (j := 0) F rfl rfl dX8_near_22 ?_
    refine r_i2l F dX8_near_23 ?_
    refine r_lxor F dX8_near_24 ?_
    replace h := bind_so h
    obtain ⟨q25, h25, h⟩ := h
    refine r_callS (as := [vL (lxor a19 (i2l q4.1))]) (rv := (some (vI q25.1))) (kc := 0) (nc := 0) (tJ13_bitCount_95d88 h25) F tw_1238 tw_1035 tw_1036 tw_129 ⟨by decide, by decide, show (parseMethodDescriptor yJ13_bitCount_95d88.desc).map (fun d => d.parameters.length) = some 1 by decide +kernel⟩ ⟨by decide, by decide⟩ (Nat.le_of_ble_eq_true rfl) dX8_near_25 ?_
    refine r_istore_n (ls' := [(2, vI q25.1), (1, vI q4.1), (0, vR l0)]) F rfl (by decide) rfl dX8_near_28 ?_
    refine r_aload_n (j := 2) F rfl rfl dX8_near_29 ?_
    replace h := bind_so h
    obtain ⟨a30, h30, h⟩ := h
    refine r_getT (t := 2) rfl clok_8 F (by decide) h30 tw_488 dX8_near_30 ?_
    refine r_iload_n (j := 1) F rfl rfl dX8_near_33 ?_
    refine r_i2l F dX8_near_34 ?_
    replace h := bind_so h
    obtain ⟨M35, h35, h⟩ := h
    refine r_put clok_6 F (by decide) rfl (by decide) (by decide) h35 tw_211 dX8_near_35 ?_
    refine r_iload_n (j := 0) F rfl rfl dX8_near_38 ?_
    obtain rfl := Option.some.inj h
    exact r_iret F dX8_near_39
  · replace h := ite_p h hc
    refine r_iconst F rfl dX8_near_13 ?_
    obtain rfl := Option.some.inj h
    exact r_iret F dX8_near_14
theorem tX8_holds {l0 l1 : Int} {M : Mem} {q : Int × Mem} (h : mX8_holds l0 l1 M = some q) : Ct 103 0 0 yX8_holds cX8_holds 2 (some FieldType.int) [vR l0, vI l1] M (some (vI q.1)) q.2 := by
  unfold mX8_holds at h
  refine Ct.of (by decide) (Nat.le_of_ble_eq_true rfl) ?_
  intro E p l e s m args below meth c F
  refine r_sub [0, 1] (ls' := [(0, vR l0), (1, vI l1)]) rfl ?_
  refine r_iload_n (j := 1) F rfl rfl dX8_holds_0 ?_
  by_cases hc0 : l1 = 0
  · replace h := ite_p h hc0
    refine r_look (off := 27) (tgt := 28) F (by decide) (by rw [hc0]; rfl) (by decide) dX8_holds_1 ?_
    refine r_aload_n (j := 0) F rfl rfl dX8_holds_28 ?_
    replace h := bind_so h
    obtain ⟨a29, h29, h⟩ := h
    refine r_getT (t := 2) rfl clok_8 F (by decide) h29 tw_487 dX8_holds_29 ?_
    replace h := bind_so h
    obtain ⟨_, g32, h⟩ := h
    replace h := bind_so h
    obtain ⟨q32, h32, h⟩ := h
    refine r_callV (as := []) (rv := (some (vI q32.1))) (kc := 0) (nc := 0) (tX4_countGuessWorlds h32) clok_4 F (gK_so g32) tw_1243 tw_1244 tw_1245 tw_1246 tw_113 ⟨by decide, by decide, show (parseMethodDescriptor yX4_countGuessWorlds.desc).map (fun d => d.parameters.length) = some 0 by decide +kernel⟩ ⟨by decide, by decide⟩ (Nat.le_of_ble_eq_true rfl) dX8_holds_32 ?_
    obtain rfl := Option.some.inj h
    exact r_iret F dX8_holds_35
  replace h := ite_n h hc0
  by_cases hc1 : l1 = 1
  · replace h := ite_p h hc1
    refine r_look (off := 35) (tgt := 36) F (by decide) (by rw [hc1]; rfl) (by decide) dX8_holds_1 ?_
    refine r_aload_n (j := 0) F rfl rfl dX8_holds_36 ?_
    replace h := bind_so h
    obtain ⟨a37, h37, h⟩ := h
    refine r_getT (t := 2) rfl clok_8 F (by decide) h37 tw_487 dX8_holds_37 ?_
    replace h := bind_so h
    obtain ⟨_, g40, h⟩ := h
    replace h := bind_so h
    obtain ⟨q40, h40, h⟩ := h
    refine r_callV (as := []) (rv := (some (vI q40.1))) (kc := 0) (nc := 0) (tX4_countGuessForms h40) clok_4 F (gK_so g40) tw_1247 tw_1248 tw_1249 tw_1250 tw_113 ⟨by decide, by decide, show (parseMethodDescriptor yX4_countGuessForms.desc).map (fun d => d.parameters.length) = some 0 by decide +kernel⟩ ⟨by decide, by decide⟩ (Nat.le_of_ble_eq_true rfl) dX8_holds_40 ?_
    obtain rfl := Option.some.inj h
    exact r_iret F dX8_holds_43
  replace h := ite_n h hc1
  refine r_look (off := 43) (tgt := 44) F (by decide) (by simp [Op.lookupswitch.offset, show ¬ (0 = l1) from fun z => hc0 z.symm, show ¬ (1 = l1) from fun z => hc1 z.symm]) (by decide) dX8_holds_1 ?_
  refine r_iconst F rfl dX8_holds_44 ?_
  obtain rfl := Option.some.inj h
  exact r_iret F dX8_holds_45
theorem tX8_against {l0 : Int} {M : Mem} {q : Int × Mem} (h : mX8_against l0 M = some q) : Ct 103 0 0 yX8_against cX8_against 1 (some FieldType.boolean) [vR l0] M (some (vI q.1)) q.2 := by
  unfold mX8_against at h
  refine Ct.of (by decide) (Nat.le_of_ble_eq_true rfl) ?_
  intro E p l e s m args below meth c F
  refine r_sub [0] (ls' := [(0, vR l0)]) rfl ?_
  refine r_aload_n (j := 0) F rfl rfl dX8_against_0 ?_
  refine r_aload_n (j := 0) F rfl rfl dX8_against_1 ?_
  replace h := bind_so h
  obtain ⟨a2, h2, h⟩ := h
  refine r_getT (t := 2) rfl clok_8 F (by decide) h2 tw_487 dX8_against_2 ?_
  replace h := bind_so h
  obtain ⟨_, g5, h⟩ := h
  replace h := bind_so h
  obtain ⟨q5, h5, h⟩ := h
  refine r_callV (as := []) (rv := (some (vI q5.1))) (kc := 0) (nc := 0) (tX4_formAgainst h5) clok_4 F (gK_so g5) tw_1255 tw_1256 tw_1257 tw_1258 tw_113 ⟨by decide, by decide, show (parseMethodDescriptor yX4_formAgainst.desc).map (fun d => d.parameters.length) = some 0 by decide +kernel⟩ ⟨by decide, by decide⟩ (Nat.le_of_ble_eq_true rfl) dX8_against_5 ?_
  replace h := bind_so h
  obtain ⟨_, g8, h⟩ := h
  replace h := bind_so h
  obtain ⟨q8, h8, h⟩ := h
  refine r_callV (as := [vI q5.1]) (rv := (some (vI q8.1))) (kc := 0) (nc := 0) (tX8_becomes h8) clok_8 F (gK_so g8) tw_1087 tw_1089 tw_46 tw_1090 tw_112 ⟨by decide, by decide, show (parseMethodDescriptor yX8_becomes.desc).map (fun d => d.parameters.length) = some 1 by decide +kernel⟩ ⟨by decide, by decide⟩ (Nat.le_of_ble_eq_true rfl) dX8_against_8 ?_
  replace h := bind_so h
  obtain ⟨z, hz, h⟩ := h
  obtain ⟨hz1, rfl⟩ := ite_so hz
  obtain rfl := Option.some.inj h
  exact r_zret hz1 F dX8_against_11
theorem tX8_many {l0 l1 : Int} {M : Mem} {q : Int × Mem} (h : mX8_many l0 l1 M = some q) : Ct 2 0 0 yX8_many cX8_many 2 (some FieldType.int) [vR l0, vI l1] M (some (vI q.1)) q.2 := by
  unfold mX8_many at h
  refine Ct.of (by decide) (Nat.le_of_ble_eq_true rfl) ?_
  intro E p l e s m args below meth c F
  refine r_sub [0, 1] (ls' := [(0, vR l0), (1, vI l1)]) rfl ?_
  refine r_iload_n (j := 1) F rfl rfl dX8_many_0 ?_
  by_cases hc0 : l1 = 0
  · replace h := ite_p h hc0
    refine r_tIn (off := 59) (tgt := 60) F (by omega) (by omega) (by rw [hc0]; rfl) (by decide) dX8_many_1 ?_
    refine r_aload_n (j := 0) F rfl rfl dX8_many_60 ?_
    replace h := bind_so h
    obtain ⟨a61, h61, h⟩ := h
    refine r_getT (t := 2) rfl clok_8 F (by decide) h61 tw_488 dX8_many_61 ?_
    replace h := bind_so h
    obtain ⟨a64, h64, h⟩ := h
    refine r_getT (t := 2) rfl clok_6 F (by decide) h64 tw_207 dX8_many_64 ?_
    replace h := bind_so h
    obtain ⟨a67, h67, h⟩ := h
    refine r_getT (t := 2) rfl clok_3 F (by decide) h67 tw_160 dX8_many_67 ?_
    refine r_iload_n (j := 1) F rfl rfl dX8_many_70 ?_
    replace h := bind_so h
    obtain ⟨a71, h71, h⟩ := h
    refine r_iald F h71 dX8_many_71 ?_
    obtain rfl := Option.some.inj h
    exact r_iret F dX8_many_72
  replace h := ite_n h hc0
  by_cases hc1 : l1 = 1
  · replace h := ite_p h hc1
    refine r_tIn (off := 59) (tgt := 60) F (by omega) (by omega) (by rw [hc1]; rfl) (by decide) dX8_many_1 ?_
    refine r_aload_n (j := 0) F rfl rfl dX8_many_60 ?_
    replace h := bind_so h
    obtain ⟨a61, h61, h⟩ := h
    refine r_getT (t := 2) rfl clok_8 F (by decide) h61 tw_488 dX8_many_61 ?_
    replace h := bind_so h
    obtain ⟨a64, h64, h⟩ := h
    refine r_getT (t := 2) rfl clok_6 F (by decide) h64 tw_207 dX8_many_64 ?_
    replace h := bind_so h
    obtain ⟨a67, h67, h⟩ := h
    refine r_getT (t := 2) rfl clok_3 F (by decide) h67 tw_160 dX8_many_67 ?_
    refine r_iload_n (j := 1) F rfl rfl dX8_many_70 ?_
    replace h := bind_so h
    obtain ⟨a71, h71, h⟩ := h
    refine r_iald F h71 dX8_many_71 ?_
    obtain rfl := Option.some.inj h
    exact r_iret F dX8_many_72
  replace h := ite_n h hc1
  by_cases hc2 : l1 = 2
  · replace h := ite_p h hc2
    refine r_tIn (off := 59) (tgt := 60) F (by omega) (by omega) (by rw [hc2]; rfl) (by decide) dX8_many_1 ?_
    refine r_aload_n (j := 0) F rfl rfl dX8_many_60 ?_
    replace h := bind_so h
    obtain ⟨a61, h61, h⟩ := h
    refine r_getT (t := 2) rfl clok_8 F (by decide) h61 tw_488 dX8_many_61 ?_
    replace h := bind_so h
    obtain ⟨a64, h64, h⟩ := h
    refine r_getT (t := 2) rfl clok_6 F (by decide) h64 tw_207 dX8_many_64 ?_
    replace h := bind_so h
    obtain ⟨a67, h67, h⟩ := h
    refine r_getT (t := 2) rfl clok_3 F (by decide) h67 tw_160 dX8_many_67 ?_
    refine r_iload_n (j := 1) F rfl rfl dX8_many_70 ?_
    replace h := bind_so h
    obtain ⟨a71, h71, h⟩ := h
    refine r_iald F h71 dX8_many_71 ?_
    obtain rfl := Option.some.inj h
    exact r_iret F dX8_many_72
  replace h := ite_n h hc2
  by_cases hc3 : l1 = 3
  · replace h := ite_p h hc3
    refine r_tIn (off := 72) (tgt := 73) F (by omega) (by omega) (by rw [hc3]; rfl) (by decide) dX8_many_1 ?_
    refine r_aload_n (j := 0) F rfl rfl dX8_many_73 ?_
    replace h := bind_so h
    obtain ⟨a74, h74, h⟩ := h
    refine r_getT (t := 2) rfl clok_8 F (by decide) h74 tw_488 dX8_many_74 ?_
    replace h := bind_so h
    obtain ⟨a77, h77, h⟩ := h
    refine r_getT (t := 2) rfl clok_6 F (by decide) h77 tw_207 dX8_many_77 ?_
    replace h := bind_so h
    obtain ⟨a80, h80, h⟩ := h
    refine r_getT (t := 0) rfl clok_3 F (by decide) h80 tw_180 dX8_many_80 ?_
    obtain rfl := Option.some.inj h
    exact r_iret F dX8_many_83
  replace h := ite_n h hc3
  by_cases hc4 : l1 = 4
  · replace h := ite_p h hc4
    refine r_tIn (off := 83) (tgt := 84) F (by omega) (by omega) (by rw [hc4]; rfl) (by decide) dX8_many_1 ?_
    refine r_aload_n (j := 0) F rfl rfl dX8_many_84 ?_
    replace h := bind_so h
    obtain ⟨a85, h85, h⟩ := h
    refine r_getT (t := 2) rfl clok_8 F (by decide) h85 tw_488 dX8_many_85 ?_
    replace h := bind_so h
    obtain ⟨a88, h88, h⟩ := h
    refine r_getT (t := 0) rfl clok_6 F (by decide) h88 tw_234 dX8_many_88 ?_
    obtain rfl := Option.some.inj h
    exact r_iret F dX8_many_91
  replace h := ite_n h hc4
  by_cases hc5 : l1 = 5
  · replace h := ite_p h hc5
    refine r_tIn (off := 91) (tgt := 92) F (by omega) (by omega) (by rw [hc5]; rfl) (by decide) dX8_many_1 ?_
    refine r_aload_n (j := 0) F rfl rfl dX8_many_92 ?_
    replace h := bind_so h
    obtain ⟨a93, h93, h⟩ := h
    refine r_getT (t := 2) rfl clok_8 F (by decide) h93 tw_488 dX8_many_93 ?_
    replace h := bind_so h
    obtain ⟨a96, h96, h⟩ := h
    refine r_getT (t := 0) rfl clok_6 F (by decide) h96 tw_239 dX8_many_96 ?_
    obtain rfl := Option.some.inj h
    exact r_iret F dX8_many_99
  replace h := ite_n h hc5
  by_cases hc6 : l1 = 6
  · replace h := ite_p h hc6
    refine r_tIn (off := 99) (tgt := 100) F (by omega) (by omega) (by rw [hc6]; rfl) (by decide) dX8_many_1 ?_
    refine r_aload_n (j := 0) F rfl rfl dX8_many_100 ?_
    replace h := bind_so h
    obtain ⟨a101, h101, h⟩ := h
    refine r_getT (t := 2) rfl clok_8 F (by decide) h101 tw_488 dX8_many_101 ?_
    replace h := bind_so h
    obtain ⟨a104, h104, h⟩ := h
    refine r_getT (t := 0) rfl clok_6 F (by decide) h104 tw_241 dX8_many_104 ?_
    obtain rfl := Option.some.inj h
    exact r_iret F dX8_many_107
  replace h := ite_n h hc6
  by_cases hc7 : l1 = 7
  · replace h := ite_p h hc7
    refine r_tIn (off := 107) (tgt := 108) F (by omega) (by omega) (by rw [hc7]; rfl) (by decide) dX8_many_1 ?_
    refine r_aload_n (j := 0) F rfl rfl dX8_many_108 ?_
    replace h := bind_so h
    obtain ⟨a109, h109, h⟩ := h
    refine r_getT (t := 2) rfl clok_8 F (by decide) h109 tw_488 dX8_many_109 ?_
    replace h := bind_so h
    obtain ⟨_, g112, h⟩ := h
    replace h := bind_so h
    obtain ⟨q112, h112, h⟩ := h
    refine r_callV (as := []) (rv := (some (vI q112.1))) (kc := 0) (nc := 0) (tX6_viewedStories h112) clok_6 F (gK_so g112) tw_1267 tw_1009 tw_1010 tw_1011 tw_114 ⟨by decide, by decide, show (parseMethodDescriptor yX6_viewedStories.desc).map (fun d => d.parameters.length) = some 0 by decide +kernel⟩ ⟨by decide, by decide⟩ (Nat.le_of_ble_eq_true rfl) dX8_many_112 ?_
    obtain rfl := Option.some.inj h
    exact r_iret F dX8_many_115
  replace h := ite_n h hc7
  by_cases hc8 : l1 = 8
  · replace h := ite_p h hc8
    refine r_tIn (off := 115) (tgt := 116) F (by omega) (by omega) (by rw [hc8]; rfl) (by decide) dX8_many_1 ?_
    refine r_aload_n (j := 0) F rfl rfl dX8_many_116 ?_
    replace h := bind_so h
    obtain ⟨a117, h117, h⟩ := h
    refine r_getT (t := 2) rfl clok_8 F (by decide) h117 tw_488 dX8_many_117 ?_
    replace h := bind_so h
    obtain ⟨a120, h120, h⟩ := h
    refine r_getT (t := 1) rfl clok_6 F (by decide) h120 tw_211 dX8_many_120 ?_
    replace h := bind_so h
    obtain ⟨q123, h123, h⟩ := h
    refine r_callS (as := [vL a120]) (rv := (some (vI q123.1))) (kc := 0) (nc := 0) (tJ13_bitCount_95d88 h123) F tw_1238 tw_1035 tw_1036 tw_129 ⟨by decide, by decide, show (parseMethodDescriptor yJ13_bitCount_95d88.desc).map (fun d => d.parameters.length) = some 1 by decide +kernel⟩ ⟨by decide, by decide⟩ (Nat.le_of_ble_eq_true rfl) dX8_many_123 ?_
    obtain rfl := Option.some.inj h
    exact r_iret F dX8_many_126
  replace h := ite_n h hc8
  by_cases hc9 : l1 = 9
  · replace h := ite_p h hc9
    refine r_tIn (off := 126) (tgt := 127) F (by omega) (by omega) (by rw [hc9]; rfl) (by decide) dX8_many_1 ?_
    refine r_aload_n (j := 0) F rfl rfl dX8_many_127 ?_
    replace h := bind_so h
    obtain ⟨a128, h128, h⟩ := h
    refine r_getT (t := 2) rfl clok_8 F (by decide) h128 tw_488 dX8_many_128 ?_
    replace h := bind_so h
    obtain ⟨a131, h131, h⟩ := h
    refine r_getT (t := 2) rfl clok_6 F (by decide) h131 tw_236 dX8_many_131 ?_
    refine r_ifnonnull (tgt := 141) F (by decide) dX8_many_134 (fun hc => ?_) (fun hc => ?_)
    · replace h := ite_n h hc
      refine r_aload_n (j := 0) F rfl rfl dX8_many_141 ?_
      replace h := bind_so h
      obtain ⟨a142, h142, h⟩ := h
      refine r_getT (t := 2) rfl clok_8 F (by decide) h142 tw_488 dX8_many_142 ?_
      replace h := bind_so h
      obtain ⟨a145, h145, h⟩ := h
      refine r_getT (t := 2) rfl clok_6 F (by decide) h145 tw_236 dX8_many_145 ?_
      replace h := bind_so h
      obtain ⟨a148, h148, h⟩ := h
      refine r_getT (t := 0) rfl clok_5 F (by decide) h148 tw_433 dX8_many_148 ?_
      obtain rfl := Option.some.inj h
      exact r_iret F dX8_many_151
    · replace h := ite_p h hc
      refine r_iconst F rfl dX8_many_137 ?_
      refine r_goto (tgt := 151) F (by decide) dX8_many_138 ?_
      obtain rfl := Option.some.inj h
      exact r_iret F dX8_many_151
  replace h := ite_n h hc9
  by_cases hc10 : l1 = 10
  · replace h := ite_p h hc10
    refine r_tIn (off := 151) (tgt := 152) F (by omega) (by omega) (by rw [hc10]; rfl) (by decide) dX8_many_1 ?_
    refine r_aload_n (j := 0) F rfl rfl dX8_many_152 ?_
    replace h := bind_so h
    obtain ⟨a153, h153, h⟩ := h
    refine r_getT (t := 2) rfl clok_8 F (by decide) h153 tw_488 dX8_many_153 ?_
    replace h := bind_so h
    obtain ⟨a156, h156, h⟩ := h
    refine r_getT (t := 0) rfl clok_6 F (by decide) h156 tw_246 dX8_many_156 ?_
    obtain rfl := Option.some.inj h
    exact r_iret F dX8_many_159
  replace h := ite_n h hc10
  refine r_tOut (tgt := 160) F (by omega) (by decide) dX8_many_1 ?_
  refine r_bipush F rfl (by decide) dX8_many_160 ?_
  obtain rfl := Option.some.inj h
  exact r_iret F dX8_many_162
theorem tX8_image {l0 l1 : Int} {M : Mem} {q : Int × Mem} (h : mX8_image l0 l1 M = some q) : Ct 3 0 0 yX8_image cX8_image 2 (some FieldType.boolean) [vR l0, vI l1] M (some (vI q.1)) q.2 := by
  unfold mX8_image at h
  refine Ct.of (by decide) (Nat.le_of_ble_eq_true rfl) ?_
  intro E p l e s m args below meth c F
  refine r_sub [0, 1] (ls' := [(0, vR l0), (1, vI l1)]) rfl ?_
  refine r_iload_n (j := 1) F rfl rfl dX8_image_0 ?_
  refine r_if_lt (tgt := 9) F (by decide) dX8_image_1 (fun hc => ?_) (fun hc => ?_)
  · replace h := ite_p h hc
    refine r_iconst F rfl dX8_image_9 ?_
    obtain rfl := Option.some.inj h
    exact r_zret (Or.inl rfl) F dX8_image_10
  · replace h := ite_n h hc
    refine r_iload_n (j := 1) F rfl rfl dX8_image_4 ?_
    refine r_iconst F rfl dX8_image_5 ?_
    refine r_icmp_lt (tgt := 11) F (by decide) dX8_image_6 (fun hc => ?_) (fun hc => ?_)
    · replace h := ite_p h hc
      refine r_aload_n (j := 0) F rfl rfl dX8_image_11 ?_
      replace h := bind_so h
      obtain ⟨a12, h12, h⟩ := h
      refine r_getT (t := 2) rfl clok_8 F (by decide) h12 tw_490 dX8_image_12 ?_
      refine r_iload_n (j := 1) F rfl rfl dX8_image_15 ?_
      replace h := bind_so h
      obtain ⟨a16, h16, h⟩ := h
      refine r_aald15 F h16 dX8_image_16 ?_
      refine r_aload_n (j := 0) F rfl rfl dX8_image_17 ?_
      replace h := bind_so h
      obtain ⟨a18, h18, h⟩ := h
      refine r_getT (t := 2) rfl clok_8 F (by decide) h18 tw_488 dX8_image_18 ?_
      replace h := bind_so h
      obtain ⟨_, g21, h⟩ := h
      replace h := bind_so h
      obtain ⟨q21, h21, h⟩ := h
      refine r_callV (as := [vR a18]) (rv := none) (kc := 0) (nc := 0) (tX6_copy h21) clok_6 F (gK_so g21) tw_1272 tw_1273 tw_1274 tw_1275 tw_114 ⟨by decide, by decide, show (parseMethodDescriptor yX6_copy.desc).map (fun d => d.parameters.length) = some 1 by decide +kernel⟩ ⟨by decide, by decide⟩ (Nat.le_of_ble_eq_true rfl) dX8_image_21 ?_
      refine r_aload_n (j := 0) F rfl rfl dX8_image_24 ?_
      replace h := bind_so h
      obtain ⟨a25, h25, h⟩ := h
      refine r_getT (t := 2) rfl clok_8 F (by decide) h25 tw_491 dX8_image_25 ?_
      refine r_iload_n (j := 1) F rfl rfl dX8_image_28 ?_
      refine r_iconst F rfl dX8_image_29 ?_
      replace h := bind_so h
      obtain ⟨M30, h30, h⟩ := h
      refine r_zast F h30 dX8_image_30 ?_
      refine r_iconst F rfl dX8_image_31 ?_
      obtain rfl := Option.some.inj h
      exact r_zret (Or.inr rfl) F dX8_image_32
    · replace h := ite_n h hc
      refine r_iconst F rfl dX8_image_9 ?_
      obtain rfl := Option.some.inj h
      exact r_zret (Or.inl rfl) F dX8_image_10
theorem tX8_again {l0 l1 : Int} {M : Mem} {q : Int × Mem} (h : mX8_again l0 l1 M = some q) : Ct 3 0 0 yX8_again cX8_again 2 (some FieldType.boolean) [vR l0, vI l1] M (some (vI q.1)) q.2 := by
  unfold mX8_again at h
  refine Ct.of (by decide) (Nat.le_of_ble_eq_true rfl) ?_
  intro E p l e s m args below meth c F
  refine r_sub [0, 1] (ls' := [(0, vR l0), (1, vI l1)]) rfl ?_
  refine r_iload_n (j := 1) F rfl rfl dX8_again_0 ?_
  refine r_if_lt (tgt := 18) F (by decide) dX8_again_1 (fun hc => ?_) (fun hc => ?_)
  · replace h := ite_p h hc
    refine r_iconst F rfl dX8_again_18 ?_
    obtain rfl := Option.some.inj h
    exact r_zret (Or.inl rfl) F dX8_again_19
  · replace h := ite_n h hc
    refine r_iload_n (j := 1) F rfl rfl dX8_again_4 ?_
    refine r_iconst F rfl dX8_again_5 ?_
    refine r_icmp_ge (tgt := 18) F (by decide) dX8_again_6 (fun hc => ?_) (fun hc => ?_)
    · replace h := ite_p h hc
      refine r_iconst F rfl dX8_again_18 ?_
      obtain rfl := Option.some.inj h
      exact r_zret (Or.inl rfl) F dX8_again_19
    · replace h := ite_n h hc
      refine r_aload_n (j := 0) F rfl rfl dX8_again_9 ?_
      replace h := bind_so h
      obtain ⟨a10, h10, h⟩ := h
      refine r_getT (t := 2) rfl clok_8 F (by decide) h10 tw_491 dX8_again_10 ?_
      refine r_iload_n (j := 1) F rfl rfl dX8_again_13 ?_
      replace h := bind_so h
      obtain ⟨a14, h14, h⟩ := h
      refine r_zald F h14 dX8_again_14 ?_
      refine r_if_ne (tgt := 20) F (by decide) dX8_again_15 (fun hc => ?_) (fun hc => ?_)
      · replace h := ite_n h hc
        refine r_aload_n (j := 0) F rfl rfl dX8_again_20 ?_
        replace h := bind_so h
        obtain ⟨a21, h21, h⟩ := h
        refine r_getT (t := 2) rfl clok_8 F (by decide) h21 tw_488 dX8_again_21 ?_
        refine r_aload_n (j := 0) F rfl rfl dX8_again_24 ?_
        replace h := bind_so h
        obtain ⟨a25, h25, h⟩ := h
        refine r_getT (t := 2) rfl clok_8 F (by decide) h25 tw_490 dX8_again_25 ?_
        refine r_iload_n (j := 1) F rfl rfl dX8_again_28 ?_
        replace h := bind_so h
        obtain ⟨a29, h29, h⟩ := h
        refine r_aald15 F h29 dX8_again_29 ?_
        replace h := bind_so h
        obtain ⟨_, g30, h⟩ := h
        replace h := bind_so h
        obtain ⟨q30, h30, h⟩ := h
        refine r_callV (as := [vR a29]) (rv := none) (kc := 0) (nc := 0) (tX6_copy h30) clok_6 F (gK_so g30) tw_1272 tw_1273 tw_1274 tw_1275 tw_114 ⟨by decide, by decide, show (parseMethodDescriptor yX6_copy.desc).map (fun d => d.parameters.length) = some 1 by decide +kernel⟩ ⟨by decide, by decide⟩ (Nat.le_of_ble_eq_true rfl) dX8_again_30 ?_
        refine r_aload_n (j := 0) F rfl rfl dX8_again_33 ?_
        replace h := bind_so h
        obtain ⟨a34, h34, h⟩ := h
        refine r_getT (t := 2) rfl clok_8 F (by decide) h34 tw_487 dX8_again_34 ?_
        replace h := bind_so h
        obtain ⟨_, g37, h⟩ := h
        replace h := bind_so h
        obtain ⟨q37, h37, h⟩ := h
        refine r_callV (as := []) (rv := none) (kc := 0) (nc := 0) (tX4_forget h37) clok_4 F (gK_so g37) tw_522 tw_523 tw_524 tw_525 tw_113 ⟨by decide, by decide, show (parseMethodDescriptor yX4_forget.desc).map (fun d => d.parameters.length) = some 0 by decide +kernel⟩ ⟨by decide, by decide⟩ (Nat.le_of_ble_eq_true rfl) dX8_again_37 ?_
        refine r_iconst F rfl dX8_again_40 ?_
        obtain rfl := Option.some.inj h
        exact r_zret (Or.inr rfl) F dX8_again_41
      · replace h := ite_p h hc
        refine r_iconst F rfl dX8_again_18 ?_
        obtain rfl := Option.some.inj h
        exact r_zret (Or.inl rfl) F dX8_again_19
theorem tbX9_init_365 {E : En} {p : Program} {l : Launch} {e : Env} {s : State} {m : MethodId} {args : Array Value} {below : List Frame} {meth : Method} {c : Code} {q : Int × Mem} {k365 : Int → Int → Mem → Option (Int × Mem)} (hk365 : ∀ {l0 l1 : Int} {M : Mem}, k365 l0 l1 M = some q → G E p l e (rmOf 1 43 144084) s m args below meth c 2 (QZ E below args s (rmOf 1 43 144084) none q.2) 0 0 M 365 [(0, vR l0), (1, vI l1)] []) {l0 l1 : Int} {M : Mem} (F : Fx E p s m args meth c cX9_init 2 yX9_init.cls none yX9_init.name) (h : bX9_init_365 k365 l0 l1 M = some q) : G E p l e (rmOf 1 43 144084) s m args below meth c 2 (QZ E below args s (rmOf 1 43 144084) none q.2) 0 0 M 365 [(0, vR l0), (1, vI l1)] [] := by
  unfold bX9_init_365 at h
  refine r_iload_n (j := 1) F rfl rfl dX9_init_365 ?_
  refine r_iconst F rfl dX9_init_366 ?_
  refine r_icmp_ge (tgt := 383) F (by decide) dX9_init_367 (fun hc => ?_) (fun hc => ?_)
  · replace h := ite_p h hc
    obtain rfl := Option.some.inj h
    exact r_vret F dX9_init_383
  · replace h := ite_n h hc
    refine r_aload_n (j := 0) F rfl rfl dX9_init_370 ?_
    replace h := bind_so h
    obtain ⟨a371, h371, h⟩ := h
    refine r_getT (t := 2) rfl clok_9 F (by decide) h371 tw_1304 dX9_init_371 ?_
    refine r_iload_n (j := 1) F rfl rfl dX9_init_374 ?_
    refine r_iconst F rfl dX9_init_375 ?_
    replace h := bind_so h
    obtain ⟨M376, h376, h⟩ := h
    refine r_iast F h376 dX9_init_376 ?_
    refine r_iinc (j := 1) (ls' := [(1, vI (wI (l1 + 1))), (0, vR l0)]) F rfl (by decide) rfl dX9_init_377 ?_
    refine r_goto (tgt := 365) F (by decide) dX9_init_380 ?_
    refine r_sub [1, 0] (ls' := [(0, vR l0), (1, vI (wI (l1 + 1)))]) rfl ?_
    refine r_wide (k' := 0) (n' := 0) (by decide) (by decide) ?_
    exact hk365 h
theorem tX9_init_365 {E : En} {p : Program} {l : Launch} {e : Env} {s : State} {m : MethodId} {args : Array Value} {below : List Frame} {meth : Method} {c : Code} {q : Int × Mem} (F : Fx E p s m args meth c cX9_init 2 yX9_init.cls none yX9_init.name) : ∀ {fu : Nat} {l0 l1 : Int} {M : Mem}, mX9_init_365 fu l0 l1 M = some q → G E p l e (rmOf 1 43 144084) s m args below meth c 2 (QZ E below args s (rmOf 1 43 144084) none q.2) 0 0 M 365 [(0, vR l0), (1, vI l1)] [] := by
  intro fu
  induction fu with
  | zero => intro l0 l1 M h; exact nomatch (show (none : Option (Int × Mem)) = some q from h)
  | succ fu ih => intro l0 l1 M h; exact tbX9_init_365  (fun h => ih h) F h
theorem tX9_init {l0 : Int} {M : Mem} {q : Int × Mem} (h : mX9_init l0 M = some q) : Ct 1 43 144084 yX9_init cX9_init 2 none [vR l0] M none q.2 := by
  unfold mX9_init at h
  refine Ct.of (by decide) (Nat.le_of_ble_eq_true rfl) ?_
  intro E p l e s m args below meth c F
  refine r_sub [0] (ls' := [(0, vR l0)]) rfl ?_
  refine r_aload_n (j := 0) F rfl rfl dX9_init_0 ?_
  replace h := bind_so h
  obtain ⟨_, h1, h⟩ := h
  refine r_objK (gK_so h1) (by decide) F tw_1295 tw_136 tw_137 ⟨by decide, by decide⟩ (Nat.le_of_ble_eq_true rfl) dX9_init_1 ?_
  refine r_aload_n (j := 0) F rfl rfl dX9_init_4 ?_
  refine r_sipush F rfl (by decide) dX9_init_5 ?_
  replace h := bind_so h
  obtain ⟨q8, h8, h⟩ := h
  refine r_newaK12 (B := 1600) (by decide) F h8 tw_849 dX9_init_8 (by decide) ?_
  replace h := bind_so h
  obtain ⟨M10, h10, h⟩ := h
  refine r_putF clok_9 F (by decide) rfl rfl rfl (by decide) (by decide) h10 tw_1298 dX9_init_10 ?_
  refine r_aload_n (j := 0) F rfl rfl dX9_init_13 ?_
  refine r_iconst F rfl dX9_init_14 ?_
  replace h := bind_so h
  obtain ⟨q15, h15, h⟩ := h
  refine r_newaK10 (B := 4) (by decide) F h15 tw_203 dX9_init_15 (by decide) ?_
  replace h := bind_so h
  obtain ⟨M17, h17, h⟩ := h
  refine r_putF clok_9 F (by decide) rfl rfl rfl (by decide) (by decide) h17 tw_1299 dX9_init_17 ?_
  refine r_aload_n (j := 0) F rfl rfl dX9_init_20 ?_
  refine r_iconst F rfl dX9_init_21 ?_
  replace h := bind_so h
  obtain ⟨q22, h22, h⟩ := h
  refine r_newaK10 (B := 4) (by decide) F h22 tw_203 dX9_init_22 (by decide) ?_
  replace h := bind_so h
  obtain ⟨M24, h24, h⟩ := h
  refine r_putF clok_9 F (by decide) rfl rfl rfl (by decide) (by decide) h24 tw_1300 dX9_init_24 ?_
  refine r_aload_n (j := 0) F rfl rfl dX9_init_27 ?_
  refine r_iconst F rfl dX9_init_28 ?_
  replace h := bind_so h
  obtain ⟨q29, h29, h⟩ := h
  refine r_newaK10 (B := 4) (by decide) F h29 tw_203 dX9_init_29 (by decide) ?_
  replace h := bind_so h
  obtain ⟨M31, h31, h⟩ := h
  refine r_putF clok_9 F (by decide) rfl rfl rfl (by decide) (by decide) h31 tw_1301 dX9_init_31 ?_
  refine r_aload_n (j := 0) F rfl rfl dX9_init_34 ?_
  refine r_iconst F rfl dX9_init_35 ?_
  replace h := bind_so h
  obtain ⟨q36, h36, h⟩ := h
  refine r_newaK10 (B := 4) (by decide) F h36 tw_203 dX9_init_36 (by decide) ?_
  replace h := bind_so h
  obtain ⟨M38, h38, h⟩ := h
  refine r_putF clok_9 F (by decide) rfl rfl rfl (by decide) (by decide) h38 tw_1302 dX9_init_38 ?_
  refine r_aload_n (j := 0) F rfl rfl dX9_init_41 ?_
  refine r_iconst F rfl dX9_init_42 ?_
  replace h := bind_so h
  obtain ⟨q43, h43, h⟩ := h
  refine r_newaK10 (B := 4) (by decide) F h43 tw_203 dX9_init_43 (by decide) ?_
  replace h := bind_so h
  obtain ⟨M45, h45, h⟩ := h
  refine r_putF clok_9 F (by decide) rfl rfl rfl (by decide) (by decide) h45 tw_1303 dX9_init_45 ?_
  refine r_aload_n (j := 0) F rfl rfl dX9_init_48 ?_
  refine r_bipush F rfl (by decide) dX9_init_49 ?_
  replace h := bind_so h
  obtain ⟨q51, h51, h⟩ := h
  refine r_newaK10 (B := 12) (by decide) F h51 tw_203 dX9_init_51 (by decide) ?_
  replace h := bind_so h
  obtain ⟨M53, h53, h⟩ := h
  refine r_putF clok_9 F (by decide) rfl rfl rfl (by decide) (by decide) h53 tw_1304 dX9_init_53 ?_
  refine r_aload_n (j := 0) F rfl rfl dX9_init_56 ?_
  refine r_iconst F rfl dX9_init_57 ?_
  replace h := bind_so h
  obtain ⟨q58, h58, h⟩ := h
  refine r_newaK10 (B := 4) (by decide) F h58 tw_203 dX9_init_58 (by decide) ?_
  replace h := bind_so h
  obtain ⟨M60, h60, h⟩ := h
  refine r_putF clok_9 F (by decide) rfl rfl rfl (by decide) (by decide) h60 tw_1305 dX9_init_60 ?_
  refine r_aload_n (j := 0) F rfl rfl dX9_init_63 ?_
  refine r_bipush F rfl (by decide) dX9_init_64 ?_
  replace h := bind_so h
  obtain ⟨q66, h66, h⟩ := h
  refine r_newaK10 (B := 16) (by decide) F h66 tw_203 dX9_init_66 (by decide) ?_
  replace h := bind_so h
  obtain ⟨M68, h68, h⟩ := h
  refine r_putF clok_9 F (by decide) rfl rfl rfl (by decide) (by decide) h68 tw_1306 dX9_init_68 ?_
  refine r_aload_n (j := 0) F rfl rfl dX9_init_71 ?_
  refine r_bipush F rfl (by decide) dX9_init_72 ?_
  replace h := bind_so h
  obtain ⟨q74, h74, h⟩ := h
  refine r_newaK10 (B := 16) (by decide) F h74 tw_203 dX9_init_74 (by decide) ?_
  replace h := bind_so h
  obtain ⟨M76, h76, h⟩ := h
  refine r_putF clok_9 F (by decide) rfl rfl rfl (by decide) (by decide) h76 tw_1307 dX9_init_76 ?_
  refine r_aload_n (j := 0) F rfl rfl dX9_init_79 ?_
  refine r_sipush F rfl (by decide) dX9_init_80 ?_
  replace h := bind_so h
  obtain ⟨q83, h83, h⟩ := h
  refine r_newaK11 (B := 144) (by decide) F h83 tw_287 dX9_init_83 (by decide) ?_
  replace h := bind_so h
  obtain ⟨M85, h85, h⟩ := h
  refine r_putF clok_9 F (by decide) rfl rfl rfl (by decide) (by decide) h85 tw_1308 dX9_init_85 ?_
  refine r_aload_n (j := 0) F rfl rfl dX9_init_88 ?_
  refine r_iconst F rfl dX9_init_89 ?_
  replace h := bind_so h
  obtain ⟨q90, h90, h⟩ := h
  refine r_newaK10 (B := 4) (by decide) F h90 tw_203 dX9_init_90 (by decide) ?_
  replace h := bind_so h
  obtain ⟨M92, h92, h⟩ := h
  refine r_putF clok_9 F (by decide) rfl rfl rfl (by decide) (by decide) h92 tw_1309 dX9_init_92 ?_
  refine r_aload_n (j := 0) F rfl rfl dX9_init_95 ?_
  refine r_bipush F rfl (by decide) dX9_init_96 ?_
  replace h := bind_so h
  obtain ⟨q98, h98, h⟩ := h
  refine r_newaK10 (B := 32) (by decide) F h98 tw_203 dX9_init_98 (by decide) ?_
  replace h := bind_so h
  obtain ⟨M100, h100, h⟩ := h
  refine r_putF clok_9 F (by decide) rfl rfl rfl (by decide) (by decide) h100 tw_1310 dX9_init_100 ?_
  refine r_aload_n (j := 0) F rfl rfl dX9_init_103 ?_
  refine r_bipush F rfl (by decide) dX9_init_104 ?_
  replace h := bind_so h
  obtain ⟨q106, h106, h⟩ := h
  refine r_newaK10 (B := 32) (by decide) F h106 tw_203 dX9_init_106 (by decide) ?_
  replace h := bind_so h
  obtain ⟨M108, h108, h⟩ := h
  refine r_putF clok_9 F (by decide) rfl rfl rfl (by decide) (by decide) h108 tw_1311 dX9_init_108 ?_
  refine r_aload_n (j := 0) F rfl rfl dX9_init_111 ?_
  refine r_bipush F rfl (by decide) dX9_init_112 ?_
  replace h := bind_so h
  obtain ⟨q114, h114, h⟩ := h
  refine r_newaK10 (B := 36) (by decide) F h114 tw_203 dX9_init_114 (by decide) ?_
  replace h := bind_so h
  obtain ⟨M116, h116, h⟩ := h
  refine r_putF clok_9 F (by decide) rfl rfl rfl (by decide) (by decide) h116 tw_1312 dX9_init_116 ?_
  refine r_aload_n (j := 0) F rfl rfl dX9_init_119 ?_
  refine r_sipush F rfl (by decide) dX9_init_120 ?_
  replace h := bind_so h
  obtain ⟨q123, h123, h⟩ := h
  refine r_newaK10 (B := 1440) (by decide) F h123 tw_203 dX9_init_123 (by decide) ?_
  replace h := bind_so h
  obtain ⟨M125, h125, h⟩ := h
  refine r_putF clok_9 F (by decide) rfl rfl rfl (by decide) (by decide) h125 tw_1313 dX9_init_125 ?_
  refine r_aload_n (j := 0) F rfl rfl dX9_init_128 ?_
  refine r_sipush F rfl (by decide) dX9_init_129 ?_
  replace h := bind_so h
  obtain ⟨q132, h132, h⟩ := h
  refine r_newaK10 (B := 1440) (by decide) F h132 tw_203 dX9_init_132 (by decide) ?_
  replace h := bind_so h
  obtain ⟨M134, h134, h⟩ := h
  refine r_putF clok_9 F (by decide) rfl rfl rfl (by decide) (by decide) h134 tw_1314 dX9_init_134 ?_
  refine r_aload_n (j := 0) F rfl rfl dX9_init_137 ?_
  refine r_sipush F rfl (by decide) dX9_init_138 ?_
  replace h := bind_so h
  obtain ⟨q141, h141, h⟩ := h
  refine r_newaK10 (B := 1440) (by decide) F h141 tw_203 dX9_init_141 (by decide) ?_
  replace h := bind_so h
  obtain ⟨M143, h143, h⟩ := h
  refine r_putF clok_9 F (by decide) rfl rfl rfl (by decide) (by decide) h143 tw_1315 dX9_init_143 ?_
  refine r_aload_n (j := 0) F rfl rfl dX9_init_146 ?_
  refine r_sipush F rfl (by decide) dX9_init_147 ?_
  replace h := bind_so h
  obtain ⟨q150, h150, h⟩ := h
  refine r_newaK10 (B := 1440) (by decide) F h150 tw_203 dX9_init_150 (by decide) ?_
  replace h := bind_so h
  obtain ⟨M152, h152, h⟩ := h
  refine r_putF clok_9 F (by decide) rfl rfl rfl (by decide) (by decide) h152 tw_1316 dX9_init_152 ?_
  refine r_aload_n (j := 0) F rfl rfl dX9_init_155 ?_
  refine r_iconst F rfl dX9_init_156 ?_
  replace h := bind_so h
  obtain ⟨q157, h157, h⟩ := h
  refine r_newaK10 (B := 4) (by decide) F h157 tw_203 dX9_init_157 (by decide) ?_
  replace h := bind_so h
  obtain ⟨M159, h159, h⟩ := h
  refine r_putF clok_9 F (by decide) rfl rfl rfl (by decide) (by decide) h159 tw_1317 dX9_init_159 ?_
  refine r_aload_n (j := 0) F rfl rfl dX9_init_162 ?_
  refine r_sipush F rfl (by decide) dX9_init_163 ?_
  replace h := bind_so h
  obtain ⟨q166, h166, h⟩ := h
  refine r_newaK10 (B := 160) (by decide) F h166 tw_203 dX9_init_166 (by decide) ?_
  replace h := bind_so h
  obtain ⟨M168, h168, h⟩ := h
  refine r_putF clok_9 F (by decide) rfl rfl rfl (by decide) (by decide) h168 tw_1318 dX9_init_168 ?_
  refine r_aload_n (j := 0) F rfl rfl dX9_init_171 ?_
  refine r_sipush F rfl (by decide) dX9_init_172 ?_
  replace h := bind_so h
  obtain ⟨q175, h175, h⟩ := h
  refine r_newaK10 (B := 160) (by decide) F h175 tw_203 dX9_init_175 (by decide) ?_
  replace h := bind_so h
  obtain ⟨M177, h177, h⟩ := h
  refine r_putF clok_9 F (by decide) rfl rfl rfl (by decide) (by decide) h177 tw_1319 dX9_init_177 ?_
  refine r_aload_n (j := 0) F rfl rfl dX9_init_180 ?_
  refine r_sipush F rfl (by decide) dX9_init_181 ?_
  replace h := bind_so h
  obtain ⟨q184, h184, h⟩ := h
  refine r_newaK10 (B := 160) (by decide) F h184 tw_203 dX9_init_184 (by decide) ?_
  replace h := bind_so h
  obtain ⟨M186, h186, h⟩ := h
  refine r_putF clok_9 F (by decide) rfl rfl rfl (by decide) (by decide) h186 tw_1320 dX9_init_186 ?_
  refine r_aload_n (j := 0) F rfl rfl dX9_init_189 ?_
  refine r_sipush F rfl (by decide) dX9_init_190 ?_
  replace h := bind_so h
  obtain ⟨q193, h193, h⟩ := h
  refine r_newaK11 (B := 576) (by decide) F h193 tw_287 dX9_init_193 (by decide) ?_
  replace h := bind_so h
  obtain ⟨M195, h195, h⟩ := h
  refine r_putF clok_9 F (by decide) rfl rfl rfl (by decide) (by decide) h195 tw_1321 dX9_init_195 ?_
  refine r_aload_n (j := 0) F rfl rfl dX9_init_198 ?_
  refine r_bipush F rfl (by decide) dX9_init_199 ?_
  replace h := bind_so h
  obtain ⟨q201, h201, h⟩ := h
  refine r_newaK11 (B := 16) (by decide) F h201 tw_287 dX9_init_201 (by decide) ?_
  replace h := bind_so h
  obtain ⟨M203, h203, h⟩ := h
  refine r_putF clok_9 F (by decide) rfl rfl rfl (by decide) (by decide) h203 tw_1322 dX9_init_203 ?_
  refine r_aload_n (j := 0) F rfl rfl dX9_init_206 ?_
  refine r_iconst F rfl dX9_init_207 ?_
  replace h := bind_so h
  obtain ⟨q208, h208, h⟩ := h
  refine r_newaK10 (B := 3) (by decide) F h208 tw_203 dX9_init_208 (by decide) ?_
  replace h := bind_so h
  obtain ⟨M210, h210, h⟩ := h
  refine r_putF clok_9 F (by decide) rfl rfl rfl (by decide) (by decide) h210 tw_1323 dX9_init_210 ?_
  refine r_aload_n (j := 0) F rfl rfl dX9_init_213 ?_
  refine r_iconst F rfl dX9_init_214 ?_
  replace h := bind_so h
  obtain ⟨q215, h215, h⟩ := h
  refine r_newaK10 (B := 5) (by decide) F h215 tw_203 dX9_init_215 (by decide) ?_
  replace h := bind_so h
  obtain ⟨M217, h217, h⟩ := h
  refine r_putF clok_9 F (by decide) rfl rfl rfl (by decide) (by decide) h217 tw_1324 dX9_init_217 ?_
  refine r_aload_n (j := 0) F rfl rfl dX9_init_220 ?_
  refine r_bipush F rfl (by decide) dX9_init_221 ?_
  replace h := bind_so h
  obtain ⟨q223, h223, h⟩ := h
  refine r_newaK11 (B := 36) (by decide) F h223 tw_287 dX9_init_223 (by decide) ?_
  replace h := bind_so h
  obtain ⟨M225, h225, h⟩ := h
  refine r_putF clok_9 F (by decide) rfl rfl rfl (by decide) (by decide) h225 tw_1325 dX9_init_225 ?_
  refine r_aload_n (j := 0) F rfl rfl dX9_init_228 ?_
  refine r_sipush F rfl (by decide) dX9_init_229 ?_
  replace h := bind_so h
  obtain ⟨q232, h232, h⟩ := h
  refine r_newaK10 (B := 420) (by decide) F h232 tw_203 dX9_init_232 (by decide) ?_
  replace h := bind_so h
  obtain ⟨M234, h234, h⟩ := h
  refine r_putF clok_9 F (by decide) rfl rfl rfl (by decide) (by decide) h234 tw_1336 dX9_init_234 ?_
  refine r_aload_n (j := 0) F rfl rfl dX9_init_237 ?_
  refine r_bipush F rfl (by decide) dX9_init_238 ?_
  replace h := bind_so h
  obtain ⟨q240, h240, h⟩ := h
  refine r_newaK10 (B := 41) (by decide) F h240 tw_203 dX9_init_240 (by decide) ?_
  replace h := bind_so h
  obtain ⟨M242, h242, h⟩ := h
  refine r_putF clok_9 F (by decide) rfl rfl rfl (by decide) (by decide) h242 tw_1338 dX9_init_242 ?_
  refine r_aload_n (j := 0) F rfl rfl dX9_init_245 ?_
  refine r_bipush F rfl (by decide) dX9_init_246 ?_
  replace h := bind_so h
  obtain ⟨q248, h248, h⟩ := h
  refine r_newaK10 (B := 41) (by decide) F h248 tw_203 dX9_init_248 (by decide) ?_
  replace h := bind_so h
  obtain ⟨M250, h250, h⟩ := h
  refine r_putF clok_9 F (by decide) rfl rfl rfl (by decide) (by decide) h250 tw_1339 dX9_init_250 ?_
  refine r_aload_n (j := 0) F rfl rfl dX9_init_253 ?_
  refine r_bipush F rfl (by decide) dX9_init_254 ?_
  replace h := bind_so h
  obtain ⟨q256, h256, h⟩ := h
  refine r_newaK10 (B := 41) (by decide) F h256 tw_203 dX9_init_256 (by decide) ?_
  replace h := bind_so h
  obtain ⟨M258, h258, h⟩ := h
  refine r_putF clok_9 F (by decide) rfl rfl rfl (by decide) (by decide) h258 tw_1340 dX9_init_258 ?_
  refine r_aload_n (j := 0) F rfl rfl dX9_init_261 ?_
  refine r_bipush F rfl (by decide) dX9_init_262 ?_
  replace h := bind_so h
  obtain ⟨q264, h264, h⟩ := h
  refine r_newaK10 (B := 41) (by decide) F h264 tw_203 dX9_init_264 (by decide) ?_
  replace h := bind_so h
  obtain ⟨M266, h266, h⟩ := h
  refine r_putF clok_9 F (by decide) rfl rfl rfl (by decide) (by decide) h266 tw_1341 dX9_init_266 ?_
  refine r_aload_n (j := 0) F rfl rfl dX9_init_269 ?_
  refine r_sipush F rfl (by decide) dX9_init_270 ?_
  replace h := bind_so h
  obtain ⟨q273, h273, h⟩ := h
  refine r_newaK11 (B := 3321) (by decide) F h273 tw_287 dX9_init_273 (by decide) ?_
  replace h := bind_so h
  obtain ⟨M275, h275, h⟩ := h
  refine r_putF clok_9 F (by decide) rfl rfl rfl (by decide) (by decide) h275 tw_1342 dX9_init_275 ?_
  refine r_aload_n (j := 0) F rfl rfl dX9_init_278 ?_
  refine r_bipush F rfl (by decide) dX9_init_279 ?_
  replace h := bind_so h
  obtain ⟨q281, h281, h⟩ := h
  refine r_newaK11 (B := 9) (by decide) F h281 tw_287 dX9_init_281 (by decide) ?_
  replace h := bind_so h
  obtain ⟨M283, h283, h⟩ := h
  refine r_putF clok_9 F (by decide) rfl rfl rfl (by decide) (by decide) h283 tw_1344 dX9_init_283 ?_
  refine r_aload_n (j := 0) F rfl rfl dX9_init_286 ?_
  refine r_iconst F rfl dX9_init_287 ?_
  replace h := bind_so h
  obtain ⟨q288, h288, h⟩ := h
  refine r_newaK10 (B := 3) (by decide) F h288 tw_203 dX9_init_288 (by decide) ?_
  replace h := bind_so h
  obtain ⟨M290, h290, h⟩ := h
  refine r_putF clok_9 F (by decide) rfl rfl rfl (by decide) (by decide) h290 tw_1348 dX9_init_290 ?_
  refine r_aload_n (j := 0) F rfl rfl dX9_init_293 ?_
  refine r_sipush F rfl (by decide) dX9_init_294 ?_
  replace h := bind_so h
  obtain ⟨q297, h297, h⟩ := h
  refine r_newaK11 (B := 256) (by decide) F h297 tw_287 dX9_init_297 (by decide) ?_
  replace h := bind_so h
  obtain ⟨M299, h299, h⟩ := h
  refine r_putF clok_9 F (by decide) rfl rfl rfl (by decide) (by decide) h299 tw_1352 dX9_init_299 ?_
  refine r_aload_n (j := 0) F rfl rfl dX9_init_302 ?_
  refine r_bipush F rfl (by decide) dX9_init_303 ?_
  replace h := bind_so h
  obtain ⟨q305, h305, h⟩ := h
  refine r_newaK10 (B := 12) (by decide) F h305 tw_203 dX9_init_305 (by decide) ?_
  replace h := bind_so h
  obtain ⟨M307, h307, h⟩ := h
  refine r_putF clok_9 F (by decide) rfl rfl rfl (by decide) (by decide) h307 tw_1353 dX9_init_307 ?_
  refine r_aload_n (j := 0) F rfl rfl dX9_init_310 ?_
  refine r_bipush F rfl (by decide) dX9_init_311 ?_
  replace h := bind_so h
  obtain ⟨q313, h313, h⟩ := h
  refine r_newaK10 (B := 16) (by decide) F h313 tw_203 dX9_init_313 (by decide) ?_
  replace h := bind_so h
  obtain ⟨M315, h315, h⟩ := h
  refine r_putF clok_9 F (by decide) rfl rfl rfl (by decide) (by decide) h315 tw_1355 dX9_init_315 ?_
  refine r_aload_n (j := 0) F rfl rfl dX9_init_318 ?_
  refine r_ldcv (x := 65536) F rfl (by decide) tw_1296 dX9_init_319 ?_
  replace h := bind_so h
  obtain ⟨q321, h321, h⟩ := h
  refine r_newaK11 (B := 65536) (by decide) F h321 tw_287 dX9_init_321 (by decide) ?_
  replace h := bind_so h
  obtain ⟨M323, h323, h⟩ := h
  refine r_putF clok_9 F (by decide) rfl rfl rfl (by decide) (by decide) h323 tw_1356 dX9_init_323 ?_
  refine r_aload_n (j := 0) F rfl rfl dX9_init_326 ?_
  refine r_ldcv (x := 65536) F rfl (by decide) tw_1296 dX9_init_327 ?_
  replace h := bind_so h
  obtain ⟨q329, h329, h⟩ := h
  refine r_newaK11 (B := 65536) (by decide) F h329 tw_287 dX9_init_329 (by decide) ?_
  replace h := bind_so h
  obtain ⟨M331, h331, h⟩ := h
  refine r_putF clok_9 F (by decide) rfl rfl rfl (by decide) (by decide) h331 tw_1357 dX9_init_331 ?_
  refine r_aload_n (j := 0) F rfl rfl dX9_init_334 ?_
  refine r_bipush F rfl (by decide) dX9_init_335 ?_
  replace h := bind_so h
  obtain ⟨q337, h337, h⟩ := h
  refine r_newaK10 (B := 12) (by decide) F h337 tw_203 dX9_init_337 (by decide) ?_
  replace h := bind_so h
  obtain ⟨M339, h339, h⟩ := h
  refine r_putF clok_9 F (by decide) rfl rfl rfl (by decide) (by decide) h339 tw_1358 dX9_init_339 ?_
  refine r_aload_n (j := 0) F rfl rfl dX9_init_342 ?_
  refine r_iconst F rfl dX9_init_343 ?_
  replace h := bind_so h
  obtain ⟨q344, h344, h⟩ := h
  refine r_newaK11 (B := 3) (by decide) F h344 tw_287 dX9_init_344 (by decide) ?_
  replace h := bind_so h
  obtain ⟨M346, h346, h⟩ := h
  refine r_putF clok_9 F (by decide) rfl rfl rfl (by decide) (by decide) h346 tw_1359 dX9_init_346 ?_
  refine r_aload_n (j := 0) F rfl rfl dX9_init_349 ?_
  replace h := bind_so h
  obtain ⟨a350, h350, h⟩ := h
  refine r_getT (t := 2) rfl clok_9 F (by decide) h350 tw_1301 dX9_init_350 ?_
  refine r_iconst F rfl dX9_init_353 ?_
  refine r_iconst F rfl dX9_init_354 ?_
  replace h := bind_so h
  obtain ⟨M355, h355, h⟩ := h
  refine r_iast F h355 dX9_init_355 ?_
  refine r_aload_n (j := 0) F rfl rfl dX9_init_356 ?_
  replace h := bind_so h
  obtain ⟨a357, h357, h⟩ := h
  refine r_getT (t := 2) rfl clok_9 F (by decide) h357 tw_1303 dX9_init_357 ?_
  refine r_iconst F rfl dX9_init_360 ?_
  refine r_iconst F rfl dX9_init_361 ?_
  replace h := bind_so h
  obtain ⟨M362, h362, h⟩ := h
  refine r_iast F h362 dX9_init_362 ?_
  refine r_iconst F rfl dX9_init_363 ?_
  refine r_istore_n (ls' := [(1, vI 0), (0, vR l0)]) F rfl (by decide) rfl dX9_init_364 ?_
  refine r_sub [1, 0] (ls' := [(0, vR l0), (1, vI 0)]) rfl ?_
  refine r_wide (k' := 0) (n' := 0) (by decide) (by decide) ?_
  exact tX9_init_365 F h
theorem tX9_in {l0 l1 l2 : Int} {M : Mem} {q : Int × Mem} (h : mX9_in l0 l1 l2 M = some q) : Ct 0 0 0 yX9_in cX9_in 3 (some FieldType.boolean) [vI l0, vI l1, vI l2] M (some (vI q.1)) q.2 := by
  unfold mX9_in at h
  refine Ct.of (by decide) (Nat.le_of_ble_eq_true rfl) ?_
  intro E p l e s m args below meth c F
  refine r_sub [0, 1, 2] (ls' := [(0, vI l0), (1, vI l1), (2, vI l2)]) rfl ?_
  refine r_iload_n (j := 0) F rfl rfl dX9_in_0 ?_
  refine r_iload_n (j := 1) F rfl rfl dX9_in_1 ?_
  refine r_icmp_lt (tgt := 14) F (by decide) dX9_in_2 (fun hc => ?_) (fun hc => ?_)
  · replace h := ite_p h hc
    refine r_iconst F rfl dX9_in_14 ?_
    obtain rfl := Option.some.inj h
    exact r_zret (Or.inl rfl) F dX9_in_15
  · replace h := ite_n h hc
    refine r_iload_n (j := 0) F rfl rfl dX9_in_5 ?_
    refine r_iload_n (j := 2) F rfl rfl dX9_in_6 ?_
    refine r_icmp_gt (tgt := 14) F (by decide) dX9_in_7 (fun hc => ?_) (fun hc => ?_)
    · replace h := ite_p h hc
      refine r_iconst F rfl dX9_in_14 ?_
      obtain rfl := Option.some.inj h
      exact r_zret (Or.inl rfl) F dX9_in_15
    · replace h := ite_n h hc
      refine r_iconst F rfl dX9_in_10 ?_
      refine r_goto (tgt := 15) F (by decide) dX9_in_11 ?_
      obtain rfl := Option.some.inj h
      exact r_zret (Or.inr rfl) F dX9_in_15
theorem tbX9_move_3 {E : En} {p : Program} {l : Launch} {e : Env} {s : State} {m : MethodId} {args : Array Value} {below : List Frame} {meth : Method} {c : Code} {q : Int × Mem} {k3 : Int → Int → Int → Int → Int → Mem → Option (Int × Mem)} (hk3 : ∀ {l0 l1 l2 l3 l4 : Int} {M : Mem}, k3 l0 l1 l2 l3 l4 M = some q → G E p l e (rmOf 0 0 0) s m args below meth c 5 (QZ E below args s (rmOf 0 0 0) none q.2) 0 0 M 3 [(0, vR l0), (1, vI l1), (2, vI l2), (3, vI l3), (4, vI l4)] []) {l0 l1 l2 l3 l4 : Int} {M : Mem} (F : Fx E p s m args meth c cX9_move 5 yX9_move.cls none yX9_move.name) (h : bX9_move_3 k3 l0 l1 l2 l3 l4 M = some q) : G E p l e (rmOf 0 0 0) s m args below meth c 5 (QZ E below args s (rmOf 0 0 0) none q.2) 0 0 M 3 [(0, vR l0), (1, vI l1), (2, vI l2), (3, vI l3), (4, vI l4)] [] := by
  unfold bX9_move_3 at h
  refine r_iload (j := 4) F rfl dX9_move_3 ?_
  refine r_iload_n (j := 1) F rfl rfl dX9_move_5 ?_
  refine r_icmp_ge (tgt := 31) F (by decide) dX9_move_6 (fun hc => ?_) (fun hc => ?_)
  · replace h := ite_p h hc
    obtain rfl := Option.some.inj h
    exact r_vret F dX9_move_31
  · replace h := ite_n h hc
    refine r_aload_n (j := 0) F rfl rfl dX9_move_9 ?_
    refine r_iload_n (j := 1) F rfl rfl dX9_move_10 ?_
    refine r_iload_n (j := 3) F rfl rfl dX9_move_11 ?_
    refine r_imul F dX9_move_12 ?_
    refine r_iload (j := 4) F rfl dX9_move_13 ?_
    refine r_iadd F dX9_move_15 ?_
    refine r_aload_n (j := 0) F rfl rfl dX9_move_16 ?_
    refine r_iload_n (j := 1) F rfl rfl dX9_move_17 ?_
    refine r_iload_n (j := 2) F rfl rfl dX9_move_18 ?_
    refine r_imul F dX9_move_19 ?_
    refine r_iload (j := 4) F rfl dX9_move_20 ?_
    refine r_iadd F dX9_move_22 ?_
    replace h := bind_so h
    obtain ⟨a23, h23, h⟩ := h
    refine r_iald F h23 dX9_move_23 ?_
    replace h := bind_so h
    obtain ⟨M24, h24, h⟩ := h
    refine r_iast F h24 dX9_move_24 ?_
    refine r_iinc (j := 4) (ls' := [(4, vI (wI (l4 + 1))), (0, vR l0), (1, vI l1), (2, vI l2), (3, vI l3)]) F rfl (by decide) rfl dX9_move_25 ?_
    refine r_goto (tgt := 3) F (by decide) dX9_move_28 ?_
    refine r_sub [1, 2, 3, 4, 0] (ls' := [(0, vR l0), (1, vI l1), (2, vI l2), (3, vI l3), (4, vI (wI (l4 + 1)))]) rfl ?_
    exact hk3 h
theorem tX9_move_3 {E : En} {p : Program} {l : Launch} {e : Env} {s : State} {m : MethodId} {args : Array Value} {below : List Frame} {meth : Method} {c : Code} {q : Int × Mem} (F : Fx E p s m args meth c cX9_move 5 yX9_move.cls none yX9_move.name) : ∀ {fu : Nat} {l0 l1 l2 l3 l4 : Int} {M : Mem}, mX9_move_3 fu l0 l1 l2 l3 l4 M = some q → G E p l e (rmOf 0 0 0) s m args below meth c 5 (QZ E below args s (rmOf 0 0 0) none q.2) 0 0 M 3 [(0, vR l0), (1, vI l1), (2, vI l2), (3, vI l3), (4, vI l4)] [] := by
  intro fu
  induction fu with
  | zero => intro l0 l1 l2 l3 l4 M h; exact nomatch (show (none : Option (Int × Mem)) = some q from h)
  | succ fu ih => intro l0 l1 l2 l3 l4 M h; exact tbX9_move_3  (fun h => ih h) F h
theorem tX9_move {l0 l1 l2 l3 : Int} {M : Mem} {q : Int × Mem} (h : mX9_move l0 l1 l2 l3 M = some q) : Ct 0 0 0 yX9_move cX9_move 5 none [vR l0, vI l1, vI l2, vI l3] M none q.2 := by
  unfold mX9_move at h
  refine Ct.of (by decide) (Nat.le_of_ble_eq_true rfl) ?_
  intro E p l e s m args below meth c F
  refine r_sub [0, 1, 2, 3] (ls' := [(0, vR l0), (1, vI l1), (2, vI l2), (3, vI l3)]) rfl ?_
  refine r_iconst F rfl dX9_move_0 ?_
  refine r_istore (ls' := [(4, vI 0), (0, vR l0), (1, vI l1), (2, vI l2), (3, vI l3)]) F (by decide) rfl dX9_move_1 ?_
  refine r_sub [1, 2, 3, 4, 0] (ls' := [(0, vR l0), (1, vI l1), (2, vI l2), (3, vI l3), (4, vI 0)]) rfl ?_
  exact tX9_move_3 F h
theorem tbX9_copy_116 {E : En} {p : Program} {l : Launch} {e : Env} {s : State} {m : MethodId} {args : Array Value} {below : List Frame} {meth : Method} {c : Code} {q : Int × Mem} {k116 : Int → Int → Int → Int → Mem → Option (Int × Mem)} (hk116 : ∀ {l0 l1 l2 l3 : Int} {M : Mem}, k116 l0 l1 l2 l3 M = some q → G E p l e (rmOf 1 0 0) s m args below meth c 4 (QZ E below args s (rmOf 1 0 0) none q.2) 0 0 M 116 [(0, vR l0), (1, vI l1), (2, vI l2), (3, vI l3)] []) {l0 l1 l2 l3 : Int} {M : Mem} (F : Fx E p s m args meth c cX9_copy 4 yX9_copy.cls none yX9_copy.name) (h : bX9_copy_116 k116 l0 l1 l2 l3 M = some q) : G E p l e (rmOf 1 0 0) s m args below meth c 4 (QZ E below args s (rmOf 1 0 0) none q.2) 0 0 M 116 [(0, vR l0), (1, vI l1), (2, vI l2), (3, vI l3)] [] := by
  unfold bX9_copy_116 at h
  refine r_iload_n (j := 3) F rfl rfl dX9_copy_116 ?_
  refine r_iconst F rfl dX9_copy_117 ?_
  refine r_icmp_ge (tgt := 147) F (by decide) dX9_copy_118 (fun hc => ?_) (fun hc => ?_)
  · replace h := ite_p h hc
    refine r_aload_n (j := 0) F rfl rfl dX9_copy_147 ?_
    replace h := bind_so h
    obtain ⟨a148, h148, h⟩ := h
    refine r_getT (t := 2) rfl clok_9 F (by decide) h148 tw_1317 dX9_copy_148 ?_
    refine r_iconst F rfl dX9_copy_151 ?_
    refine r_iload_n (j := 1) F rfl rfl dX9_copy_152 ?_
    refine r_iload_n (j := 2) F rfl rfl dX9_copy_153 ?_
    replace h := bind_so h
    obtain ⟨q154, h154, h⟩ := h
    refine r_callS (as := [vR a148, vI 1, vI l1, vI l2]) (rv := none) (kc := 0) (nc := 0) (tX9_move h154) F tw_1900 tw_1901 tw_1902 tw_122 ⟨by decide, by decide, show (parseMethodDescriptor yX9_move.desc).map (fun d => d.parameters.length) = some 4 by decide +kernel⟩ ⟨by decide, by decide⟩ (Nat.le_of_ble_eq_true rfl) dX9_copy_154 ?_
    refine r_aload_n (j := 0) F rfl rfl dX9_copy_157 ?_
    replace h := bind_so h
    obtain ⟨a158, h158, h⟩ := h
    refine r_getT (t := 2) rfl clok_9 F (by decide) h158 tw_1318 dX9_copy_158 ?_
    refine r_bipush F rfl (by decide) dX9_copy_161 ?_
    refine r_iload_n (j := 1) F rfl rfl dX9_copy_163 ?_
    refine r_iload_n (j := 2) F rfl rfl dX9_copy_164 ?_
    replace h := bind_so h
    obtain ⟨q165, h165, h⟩ := h
    refine r_callS (as := [vR a158, vI 40, vI l1, vI l2]) (rv := none) (kc := 0) (nc := 0) (tX9_move h165) F tw_1900 tw_1901 tw_1902 tw_122 ⟨by decide, by decide, show (parseMethodDescriptor yX9_move.desc).map (fun d => d.parameters.length) = some 4 by decide +kernel⟩ ⟨by decide, by decide⟩ (Nat.le_of_ble_eq_true rfl) dX9_copy_165 ?_
    refine r_aload_n (j := 0) F rfl rfl dX9_copy_168 ?_
    replace h := bind_so h
    obtain ⟨a169, h169, h⟩ := h
    refine r_getT (t := 2) rfl clok_9 F (by decide) h169 tw_1319 dX9_copy_169 ?_
    refine r_bipush F rfl (by decide) dX9_copy_172 ?_
    refine r_iload_n (j := 1) F rfl rfl dX9_copy_174 ?_
    refine r_iload_n (j := 2) F rfl rfl dX9_copy_175 ?_
    replace h := bind_so h
    obtain ⟨q176, h176, h⟩ := h
    refine r_callS (as := [vR a169, vI 40, vI l1, vI l2]) (rv := none) (kc := 0) (nc := 0) (tX9_move h176) F tw_1900 tw_1901 tw_1902 tw_122 ⟨by decide, by decide, show (parseMethodDescriptor yX9_move.desc).map (fun d => d.parameters.length) = some 4 by decide +kernel⟩ ⟨by decide, by decide⟩ (Nat.le_of_ble_eq_true rfl) dX9_copy_176 ?_
    refine r_aload_n (j := 0) F rfl rfl dX9_copy_179 ?_
    replace h := bind_so h
    obtain ⟨a180, h180, h⟩ := h
    refine r_getT (t := 2) rfl clok_9 F (by decide) h180 tw_1320 dX9_copy_180 ?_
    refine r_bipush F rfl (by decide) dX9_copy_183 ?_
    refine r_iload_n (j := 1) F rfl rfl dX9_copy_185 ?_
    refine r_iload_n (j := 2) F rfl rfl dX9_copy_186 ?_
    replace h := bind_so h
    obtain ⟨q187, h187, h⟩ := h
    refine r_callS (as := [vR a180, vI 40, vI l1, vI l2]) (rv := none) (kc := 0) (nc := 0) (tX9_move h187) F tw_1900 tw_1901 tw_1902 tw_122 ⟨by decide, by decide, show (parseMethodDescriptor yX9_move.desc).map (fun d => d.parameters.length) = some 4 by decide +kernel⟩ ⟨by decide, by decide⟩ (Nat.le_of_ble_eq_true rfl) dX9_copy_187 ?_
    refine r_aload_n (j := 0) F rfl rfl dX9_copy_190 ?_
    replace h := bind_so h
    obtain ⟨a191, h191, h⟩ := h
    refine r_getT (t := 2) rfl clok_9 F (by decide) h191 tw_1299 dX9_copy_191 ?_
    refine r_iconst F rfl dX9_copy_194 ?_
    refine r_iload_n (j := 1) F rfl rfl dX9_copy_195 ?_
    refine r_iload_n (j := 2) F rfl rfl dX9_copy_196 ?_
    replace h := bind_so h
    obtain ⟨q197, h197, h⟩ := h
    refine r_callS (as := [vR a191, vI 1, vI l1, vI l2]) (rv := none) (kc := 0) (nc := 0) (tX9_move h197) F tw_1900 tw_1901 tw_1902 tw_122 ⟨by decide, by decide, show (parseMethodDescriptor yX9_move.desc).map (fun d => d.parameters.length) = some 4 by decide +kernel⟩ ⟨by decide, by decide⟩ (Nat.le_of_ble_eq_true rfl) dX9_copy_197 ?_
    refine r_aload_n (j := 0) F rfl rfl dX9_copy_200 ?_
    replace h := bind_so h
    obtain ⟨a201, h201, h⟩ := h
    refine r_getT (t := 2) rfl clok_9 F (by decide) h201 tw_1300 dX9_copy_201 ?_
    refine r_iconst F rfl dX9_copy_204 ?_
    refine r_iload_n (j := 1) F rfl rfl dX9_copy_205 ?_
    refine r_iload_n (j := 2) F rfl rfl dX9_copy_206 ?_
    replace h := bind_so h
    obtain ⟨q207, h207, h⟩ := h
    refine r_callS (as := [vR a201, vI 1, vI l1, vI l2]) (rv := none) (kc := 0) (nc := 0) (tX9_move h207) F tw_1900 tw_1901 tw_1902 tw_122 ⟨by decide, by decide, show (parseMethodDescriptor yX9_move.desc).map (fun d => d.parameters.length) = some 4 by decide +kernel⟩ ⟨by decide, by decide⟩ (Nat.le_of_ble_eq_true rfl) dX9_copy_207 ?_
    refine r_aload_n (j := 0) F rfl rfl dX9_copy_210 ?_
    replace h := bind_so h
    obtain ⟨a211, h211, h⟩ := h
    refine r_getT (t := 2) rfl clok_9 F (by decide) h211 tw_1301 dX9_copy_211 ?_
    refine r_iconst F rfl dX9_copy_214 ?_
    refine r_iload_n (j := 1) F rfl rfl dX9_copy_215 ?_
    refine r_iload_n (j := 2) F rfl rfl dX9_copy_216 ?_
    replace h := bind_so h
    obtain ⟨q217, h217, h⟩ := h
    refine r_callS (as := [vR a211, vI 1, vI l1, vI l2]) (rv := none) (kc := 0) (nc := 0) (tX9_move h217) F tw_1900 tw_1901 tw_1902 tw_122 ⟨by decide, by decide, show (parseMethodDescriptor yX9_move.desc).map (fun d => d.parameters.length) = some 4 by decide +kernel⟩ ⟨by decide, by decide⟩ (Nat.le_of_ble_eq_true rfl) dX9_copy_217 ?_
    refine r_aload_n (j := 0) F rfl rfl dX9_copy_220 ?_
    replace h := bind_so h
    obtain ⟨a221, h221, h⟩ := h
    refine r_getT (t := 2) rfl clok_9 F (by decide) h221 tw_1302 dX9_copy_221 ?_
    refine r_iconst F rfl dX9_copy_224 ?_
    refine r_iload_n (j := 1) F rfl rfl dX9_copy_225 ?_
    refine r_iload_n (j := 2) F rfl rfl dX9_copy_226 ?_
    replace h := bind_so h
    obtain ⟨q227, h227, h⟩ := h
    refine r_callS (as := [vR a221, vI 1, vI l1, vI l2]) (rv := none) (kc := 0) (nc := 0) (tX9_move h227) F tw_1900 tw_1901 tw_1902 tw_122 ⟨by decide, by decide, show (parseMethodDescriptor yX9_move.desc).map (fun d => d.parameters.length) = some 4 by decide +kernel⟩ ⟨by decide, by decide⟩ (Nat.le_of_ble_eq_true rfl) dX9_copy_227 ?_
    refine r_aload_n (j := 0) F rfl rfl dX9_copy_230 ?_
    replace h := bind_so h
    obtain ⟨a231, h231, h⟩ := h
    refine r_getT (t := 2) rfl clok_9 F (by decide) h231 tw_1303 dX9_copy_231 ?_
    refine r_iconst F rfl dX9_copy_234 ?_
    refine r_iload_n (j := 1) F rfl rfl dX9_copy_235 ?_
    refine r_iload_n (j := 2) F rfl rfl dX9_copy_236 ?_
    replace h := bind_so h
    obtain ⟨q237, h237, h⟩ := h
    refine r_callS (as := [vR a231, vI 1, vI l1, vI l2]) (rv := none) (kc := 0) (nc := 0) (tX9_move h237) F tw_1900 tw_1901 tw_1902 tw_122 ⟨by decide, by decide, show (parseMethodDescriptor yX9_move.desc).map (fun d => d.parameters.length) = some 4 by decide +kernel⟩ ⟨by decide, by decide⟩ (Nat.le_of_ble_eq_true rfl) dX9_copy_237 ?_
    refine r_aload_n (j := 0) F rfl rfl dX9_copy_240 ?_
    replace h := bind_so h
    obtain ⟨a241, h241, h⟩ := h
    refine r_getT (t := 2) rfl clok_9 F (by decide) h241 tw_1304 dX9_copy_241 ?_
    refine r_iconst F rfl dX9_copy_244 ?_
    refine r_iload_n (j := 1) F rfl rfl dX9_copy_245 ?_
    refine r_iload_n (j := 2) F rfl rfl dX9_copy_246 ?_
    replace h := bind_so h
    obtain ⟨q247, h247, h⟩ := h
    refine r_callS (as := [vR a241, vI 3, vI l1, vI l2]) (rv := none) (kc := 0) (nc := 0) (tX9_move h247) F tw_1900 tw_1901 tw_1902 tw_122 ⟨by decide, by decide, show (parseMethodDescriptor yX9_move.desc).map (fun d => d.parameters.length) = some 4 by decide +kernel⟩ ⟨by decide, by decide⟩ (Nat.le_of_ble_eq_true rfl) dX9_copy_247 ?_
    refine r_aload_n (j := 0) F rfl rfl dX9_copy_250 ?_
    replace h := bind_so h
    obtain ⟨a251, h251, h⟩ := h
    refine r_getT (t := 2) rfl clok_9 F (by decide) h251 tw_1305 dX9_copy_251 ?_
    refine r_iconst F rfl dX9_copy_254 ?_
    refine r_iload_n (j := 1) F rfl rfl dX9_copy_255 ?_
    refine r_iload_n (j := 2) F rfl rfl dX9_copy_256 ?_
    replace h := bind_so h
    obtain ⟨q257, h257, h⟩ := h
    refine r_callS (as := [vR a251, vI 1, vI l1, vI l2]) (rv := none) (kc := 0) (nc := 0) (tX9_move h257) F tw_1900 tw_1901 tw_1902 tw_122 ⟨by decide, by decide, show (parseMethodDescriptor yX9_move.desc).map (fun d => d.parameters.length) = some 4 by decide +kernel⟩ ⟨by decide, by decide⟩ (Nat.le_of_ble_eq_true rfl) dX9_copy_257 ?_
    refine r_aload_n (j := 0) F rfl rfl dX9_copy_260 ?_
    replace h := bind_so h
    obtain ⟨a261, h261, h⟩ := h
    refine r_getT (t := 2) rfl clok_9 F (by decide) h261 tw_1306 dX9_copy_261 ?_
    refine r_iconst F rfl dX9_copy_264 ?_
    refine r_iload_n (j := 1) F rfl rfl dX9_copy_265 ?_
    refine r_iload_n (j := 2) F rfl rfl dX9_copy_266 ?_
    replace h := bind_so h
    obtain ⟨q267, h267, h⟩ := h
    refine r_callS (as := [vR a261, vI 4, vI l1, vI l2]) (rv := none) (kc := 0) (nc := 0) (tX9_move h267) F tw_1900 tw_1901 tw_1902 tw_122 ⟨by decide, by decide, show (parseMethodDescriptor yX9_move.desc).map (fun d => d.parameters.length) = some 4 by decide +kernel⟩ ⟨by decide, by decide⟩ (Nat.le_of_ble_eq_true rfl) dX9_copy_267 ?_
    refine r_aload_n (j := 0) F rfl rfl dX9_copy_270 ?_
    replace h := bind_so h
    obtain ⟨a271, h271, h⟩ := h
    refine r_getT (t := 2) rfl clok_9 F (by decide) h271 tw_1307 dX9_copy_271 ?_
    refine r_iconst F rfl dX9_copy_274 ?_
    refine r_iload_n (j := 1) F rfl rfl dX9_copy_275 ?_
    refine r_iload_n (j := 2) F rfl rfl dX9_copy_276 ?_
    replace h := bind_so h
    obtain ⟨q277, h277, h⟩ := h
    refine r_callS (as := [vR a271, vI 4, vI l1, vI l2]) (rv := none) (kc := 0) (nc := 0) (tX9_move h277) F tw_1900 tw_1901 tw_1902 tw_122 ⟨by decide, by decide, show (parseMethodDescriptor yX9_move.desc).map (fun d => d.parameters.length) = some 4 by decide +kernel⟩ ⟨by decide, by decide⟩ (Nat.le_of_ble_eq_true rfl) dX9_copy_277 ?_
    refine r_aload_n (j := 0) F rfl rfl dX9_copy_280 ?_
    replace h := bind_so h
    obtain ⟨a281, h281, h⟩ := h
    refine r_getT (t := 2) rfl clok_9 F (by decide) h281 tw_1309 dX9_copy_281 ?_
    refine r_iconst F rfl dX9_copy_284 ?_
    refine r_iload_n (j := 1) F rfl rfl dX9_copy_285 ?_
    refine r_iload_n (j := 2) F rfl rfl dX9_copy_286 ?_
    replace h := bind_so h
    obtain ⟨q287, h287, h⟩ := h
    refine r_callS (as := [vR a281, vI 1, vI l1, vI l2]) (rv := none) (kc := 0) (nc := 0) (tX9_move h287) F tw_1900 tw_1901 tw_1902 tw_122 ⟨by decide, by decide, show (parseMethodDescriptor yX9_move.desc).map (fun d => d.parameters.length) = some 4 by decide +kernel⟩ ⟨by decide, by decide⟩ (Nat.le_of_ble_eq_true rfl) dX9_copy_287 ?_
    refine r_aload_n (j := 0) F rfl rfl dX9_copy_290 ?_
    replace h := bind_so h
    obtain ⟨a291, h291, h⟩ := h
    refine r_getT (t := 2) rfl clok_9 F (by decide) h291 tw_1310 dX9_copy_291 ?_
    refine r_bipush F rfl (by decide) dX9_copy_294 ?_
    refine r_iload_n (j := 1) F rfl rfl dX9_copy_296 ?_
    refine r_iload_n (j := 2) F rfl rfl dX9_copy_297 ?_
    replace h := bind_so h
    obtain ⟨q298, h298, h⟩ := h
    refine r_callS (as := [vR a291, vI 8, vI l1, vI l2]) (rv := none) (kc := 0) (nc := 0) (tX9_move h298) F tw_1900 tw_1901 tw_1902 tw_122 ⟨by decide, by decide, show (parseMethodDescriptor yX9_move.desc).map (fun d => d.parameters.length) = some 4 by decide +kernel⟩ ⟨by decide, by decide⟩ (Nat.le_of_ble_eq_true rfl) dX9_copy_298 ?_
    refine r_aload_n (j := 0) F rfl rfl dX9_copy_301 ?_
    replace h := bind_so h
    obtain ⟨a302, h302, h⟩ := h
    refine r_getT (t := 2) rfl clok_9 F (by decide) h302 tw_1311 dX9_copy_302 ?_
    refine r_bipush F rfl (by decide) dX9_copy_305 ?_
    refine r_iload_n (j := 1) F rfl rfl dX9_copy_307 ?_
    refine r_iload_n (j := 2) F rfl rfl dX9_copy_308 ?_
    replace h := bind_so h
    obtain ⟨q309, h309, h⟩ := h
    refine r_callS (as := [vR a302, vI 8, vI l1, vI l2]) (rv := none) (kc := 0) (nc := 0) (tX9_move h309) F tw_1900 tw_1901 tw_1902 tw_122 ⟨by decide, by decide, show (parseMethodDescriptor yX9_move.desc).map (fun d => d.parameters.length) = some 4 by decide +kernel⟩ ⟨by decide, by decide⟩ (Nat.le_of_ble_eq_true rfl) dX9_copy_309 ?_
    refine r_aload_n (j := 0) F rfl rfl dX9_copy_312 ?_
    replace h := bind_so h
    obtain ⟨a313, h313, h⟩ := h
    refine r_getT (t := 2) rfl clok_9 F (by decide) h313 tw_1312 dX9_copy_313 ?_
    refine r_bipush F rfl (by decide) dX9_copy_316 ?_
    refine r_iload_n (j := 1) F rfl rfl dX9_copy_318 ?_
    refine r_iload_n (j := 2) F rfl rfl dX9_copy_319 ?_
    replace h := bind_so h
    obtain ⟨q320, h320, h⟩ := h
    refine r_callS (as := [vR a313, vI 9, vI l1, vI l2]) (rv := none) (kc := 0) (nc := 0) (tX9_move h320) F tw_1900 tw_1901 tw_1902 tw_122 ⟨by decide, by decide, show (parseMethodDescriptor yX9_move.desc).map (fun d => d.parameters.length) = some 4 by decide +kernel⟩ ⟨by decide, by decide⟩ (Nat.le_of_ble_eq_true rfl) dX9_copy_320 ?_
    refine r_aload_n (j := 0) F rfl rfl dX9_copy_323 ?_
    replace h := bind_so h
    obtain ⟨a324, h324, h⟩ := h
    refine r_getT (t := 2) rfl clok_9 F (by decide) h324 tw_1313 dX9_copy_324 ?_
    refine r_sipush F rfl (by decide) dX9_copy_327 ?_
    refine r_iload_n (j := 1) F rfl rfl dX9_copy_330 ?_
    refine r_iload_n (j := 2) F rfl rfl dX9_copy_331 ?_
    replace h := bind_so h
    obtain ⟨q332, h332, h⟩ := h
    refine r_callS (as := [vR a324, vI 360, vI l1, vI l2]) (rv := none) (kc := 0) (nc := 0) (tX9_move h332) F tw_1900 tw_1901 tw_1902 tw_122 ⟨by decide, by decide, show (parseMethodDescriptor yX9_move.desc).map (fun d => d.parameters.length) = some 4 by decide +kernel⟩ ⟨by decide, by decide⟩ (Nat.le_of_ble_eq_true rfl) dX9_copy_332 ?_
    refine r_aload_n (j := 0) F rfl rfl dX9_copy_335 ?_
    replace h := bind_so h
    obtain ⟨a336, h336, h⟩ := h
    refine r_getT (t := 2) rfl clok_9 F (by decide) h336 tw_1314 dX9_copy_336 ?_
    refine r_sipush F rfl (by decide) dX9_copy_339 ?_
    refine r_iload_n (j := 1) F rfl rfl dX9_copy_342 ?_
    refine r_iload_n (j := 2) F rfl rfl dX9_copy_343 ?_
    replace h := bind_so h
    obtain ⟨q344, h344, h⟩ := h
    refine r_callS (as := [vR a336, vI 360, vI l1, vI l2]) (rv := none) (kc := 0) (nc := 0) (tX9_move h344) F tw_1900 tw_1901 tw_1902 tw_122 ⟨by decide, by decide, show (parseMethodDescriptor yX9_move.desc).map (fun d => d.parameters.length) = some 4 by decide +kernel⟩ ⟨by decide, by decide⟩ (Nat.le_of_ble_eq_true rfl) dX9_copy_344 ?_
    refine r_aload_n (j := 0) F rfl rfl dX9_copy_347 ?_
    replace h := bind_so h
    obtain ⟨a348, h348, h⟩ := h
    refine r_getT (t := 2) rfl clok_9 F (by decide) h348 tw_1315 dX9_copy_348 ?_
    refine r_sipush F rfl (by decide) dX9_copy_351 ?_
    refine r_iload_n (j := 1) F rfl rfl dX9_copy_354 ?_
    refine r_iload_n (j := 2) F rfl rfl dX9_copy_355 ?_
    replace h := bind_so h
    obtain ⟨q356, h356, h⟩ := h
    refine r_callS (as := [vR a348, vI 360, vI l1, vI l2]) (rv := none) (kc := 0) (nc := 0) (tX9_move h356) F tw_1900 tw_1901 tw_1902 tw_122 ⟨by decide, by decide, show (parseMethodDescriptor yX9_move.desc).map (fun d => d.parameters.length) = some 4 by decide +kernel⟩ ⟨by decide, by decide⟩ (Nat.le_of_ble_eq_true rfl) dX9_copy_356 ?_
    refine r_aload_n (j := 0) F rfl rfl dX9_copy_359 ?_
    replace h := bind_so h
    obtain ⟨a360, h360, h⟩ := h
    refine r_getT (t := 2) rfl clok_9 F (by decide) h360 tw_1316 dX9_copy_360 ?_
    refine r_sipush F rfl (by decide) dX9_copy_363 ?_
    refine r_iload_n (j := 1) F rfl rfl dX9_copy_366 ?_
    refine r_iload_n (j := 2) F rfl rfl dX9_copy_367 ?_
    replace h := bind_so h
    obtain ⟨q368, h368, h⟩ := h
    refine r_callS (as := [vR a360, vI 360, vI l1, vI l2]) (rv := none) (kc := 0) (nc := 0) (tX9_move h368) F tw_1900 tw_1901 tw_1902 tw_122 ⟨by decide, by decide, show (parseMethodDescriptor yX9_move.desc).map (fun d => d.parameters.length) = some 4 by decide +kernel⟩ ⟨by decide, by decide⟩ (Nat.le_of_ble_eq_true rfl) dX9_copy_368 ?_
    obtain rfl := Option.some.inj h
    exact r_vret F dX9_copy_371
  · replace h := ite_n h hc
    refine r_aload_n (j := 0) F rfl rfl dX9_copy_121 ?_
    replace h := bind_so h
    obtain ⟨a122, h122, h⟩ := h
    refine r_getT (t := 2) rfl clok_9 F (by decide) h122 tw_1322 dX9_copy_122 ?_
    refine r_iconst F rfl dX9_copy_125 ?_
    refine r_iload_n (j := 2) F rfl rfl dX9_copy_126 ?_
    refine r_imul F dX9_copy_127 ?_
    refine r_iload_n (j := 3) F rfl rfl dX9_copy_128 ?_
    refine r_iadd F dX9_copy_129 ?_
    refine r_aload_n (j := 0) F rfl rfl dX9_copy_130 ?_
    replace h := bind_so h
    obtain ⟨a131, h131, h⟩ := h
    refine r_getT (t := 2) rfl clok_9 F (by decide) h131 tw_1322 dX9_copy_131 ?_
    refine r_iconst F rfl dX9_copy_134 ?_
    refine r_iload_n (j := 1) F rfl rfl dX9_copy_135 ?_
    refine r_imul F dX9_copy_136 ?_
    refine r_iload_n (j := 3) F rfl rfl dX9_copy_137 ?_
    refine r_iadd F dX9_copy_138 ?_
    replace h := bind_so h
    obtain ⟨a139, h139, h⟩ := h
    refine r_zald F h139 dX9_copy_139 ?_
    replace h := bind_so h
    obtain ⟨M140, h140, h⟩ := h
    refine r_zast F h140 dX9_copy_140 ?_
    refine r_iinc (j := 3) (ls' := [(3, vI (wI (l3 + 1))), (0, vR l0), (1, vI l1), (2, vI l2)]) F rfl (by decide) rfl dX9_copy_141 ?_
    refine r_goto (tgt := 116) F (by decide) dX9_copy_144 ?_
    refine r_sub [1, 2, 3, 0] (ls' := [(0, vR l0), (1, vI l1), (2, vI l2), (3, vI (wI (l3 + 1)))]) rfl ?_
    exact hk116 h
theorem tX9_copy_116 {E : En} {p : Program} {l : Launch} {e : Env} {s : State} {m : MethodId} {args : Array Value} {below : List Frame} {meth : Method} {c : Code} {q : Int × Mem} (F : Fx E p s m args meth c cX9_copy 4 yX9_copy.cls none yX9_copy.name) : ∀ {fu : Nat} {l0 l1 l2 l3 : Int} {M : Mem}, mX9_copy_116 fu l0 l1 l2 l3 M = some q → G E p l e (rmOf 1 0 0) s m args below meth c 4 (QZ E below args s (rmOf 1 0 0) none q.2) 0 0 M 116 [(0, vR l0), (1, vI l1), (2, vI l2), (3, vI l3)] [] := by
  intro fu
  induction fu with
  | zero => intro l0 l1 l2 l3 M h; exact nomatch (show (none : Option (Int × Mem)) = some q from h)
  | succ fu ih => intro l0 l1 l2 l3 M h; exact tbX9_copy_116  (fun h => ih h) F h
theorem tbX9_copy_77 {E : En} {p : Program} {l : Launch} {e : Env} {s : State} {m : MethodId} {args : Array Value} {below : List Frame} {meth : Method} {c : Code} {q : Int × Mem} {k77 : Int → Int → Int → Int → Mem → Option (Int × Mem)} (hk77 : ∀ {l0 l1 l2 l3 : Int} {M : Mem}, k77 l0 l1 l2 l3 M = some q → G E p l e (rmOf 1 0 0) s m args below meth c 4 (QZ E below args s (rmOf 1 0 0) none q.2) 0 0 M 77 [(0, vR l0), (1, vI l1), (2, vI l2), (3, vI l3)] []) {l0 l1 l2 l3 : Int} {M : Mem} (F : Fx E p s m args meth c cX9_copy 4 yX9_copy.cls none yX9_copy.name) (h : bX9_copy_77 k77 l0 l1 l2 l3 M = some q) : G E p l e (rmOf 1 0 0) s m args below meth c 4 (QZ E below args s (rmOf 1 0 0) none q.2) 0 0 M 77 [(0, vR l0), (1, vI l1), (2, vI l2), (3, vI l3)] [] := by
  unfold bX9_copy_77 at h
  refine r_iload_n (j := 3) F rfl rfl dX9_copy_77 ?_
  refine r_sipush F rfl (by decide) dX9_copy_78 ?_
  refine r_icmp_ge (tgt := 114) F (by decide) dX9_copy_81 (fun hc => ?_) (fun hc => ?_)
  · replace h := ite_p h hc
    refine r_iconst F rfl dX9_copy_114 ?_
    refine r_istore_n (ls' := [(3, vI 0), (0, vR l0), (1, vI l1), (2, vI l2)]) F rfl (by decide) rfl dX9_copy_115 ?_
    refine r_sub [1, 2, 3, 0] (ls' := [(0, vR l0), (1, vI l1), (2, vI l2), (3, vI 0)]) rfl ?_
    exact tX9_copy_116 F h
  · replace h := ite_n h hc
    refine r_aload_n (j := 0) F rfl rfl dX9_copy_84 ?_
    replace h := bind_so h
    obtain ⟨a85, h85, h⟩ := h
    refine r_getT (t := 2) rfl clok_9 F (by decide) h85 tw_1321 dX9_copy_85 ?_
    refine r_sipush F rfl (by decide) dX9_copy_88 ?_
    refine r_iload_n (j := 2) F rfl rfl dX9_copy_91 ?_
    refine r_imul F dX9_copy_92 ?_
    refine r_iload_n (j := 3) F rfl rfl dX9_copy_93 ?_
    refine r_iadd F dX9_copy_94 ?_
    refine r_aload_n (j := 0) F rfl rfl dX9_copy_95 ?_
    replace h := bind_so h
    obtain ⟨a96, h96, h⟩ := h
    refine r_getT (t := 2) rfl clok_9 F (by decide) h96 tw_1321 dX9_copy_96 ?_
    refine r_sipush F rfl (by decide) dX9_copy_99 ?_
    refine r_iload_n (j := 1) F rfl rfl dX9_copy_102 ?_
    refine r_imul F dX9_copy_103 ?_
    refine r_iload_n (j := 3) F rfl rfl dX9_copy_104 ?_
    refine r_iadd F dX9_copy_105 ?_
    replace h := bind_so h
    obtain ⟨a106, h106, h⟩ := h
    refine r_zald F h106 dX9_copy_106 ?_
    replace h := bind_so h
    obtain ⟨M107, h107, h⟩ := h
    refine r_zast F h107 dX9_copy_107 ?_
    refine r_iinc (j := 3) (ls' := [(3, vI (wI (l3 + 1))), (0, vR l0), (1, vI l1), (2, vI l2)]) F rfl (by decide) rfl dX9_copy_108 ?_
    refine r_goto (tgt := 77) F (by decide) dX9_copy_111 ?_
    refine r_sub [1, 2, 3, 0] (ls' := [(0, vR l0), (1, vI l1), (2, vI l2), (3, vI (wI (l3 + 1)))]) rfl ?_
    exact hk77 h
theorem tX9_copy_77 {E : En} {p : Program} {l : Launch} {e : Env} {s : State} {m : MethodId} {args : Array Value} {below : List Frame} {meth : Method} {c : Code} {q : Int × Mem} (F : Fx E p s m args meth c cX9_copy 4 yX9_copy.cls none yX9_copy.name) : ∀ {fu : Nat} {l0 l1 l2 l3 : Int} {M : Mem}, mX9_copy_77 fu l0 l1 l2 l3 M = some q → G E p l e (rmOf 1 0 0) s m args below meth c 4 (QZ E below args s (rmOf 1 0 0) none q.2) 0 0 M 77 [(0, vR l0), (1, vI l1), (2, vI l2), (3, vI l3)] [] := by
  intro fu
  induction fu with
  | zero => intro l0 l1 l2 l3 M h; exact nomatch (show (none : Option (Int × Mem)) = some q from h)
  | succ fu ih => intro l0 l1 l2 l3 M h; exact tbX9_copy_77  (fun h => ih h) F h
theorem tbX9_copy_41 {E : En} {p : Program} {l : Launch} {e : Env} {s : State} {m : MethodId} {args : Array Value} {below : List Frame} {meth : Method} {c : Code} {q : Int × Mem} {k41 : Int → Int → Int → Int → Mem → Option (Int × Mem)} (hk41 : ∀ {l0 l1 l2 l3 : Int} {M : Mem}, k41 l0 l1 l2 l3 M = some q → G E p l e (rmOf 1 0 0) s m args below meth c 4 (QZ E below args s (rmOf 1 0 0) none q.2) 0 0 M 41 [(0, vR l0), (1, vI l1), (2, vI l2), (3, vI l3)] []) {l0 l1 l2 l3 : Int} {M : Mem} (F : Fx E p s m args meth c cX9_copy 4 yX9_copy.cls none yX9_copy.name) (h : bX9_copy_41 k41 l0 l1 l2 l3 M = some q) : G E p l e (rmOf 1 0 0) s m args below meth c 4 (QZ E below args s (rmOf 1 0 0) none q.2) 0 0 M 41 [(0, vR l0), (1, vI l1), (2, vI l2), (3, vI l3)] [] := by
  unfold bX9_copy_41 at h
  refine r_iload_n (j := 3) F rfl rfl dX9_copy_41 ?_
  refine r_bipush F rfl (by decide) dX9_copy_42 ?_
  refine r_icmp_ge (tgt := 75) F (by decide) dX9_copy_44 (fun hc => ?_) (fun hc => ?_)
  · replace h := ite_p h hc
    refine r_iconst F rfl dX9_copy_75 ?_
    refine r_istore_n (ls' := [(3, vI 0), (0, vR l0), (1, vI l1), (2, vI l2)]) F rfl (by decide) rfl dX9_copy_76 ?_
    refine r_sub [1, 2, 3, 0] (ls' := [(0, vR l0), (1, vI l1), (2, vI l2), (3, vI 0)]) rfl ?_
    exact tX9_copy_77 F h
  · replace h := ite_n h hc
    refine r_aload_n (j := 0) F rfl rfl dX9_copy_47 ?_
    replace h := bind_so h
    obtain ⟨a48, h48, h⟩ := h
    refine r_getT (t := 2) rfl clok_9 F (by decide) h48 tw_1308 dX9_copy_48 ?_
    refine r_bipush F rfl (by decide) dX9_copy_51 ?_
    refine r_iload_n (j := 2) F rfl rfl dX9_copy_53 ?_
    refine r_imul F dX9_copy_54 ?_
    refine r_iload_n (j := 3) F rfl rfl dX9_copy_55 ?_
    refine r_iadd F dX9_copy_56 ?_
    refine r_aload_n (j := 0) F rfl rfl dX9_copy_57 ?_
    replace h := bind_so h
    obtain ⟨a58, h58, h⟩ := h
    refine r_getT (t := 2) rfl clok_9 F (by decide) h58 tw_1308 dX9_copy_58 ?_
    refine r_bipush F rfl (by decide) dX9_copy_61 ?_
    refine r_iload_n (j := 1) F rfl rfl dX9_copy_63 ?_
    refine r_imul F dX9_copy_64 ?_
    refine r_iload_n (j := 3) F rfl rfl dX9_copy_65 ?_
    refine r_iadd F dX9_copy_66 ?_
    replace h := bind_so h
    obtain ⟨a67, h67, h⟩ := h
    refine r_zald F h67 dX9_copy_67 ?_
    replace h := bind_so h
    obtain ⟨M68, h68, h⟩ := h
    refine r_zast F h68 dX9_copy_68 ?_
    refine r_iinc (j := 3) (ls' := [(3, vI (wI (l3 + 1))), (0, vR l0), (1, vI l1), (2, vI l2)]) F rfl (by decide) rfl dX9_copy_69 ?_
    refine r_goto (tgt := 41) F (by decide) dX9_copy_72 ?_
    refine r_sub [1, 2, 3, 0] (ls' := [(0, vR l0), (1, vI l1), (2, vI l2), (3, vI (wI (l3 + 1)))]) rfl ?_
    exact hk41 h
theorem tX9_copy_41 {E : En} {p : Program} {l : Launch} {e : Env} {s : State} {m : MethodId} {args : Array Value} {below : List Frame} {meth : Method} {c : Code} {q : Int × Mem} (F : Fx E p s m args meth c cX9_copy 4 yX9_copy.cls none yX9_copy.name) : ∀ {fu : Nat} {l0 l1 l2 l3 : Int} {M : Mem}, mX9_copy_41 fu l0 l1 l2 l3 M = some q → G E p l e (rmOf 1 0 0) s m args below meth c 4 (QZ E below args s (rmOf 1 0 0) none q.2) 0 0 M 41 [(0, vR l0), (1, vI l1), (2, vI l2), (3, vI l3)] [] := by
  intro fu
  induction fu with
  | zero => intro l0 l1 l2 l3 M h; exact nomatch (show (none : Option (Int × Mem)) = some q from h)
  | succ fu ih => intro l0 l1 l2 l3 M h; exact tbX9_copy_41  (fun h => ih h) F h
theorem tbX9_copy_2 {E : En} {p : Program} {l : Launch} {e : Env} {s : State} {m : MethodId} {args : Array Value} {below : List Frame} {meth : Method} {c : Code} {q : Int × Mem} {k2 : Int → Int → Int → Int → Mem → Option (Int × Mem)} (hk2 : ∀ {l0 l1 l2 l3 : Int} {M : Mem}, k2 l0 l1 l2 l3 M = some q → G E p l e (rmOf 1 0 0) s m args below meth c 4 (QZ E below args s (rmOf 1 0 0) none q.2) 0 0 M 2 [(0, vR l0), (1, vI l1), (2, vI l2), (3, vI l3)] []) {l0 l1 l2 l3 : Int} {M : Mem} (F : Fx E p s m args meth c cX9_copy 4 yX9_copy.cls none yX9_copy.name) (h : bX9_copy_2 k2 l0 l1 l2 l3 M = some q) : G E p l e (rmOf 1 0 0) s m args below meth c 4 (QZ E below args s (rmOf 1 0 0) none q.2) 0 0 M 2 [(0, vR l0), (1, vI l1), (2, vI l2), (3, vI l3)] [] := by
  unfold bX9_copy_2 at h
  refine r_iload_n (j := 3) F rfl rfl dX9_copy_2 ?_
  refine r_sipush F rfl (by decide) dX9_copy_3 ?_
  refine r_icmp_ge (tgt := 39) F (by decide) dX9_copy_6 (fun hc => ?_) (fun hc => ?_)
  · replace h := ite_p h hc
    refine r_iconst F rfl dX9_copy_39 ?_
    refine r_istore_n (ls' := [(3, vI 0), (0, vR l0), (1, vI l1), (2, vI l2)]) F rfl (by decide) rfl dX9_copy_40 ?_
    refine r_sub [1, 2, 3, 0] (ls' := [(0, vR l0), (1, vI l1), (2, vI l2), (3, vI 0)]) rfl ?_
    exact tX9_copy_41 F h
  · replace h := ite_n h hc
    refine r_aload_n (j := 0) F rfl rfl dX9_copy_9 ?_
    replace h := bind_so h
    obtain ⟨a10, h10, h⟩ := h
    refine r_getT (t := 2) rfl clok_9 F (by decide) h10 tw_1298 dX9_copy_10 ?_
    refine r_sipush F rfl (by decide) dX9_copy_13 ?_
    refine r_iload_n (j := 2) F rfl rfl dX9_copy_16 ?_
    refine r_imul F dX9_copy_17 ?_
    refine r_iload_n (j := 3) F rfl rfl dX9_copy_18 ?_
    refine r_iadd F dX9_copy_19 ?_
    refine r_aload_n (j := 0) F rfl rfl dX9_copy_20 ?_
    replace h := bind_so h
    obtain ⟨a21, h21, h⟩ := h
    refine r_getT (t := 2) rfl clok_9 F (by decide) h21 tw_1298 dX9_copy_21 ?_
    refine r_sipush F rfl (by decide) dX9_copy_24 ?_
    refine r_iload_n (j := 1) F rfl rfl dX9_copy_27 ?_
    refine r_imul F dX9_copy_28 ?_
    refine r_iload_n (j := 3) F rfl rfl dX9_copy_29 ?_
    refine r_iadd F dX9_copy_30 ?_
    replace h := bind_so h
    obtain ⟨a31, h31, h⟩ := h
    refine r_bald F h31 dX9_copy_31 ?_
    replace h := bind_so h
    obtain ⟨M32, h32, h⟩ := h
    refine r_bast F h32 dX9_copy_32 ?_
    refine r_iinc (j := 3) (ls' := [(3, vI (wI (l3 + 1))), (0, vR l0), (1, vI l1), (2, vI l2)]) F rfl (by decide) rfl dX9_copy_33 ?_
    refine r_goto (tgt := 2) F (by decide) dX9_copy_36 ?_
    refine r_sub [1, 2, 3, 0] (ls' := [(0, vR l0), (1, vI l1), (2, vI l2), (3, vI (wI (l3 + 1)))]) rfl ?_
    exact hk2 h
theorem tX9_copy_2 {E : En} {p : Program} {l : Launch} {e : Env} {s : State} {m : MethodId} {args : Array Value} {below : List Frame} {meth : Method} {c : Code} {q : Int × Mem} (F : Fx E p s m args meth c cX9_copy 4 yX9_copy.cls none yX9_copy.name) : ∀ {fu : Nat} {l0 l1 l2 l3 : Int} {M : Mem}, mX9_copy_2 fu l0 l1 l2 l3 M = some q → G E p l e (rmOf 1 0 0) s m args below meth c 4 (QZ E below args s (rmOf 1 0 0) none q.2) 0 0 M 2 [(0, vR l0), (1, vI l1), (2, vI l2), (3, vI l3)] [] := by
  intro fu
  induction fu with
  | zero => intro l0 l1 l2 l3 M h; exact nomatch (show (none : Option (Int × Mem)) = some q from h)
  | succ fu ih => intro l0 l1 l2 l3 M h; exact tbX9_copy_2  (fun h => ih h) F h
theorem tX9_copy {l0 l1 l2 : Int} {M : Mem} {q : Int × Mem} (h : mX9_copy l0 l1 l2 M = some q) : Ct 1 0 0 yX9_copy cX9_copy 4 none [vR l0, vI l1, vI l2] M none q.2 := by
  unfold mX9_copy at h
  refine Ct.of (by decide) (Nat.le_of_ble_eq_true rfl) ?_
  intro E p l e s m args below meth c F
  refine r_sub [0, 1, 2] (ls' := [(0, vR l0), (1, vI l1), (2, vI l2)]) rfl ?_
  refine r_iconst F rfl dX9_copy_0 ?_
  refine r_istore_n (ls' := [(3, vI 0), (0, vR l0), (1, vI l1), (2, vI l2)]) F rfl (by decide) rfl dX9_copy_1 ?_
  refine r_sub [1, 2, 3, 0] (ls' := [(0, vR l0), (1, vI l1), (2, vI l2), (3, vI 0)]) rfl ?_
  exact tX9_copy_2 F h
