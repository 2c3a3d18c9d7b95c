theorem tbX9_four_3 {E : En} {p : Program} {l : Launch} {e : Env} {s : State} {m : MethodId} {args : Array Value} {below : List Frame} {meth : Method} {c : Code} {q : Int × Mem} {k3 : Int → Int → Int → Mem → Option (Int × Mem)} (hk3 : ∀ {l0 l1 l2 : Int} {M : Mem}, k3 l0 l1 l2 M = some q → G E p l e (rmOf 0 0 0) s m args below meth c 3 (QZ E below args s (rmOf 0 0 0) none q.2) 0 0 M 3 [(0, vR l0), (1, vI l1), (2, vI l2)] []) {l0 l1 l2 : Int} {M : Mem} (F : Fx E p s m args meth c cX9_four 3 yX9_four.cls none yX9_four.name) (h : bX9_four_3 k3 l0 l1 l2 M = some q) : G E p l e (rmOf 0 0 0) s m args below meth c 3 (QZ E below args s (rmOf 0 0 0) none q.2) 0 0 M 3 [(0, vR l0), (1, vI l1), (2, vI l2)] [] := by
  unfold bX9_four_3 at h
  refine r_iload_n (j := 2) F rfl rfl dX9_four_3 ?_
  refine r_if_lt (tgt := 38) F (by decide) dX9_four_4 (fun hc => ?_) (fun hc => ?_)
  · replace h := ite_p h hc
    obtain rfl := Option.some.inj h
    exact r_vret F dX9_four_38
  · replace h := ite_n h hc
    refine r_aload_n (j := 0) F rfl rfl dX9_four_7 ?_
    replace h := bind_so h
    obtain ⟨a8, h8, h⟩ := h
    refine r_getT (t := 2) rfl clok_9 F (by decide) h8 tw_1298 dX9_four_8 ?_
    refine r_aload_n (j := 0) F rfl rfl dX9_four_11 ?_
    replace h := bind_so h
    obtain ⟨a12, h12, h⟩ := h
    refine r_getT (t := 2) rfl clok_9 F (by decide) h12 tw_1299 dX9_four_12 ?_
    refine r_iconst F rfl dX9_four_15 ?_
    replace h := bind_so h
    obtain ⟨a16, h16, h⟩ := h
    refine r_iald F h16 dX9_four_16 ?_
    refine r_iload_n (j := 1) F rfl rfl dX9_four_17 ?_
    refine r_iload_n (j := 2) F rfl rfl dX9_four_18 ?_
    refine r_ishr F dX9_four_19 ?_
    refine r_i2b F dX9_four_20 ?_
    replace h := bind_so h
    obtain ⟨M21, h21, h⟩ := h
    refine r_bast F h21 dX9_four_21 ?_
    refine r_aload_n (j := 0) F rfl rfl dX9_four_22 ?_
    replace h := bind_so h
    obtain ⟨a23, h23, h⟩ := h
    refine r_getT (t := 2) rfl clok_9 F (by decide) h23 tw_1299 dX9_four_23 ?_
    refine r_iconst F rfl dX9_four_26 ?_
    refine r_dup2 F rfl rfl dX9_four_27 ?_
    replace h := bind_so h
    obtain ⟨a28, h28, h⟩ := h
    refine r_iald F h28 dX9_four_28 ?_
    refine r_iconst F rfl dX9_four_29 ?_
    refine r_iadd F dX9_four_30 ?_
    replace h := bind_so h
    obtain ⟨M31, h31, h⟩ := h
    refine r_iast F h31 dX9_four_31 ?_
    refine r_iinc (j := 2) (ls' := [(2, vI (wI (l2 + (-8)))), (0, vR l0), (1, vI l1)]) F rfl (by decide) rfl dX9_four_32 ?_
    refine r_goto (tgt := 3) F (by decide) dX9_four_35 ?_
    refine r_sub [1, 2, 0] (ls' := [(0, vR l0), (1, vI l1), (2, vI (wI (l2 + (-8))))]) rfl ?_
    exact hk3 h
theorem tX9_four_3 {E : En} {p : Program} {l : Launch} {e : Env} {s : State} {m : MethodId} {args : Array Value} {below : List Frame} {meth : Method} {c : Code} {q : Int × Mem} (F : Fx E p s m args meth c cX9_four 3 yX9_four.cls none yX9_four.name) : ∀ {fu : Nat} {l0 l1 l2 : Int} {M : Mem}, mX9_four_3 fu l0 l1 l2 M = some q → G E p l e (rmOf 0 0 0) s m args below meth c 3 (QZ E below args s (rmOf 0 0 0) none q.2) 0 0 M 3 [(0, vR l0), (1, vI l1), (2, vI l2)] [] := by
  intro fu
  induction fu with
  | zero => intro l0 l1 l2 M h; exact nomatch (show (none : Option (Int × Mem)) = some q from h)
  | succ fu ih => intro l0 l1 l2 M h; exact tbX9_four_3  (fun h => ih h) F h
theorem tX9_four {l0 l1 : Int} {M : Mem} {q : Int × Mem} (h : mX9_four l0 l1 M = some q) : Ct 0 0 0 yX9_four cX9_four 3 none [vR l0, vI l1] M none q.2 := by
  unfold mX9_four at h
  refine Ct.of (by decide) (Nat.le_of_ble_eq_true rfl) ?_
  intro E p l e s m args below meth c F
  refine r_sub [0, 1] (ls' := [(0, vR l0), (1, vI l1)]) rfl ?_
  refine r_bipush F rfl (by decide) dX9_four_0 ?_
  refine r_istore_n (ls' := [(2, vI 24), (0, vR l0), (1, vI l1)]) F rfl (by decide) rfl dX9_four_2 ?_
  refine r_sub [1, 2, 0] (ls' := [(0, vR l0), (1, vI l1), (2, vI 24)]) rfl ?_
  exact tX9_four_3 F h
theorem tX9_feed {l0 l1 l2 l3 l4 l5 : Int} {M : Mem} {q : Int × Mem} (h : mX9_feed l0 l1 l2 l3 l4 l5 M = some q) : Ct 1 0 0 yX9_feed cX9_feed 6 (some FieldType.int) [vR l0, vI l1, vI l2, vI l3, vI l4, vI l5] M (some (vI q.1)) q.2 := by
  unfold mX9_feed at h
  refine Ct.of (by decide) (Nat.le_of_ble_eq_true rfl) ?_
  intro E p l e s m args below meth c F
  refine r_sub [0, 1, 2, 3, 4, 5] (ls' := [(0, vR l0), (1, vI l1), (2, vI l2), (3, vI l3), (4, vI l4), (5, vI l5)]) rfl ?_
  refine r_aload_n (j := 0) F rfl rfl dX9_feed_0 ?_
  refine r_iconst F rfl dX9_feed_1 ?_
  replace h := bind_so h
  obtain ⟨M2, h2, h⟩ := h
  refine r_put clok_9 F (by decide) rfl (by decide) (by decide) h2 tw_1297 dX9_feed_2 ?_
  refine r_aload_n (j := 0) F rfl rfl dX9_feed_5 ?_
  replace h := bind_so h
  obtain ⟨a6, h6, h⟩ := h
  refine r_getT (t := 2) rfl clok_9 F (by decide) h6 tw_1299 dX9_feed_6 ?_
  refine r_iconst F rfl dX9_feed_9 ?_
  replace h := bind_so h
  obtain ⟨a10, h10, h⟩ := h
  refine r_iald F h10 dX9_feed_10 ?_
  refine r_bipush F rfl (by decide) dX9_feed_11 ?_
  refine r_iadd F dX9_feed_13 ?_
  refine r_sipush F rfl (by decide) dX9_feed_14 ?_
  refine r_icmp_le (tgt := 22) F (by decide) dX9_feed_17 (fun hc => ?_) (fun hc => ?_)
  · replace h := ite_p h hc
    refine r_aload_n (j := 0) F rfl rfl dX9_feed_22 ?_
    refine r_iload_n (j := 1) F rfl rfl dX9_feed_23 ?_
    replace h := bind_so h
    obtain ⟨_, g24, h⟩ := h
    replace h := bind_so h
    obtain ⟨q24, h24, h⟩ := h
    refine r_callV (as := [vI l1]) (rv := none) (kc := 0) (nc := 0) (tX9_four h24) clok_9 F (gK_so g24) tw_1587 tw_1589 tw_67 tw_1590 tw_122 ⟨by decide, by decide, show (parseMethodDescriptor yX9_four.desc).map (fun d => d.parameters.length) = some 1 by decide +kernel⟩ ⟨by decide, by decide⟩ (Nat.le_of_ble_eq_true rfl) dX9_feed_24 ?_
    refine r_aload_n (j := 0) F rfl rfl dX9_feed_27 ?_
    refine r_iload_n (j := 2) F rfl rfl dX9_feed_28 ?_
    replace h := bind_so h
    obtain ⟨_, g29, h⟩ := h
    replace h := bind_so h
    obtain ⟨q29, h29, h⟩ := h
    refine r_callV (as := [vI l2]) (rv := none) (kc := 0) (nc := 0) (tX9_four h29) clok_9 F (gK_so g29) tw_1587 tw_1589 tw_67 tw_1590 tw_122 ⟨by decide, by decide, show (parseMethodDescriptor yX9_four.desc).map (fun d => d.parameters.length) = some 1 by decide +kernel⟩ ⟨by decide, by decide⟩ (Nat.le_of_ble_eq_true rfl) dX9_feed_29 ?_
    refine r_aload_n (j := 0) F rfl rfl dX9_feed_32 ?_
    refine r_iload_n (j := 3) F rfl rfl dX9_feed_33 ?_
    replace h := bind_so h
    obtain ⟨_, g34, h⟩ := h
    replace h := bind_so h
    obtain ⟨q34, h34, h⟩ := h
    refine r_callV (as := [vI l3]) (rv := none) (kc := 0) (nc := 0) (tX9_four h34) clok_9 F (gK_so g34) tw_1587 tw_1589 tw_67 tw_1590 tw_122 ⟨by decide, by decide, show (parseMethodDescriptor yX9_four.desc).map (fun d => d.parameters.length) = some 1 by decide +kernel⟩ ⟨by decide, by decide⟩ (Nat.le_of_ble_eq_true rfl) dX9_feed_34 ?_
    refine r_aload_n (j := 0) F rfl rfl dX9_feed_37 ?_
    refine r_iload (j := 4) F rfl dX9_feed_38 ?_
    replace h := bind_so h
    obtain ⟨_, g40, h⟩ := h
    replace h := bind_so h
    obtain ⟨q40, h40, h⟩ := h
    refine r_callV (as := [vI l4]) (rv := none) (kc := 0) (nc := 0) (tX9_four h40) clok_9 F (gK_so g40) tw_1587 tw_1589 tw_67 tw_1590 tw_122 ⟨by decide, by decide, show (parseMethodDescriptor yX9_four.desc).map (fun d => d.parameters.length) = some 1 by decide +kernel⟩ ⟨by decide, by decide⟩ (Nat.le_of_ble_eq_true rfl) dX9_feed_40 ?_
    refine r_aload_n (j := 0) F rfl rfl dX9_feed_43 ?_
    refine r_iload (j := 5) F rfl dX9_feed_44 ?_
    replace h := bind_so h
    obtain ⟨_, g46, h⟩ := h
    replace h := bind_so h
    obtain ⟨q46, h46, h⟩ := h
    refine r_callV (as := [vI l5]) (rv := none) (kc := 0) (nc := 0) (tX9_four h46) clok_9 F (gK_so g46) tw_1587 tw_1589 tw_67 tw_1590 tw_122 ⟨by decide, by decide, show (parseMethodDescriptor yX9_four.desc).map (fun d => d.parameters.length) = some 1 by decide +kernel⟩ ⟨by decide, by decide⟩ (Nat.le_of_ble_eq_true rfl) dX9_feed_46 ?_
    refine r_aload_n (j := 0) F rfl rfl dX9_feed_49 ?_
    replace h := bind_so h
    obtain ⟨a50, h50, h⟩ := h
    refine r_getT (t := 2) rfl clok_9 F (by decide) h50 tw_1299 dX9_feed_50 ?_
    refine r_iconst F rfl dX9_feed_53 ?_
    replace h := bind_so h
    obtain ⟨a54, h54, h⟩ := h
    refine r_iald F h54 dX9_feed_54 ?_
    obtain rfl := Option.some.inj h
    exact r_iret F dX9_feed_55
  · replace h := ite_n h hc
    refine r_iconst F rfl dX9_feed_20 ?_
    obtain rfl := Option.some.inj h
    exact r_iret F dX9_feed_21
theorem tX9_end {l0 l1 : Int} {M : Mem} {q : Int × Mem} (h : mX9_end l0 l1 M = some q) : Ct 1 0 0 yX9_end cX9_end 2 (some FieldType.int) [vR l0, vI l1] M (some (vI q.1)) q.2 := by
  unfold mX9_end at h
  refine Ct.of (by decide) (Nat.le_of_ble_eq_true rfl) ?_
  intro E p l e s m args below meth c F
  refine r_sub [0, 1] (ls' := [(0, vR l0), (1, vI l1)]) rfl ?_
  refine r_aload_n (j := 0) F rfl rfl dX9_end_0 ?_
  refine r_iconst F rfl dX9_end_1 ?_
  replace h := bind_so h
  obtain ⟨M2, h2, h⟩ := h
  refine r_put clok_9 F (by decide) rfl (by decide) (by decide) h2 tw_1297 dX9_end_2 ?_
  refine r_iload_n (j := 1) F rfl rfl dX9_end_5 ?_
  refine r_iconst F rfl dX9_end_6 ?_
  refine r_aload_n (j := 0) F rfl rfl dX9_end_7 ?_
  replace h := bind_so h
  obtain ⟨a8, h8, h⟩ := h
  refine r_getT (t := 2) rfl clok_9 F (by decide) h8 tw_1299 dX9_end_8 ?_
  refine r_iconst F rfl dX9_end_11 ?_
  replace h := bind_so h
  obtain ⟨a12, h12, h⟩ := h
  refine r_iald F h12 dX9_end_12 ?_
  replace h := bind_so h
  obtain ⟨q13, h13, h⟩ := h
  refine r_callS (as := [vI l1, vI 0, vI a12]) (rv := (some (vI q13.1))) (kc := 0) (nc := 0) (tX9_in h13) F tw_1491 tw_1492 tw_1493 tw_122 ⟨by decide, by decide, show (parseMethodDescriptor yX9_in.desc).map (fun d => d.parameters.length) = some 3 by decide +kernel⟩ ⟨by decide, by decide⟩ (Nat.le_of_ble_eq_true rfl) dX9_end_13 ?_
  refine r_if_ne (tgt := 21) F (by decide) dX9_end_16 (fun hc => ?_) (fun hc => ?_)
  · replace h := ite_n h hc
    refine r_aload_n (j := 0) F rfl rfl dX9_end_21 ?_
    replace h := bind_so h
    obtain ⟨a22, h22, h⟩ := h
    refine r_getT (t := 2) rfl clok_9 F (by decide) h22 tw_1299 dX9_end_22 ?_
    refine r_iconst F rfl dX9_end_25 ?_
    refine r_iload_n (j := 1) F rfl rfl dX9_end_26 ?_
    replace h := bind_so h
    obtain ⟨M27, h27, h⟩ := h
    refine r_iast F h27 dX9_end_27 ?_
    refine r_iload_n (j := 1) F rfl rfl dX9_end_28 ?_
    obtain rfl := Option.some.inj h
    exact r_iret F dX9_end_29
  · replace h := ite_p h hc
    refine r_iconst F rfl dX9_end_19 ?_
    obtain rfl := Option.some.inj h
    exact r_iret F dX9_end_20
theorem tX9_see {l0 : Int} {M : Mem} {q : Int × Mem} (h : mX9_see l0 M = some q) : Ct 0 0 0 yX9_see cX9_see 1 (some FieldType.int) [vR l0] M (some (vI q.1)) q.2 := by
  unfold mX9_see at h
  refine Ct.of (by decide) (Nat.le_of_ble_eq_true rfl) ?_
  intro E p l e s m args below meth c F
  refine r_sub [0] (ls' := [(0, vR l0)]) rfl ?_
  refine r_aload_n (j := 0) F rfl rfl dX9_see_0 ?_
  replace h := bind_so h
  obtain ⟨a1, h1, h⟩ := h
  refine r_getT (t := 0) rfl clok_9 F (by decide) h1 tw_1326 dX9_see_1 ?_
  refine r_aload_n (j := 0) F rfl rfl dX9_see_4 ?_
  replace h := bind_so h
  obtain ⟨a5, h5, h⟩ := h
  refine r_getT (t := 0) rfl clok_9 F (by decide) h5 tw_1327 dX9_see_5 ?_
  refine r_icmp_ge (tgt := 27) F (by decide) dX9_see_8 (fun hc => ?_) (fun hc => ?_)
  · replace h := ite_p h hc
    refine r_iconst F rfl dX9_see_27 ?_
    obtain rfl := Option.some.inj h
    exact r_iret F dX9_see_28
  · replace h := ite_n h hc
    refine r_aload_n (j := 0) F rfl rfl dX9_see_11 ?_
    replace h := bind_so h
    obtain ⟨a12, h12, h⟩ := h
    refine r_getT (t := 2) rfl clok_9 F (by decide) h12 tw_1298 dX9_see_12 ?_
    refine r_aload_n (j := 0) F rfl rfl dX9_see_15 ?_
    replace h := bind_so h
    obtain ⟨a16, h16, h⟩ := h
    refine r_getT (t := 0) rfl clok_9 F (by decide) h16 tw_1326 dX9_see_16 ?_
    replace h := bind_so h
    obtain ⟨a19, h19, h⟩ := h
    refine r_bald F h19 dX9_see_19 ?_
    refine r_sipush F rfl (by decide) dX9_see_20 ?_
    refine r_iand F dX9_see_23 ?_
    refine r_goto (tgt := 28) F (by decide) dX9_see_24 ?_
    obtain rfl := Option.some.inj h
    exact r_iret F dX9_see_28
theorem tX9_token_235 {E : En} {p : Program} {l : Launch} {e : Env} {s : State} {m : MethodId} {args : Array Value} {below : List Frame} {meth : Method} {c : Code} {q : Int × Mem} {s0 s1 : Int} {M : Mem} (F : Fx E p s m args meth c cX9_token 3 yX9_token.cls none yX9_token.name) (h : mX9_token_235 s0 s1 M = some q) : G E p l e (rmOf 1 0 0) s m args below meth c 3 (QZ E below args s (rmOf 1 0 0) none q.2) 0 0 M 235 [] [vI s1, vR s0] := by
  unfold mX9_token_235 at h
  replace h := bind_so h
  obtain ⟨M235, h235, h⟩ := h
  refine r_put clok_9 F (by decide) rfl (by decide) (by decide) h235 tw_1329 dX9_token_235 ?_
  refine r_goto (tgt := 256) F (by decide) dX9_token_238 ?_
  obtain rfl := Option.some.inj h
  exact r_vret F dX9_token_256
theorem tX9_token_205 {E : En} {p : Program} {l : Launch} {e : Env} {s : State} {m : MethodId} {args : Array Value} {below : List Frame} {meth : Method} {c : Code} {q : Int × Mem} {k163 : Int → Int → Mem → Option (Int × Mem)} (hk163 : ∀ {l0 l2 : Int} {M : Mem}, k163 l0 l2 M = some q → G E p l e (rmOf 1 0 0) s m args below meth c 3 (QZ E below args s (rmOf 1 0 0) none q.2) 0 0 M 163 [(0, vR l0), (2, vI l2)] []) {l0 l2 s0 s1 : Int} {M : Mem} (F : Fx E p s m args meth c cX9_token 3 yX9_token.cls none yX9_token.name) (h : mX9_token_205 k163 l0 l2 s0 s1 M = some q) : G E p l e (rmOf 1 0 0) s m args below meth c 3 (QZ E below args s (rmOf 1 0 0) none q.2) 0 0 M 205 [(0, vR l0), (2, vI l2)] [vI s1, vR s0] := by
  unfold mX9_token_205 at h
  replace h := bind_so h
  obtain ⟨M205, h205, h⟩ := h
  refine r_put clok_9 F (by decide) rfl (by decide) (by decide) h205 tw_1330 dX9_token_205 ?_
  refine r_aload_n (j := 0) F rfl rfl dX9_token_208 ?_
  refine r_dup1 F rfl dX9_token_209 ?_
  replace h := bind_so h
  obtain ⟨a210, h210, h⟩ := h
  refine r_getT (t := 0) rfl clok_9 F (by decide) h210 tw_1326 dX9_token_210 ?_
  refine r_iconst F rfl dX9_token_213 ?_
  refine r_iadd F dX9_token_214 ?_
  replace h := bind_so h
  obtain ⟨M215, h215, h⟩ := h
  refine r_put clok_9 F (by decide) rfl (by decide) (by decide) h215 tw_1326 dX9_token_215 ?_
  refine r_iinc (j := 1) (ls' := [(2, vI (wI (l2 + 1))), (0, vR l0)]) F rfl (by decide) rfl dX9_token_218 ?_
  refine r_goto (tgt := 163) F (by decide) dX9_token_221 ?_
  refine r_sub [1, 0] (ls' := [(0, vR l0), (2, vI (wI (l2 + 1)))]) rfl ?_
  exact hk163 h
theorem tbX9_token_163 {E : En} {p : Program} {l : Launch} {e : Env} {s : State} {m : MethodId} {args : Array Value} {below : List Frame} {meth : Method} {c : Code} {q : Int × Mem} {k163 : Int → Int → Mem → Option (Int × Mem)} (hk163 : ∀ {l0 l2 : Int} {M : Mem}, k163 l0 l2 M = some q → G E p l e (rmOf 1 0 0) s m args below meth c 3 (QZ E below args s (rmOf 1 0 0) none q.2) 0 0 M 163 [(0, vR l0), (2, vI l2)] []) {l0 l2 : Int} {M : Mem} (F : Fx E p s m args meth c cX9_token 3 yX9_token.cls none yX9_token.name) (h : bX9_token_163 k163 l0 l2 M = some q) : G E p l e (rmOf 1 0 0) s m args below meth c 3 (QZ E below args s (rmOf 1 0 0) none q.2) 0 0 M 163 [(0, vR l0), (2, vI l2)] [] := by
  unfold bX9_token_163 at h
  refine r_aload_n (j := 0) F rfl rfl dX9_token_163 ?_
  replace h := bind_so h
  obtain ⟨_, g164, h⟩ := h
  replace h := bind_so h
  obtain ⟨q164, h164, h⟩ := h
  refine r_callV (as := []) (rv := (some (vI q164.1))) (kc := 0) (nc := 0) (tX9_see h164) clok_9 F (gK_so g164) tw_1611 tw_1613 tw_71 tw_1614 tw_122 ⟨by decide, by decide, show (parseMethodDescriptor yX9_see.desc).map (fun d => d.parameters.length) = some 0 by decide +kernel⟩ ⟨by decide, by decide⟩ (Nat.le_of_ble_eq_true rfl) dX9_token_164 ?_
  refine r_bipush F rfl (by decide) dX9_token_167 ?_
  refine r_bipush F rfl (by decide) dX9_token_169 ?_
  replace h := bind_so h
  obtain ⟨q171, h171, h⟩ := h
  refine r_callS (as := [vI q164.1, vI 48, vI 57]) (rv := (some (vI q171.1))) (kc := 0) (nc := 0) (tX9_in h171) F tw_1491 tw_1492 tw_1493 tw_122 ⟨by decide, by decide, show (parseMethodDescriptor yX9_in.desc).map (fun d => d.parameters.length) = some 3 by decide +kernel⟩ ⟨by decide, by decide⟩ (Nat.le_of_ble_eq_true rfl) dX9_token_171 ?_
  refine r_if_eq (tgt := 224) F (by decide) dX9_token_174 (fun hc => ?_) (fun hc => ?_)
  · replace h := ite_p h hc
    refine r_aload_n (j := 0) F rfl rfl dX9_token_224 ?_
    refine r_iload_n (j := 1) F rfl rfl dX9_token_225 ?_
    refine r_iconst F rfl dX9_token_226 ?_
    refine r_icmp_le (tgt := 234) F (by decide) dX9_token_227 (fun hc => ?_) (fun hc => ?_)
    · replace h := ite_p h hc
      refine r_iconst F rfl dX9_token_234 ?_
      refine r_sub [] (ls' := []) rfl ?_
      exact tX9_token_235 F h
    · replace h := ite_n h hc
      refine r_iconst F rfl dX9_token_230 ?_
      refine r_goto (tgt := 235) F (by decide) dX9_token_231 ?_
      refine r_sub [] (ls' := []) rfl ?_
      exact tX9_token_235 F h
  · replace h := ite_n h hc
    refine r_aload_n (j := 0) F rfl rfl dX9_token_177 ?_
    refine r_iload_n (j := 1) F rfl rfl dX9_token_178 ?_
    refine r_iconst F rfl dX9_token_179 ?_
    refine r_icmp_ge (tgt := 201) F (by decide) dX9_token_180 (fun hc => ?_) (fun hc => ?_)
    · replace h := ite_p h hc
      refine r_aload_n (j := 0) F rfl rfl dX9_token_201 ?_
      replace h := bind_so h
      obtain ⟨a202, h202, h⟩ := h
      refine r_getT (t := 0) rfl clok_9 F (by decide) h202 tw_1330 dX9_token_202 ?_
      refine r_sub [0, 1] (ls' := [(0, vR l0), (2, vI l2)]) rfl ?_
      exact tX9_token_205 (fun h => hk163 h) F h
    · replace h := ite_n h hc
      refine r_bipush F rfl (by decide) dX9_token_183 ?_
      refine r_aload_n (j := 0) F rfl rfl dX9_token_185 ?_
      replace h := bind_so h
      obtain ⟨a186, h186, h⟩ := h
      refine r_getT (t := 0) rfl clok_9 F (by decide) h186 tw_1330 dX9_token_186 ?_
      refine r_imul F dX9_token_189 ?_
      refine r_aload_n (j := 0) F rfl rfl dX9_token_190 ?_
      replace h := bind_so h
      obtain ⟨_, g191, h⟩ := h
      replace h := bind_so h
      obtain ⟨q191, h191, h⟩ := h
      refine r_callV (as := []) (rv := (some (vI q191.1))) (kc := 0) (nc := 0) (tX9_see h191) clok_9 F (gK_so g191) tw_1611 tw_1613 tw_71 tw_1614 tw_122 ⟨by decide, by decide, show (parseMethodDescriptor yX9_see.desc).map (fun d => d.parameters.length) = some 0 by decide +kernel⟩ ⟨by decide, by decide⟩ (Nat.le_of_ble_eq_true rfl) dX9_token_191 ?_
      refine r_iadd F dX9_token_194 ?_
      refine r_bipush F rfl (by decide) dX9_token_195 ?_
      refine r_isub F dX9_token_197 ?_
      refine r_goto (tgt := 205) F (by decide) dX9_token_198 ?_
      refine r_sub [0, 1] (ls' := [(0, vR l0), (2, vI l2)]) rfl ?_
      exact tX9_token_205 (fun h => hk163 h) F h
theorem tX9_token_163 {E : En} {p : Program} {l : Launch} {e : Env} {s : State} {m : MethodId} {args : Array Value} {below : List Frame} {meth : Method} {c : Code} {q : Int × Mem} (F : Fx E p s m args meth c cX9_token 3 yX9_token.cls none yX9_token.name) : ∀ {fu : Nat} {l0 l2 : Int} {M : Mem}, mX9_token_163 fu l0 l2 M = some q → G E p l e (rmOf 1 0 0) s m args below meth c 3 (QZ E below args s (rmOf 1 0 0) none q.2) 0 0 M 163 [(0, vR l0), (2, vI l2)] [] := by
  intro fu
  induction fu with
  | zero => intro l0 l2 M h; exact nomatch (show (none : Option (Int × Mem)) = some q from h)
  | succ fu ih => intro l0 l2 M h; exact tbX9_token_163  (fun h => ih h) F h
theorem tX9_token_141 {E : En} {p : Program} {l : Launch} {e : Env} {s : State} {m : MethodId} {args : Array Value} {below : List Frame} {meth : Method} {c : Code} {q : Int × Mem} {l0 s0 s1 : Int} {M : Mem} (F : Fx E p s m args meth c cX9_token 3 yX9_token.cls none yX9_token.name) (h : mX9_token_141 l0 s0 s1 M = some q) : G E p l e (rmOf 1 0 0) s m args below meth c 3 (QZ E below args s (rmOf 1 0 0) none q.2) 0 0 M 141 [(0, vR l0)] [vL s1, vR s0] := by
  unfold mX9_token_141 at h
  replace h := bind_so h
  obtain ⟨M141, h141, h⟩ := h
  refine r_put clok_9 F (by decide) rfl (by decide) (by decide) h141 tw_1331 dX9_token_141 ?_
  refine r_aload_n (j := 0) F rfl rfl dX9_token_144 ?_
  refine r_iconst F rfl dX9_token_145 ?_
  replace h := bind_so h
  obtain ⟨M146, h146, h⟩ := h
  refine r_put clok_9 F (by decide) rfl (by decide) (by decide) h146 tw_1329 dX9_token_146 ?_
  refine r_goto (tgt := 256) F (by decide) dX9_token_149 ?_
  obtain rfl := Option.some.inj h
  exact r_vret F dX9_token_256
theorem tbX9_token_79 {E : En} {p : Program} {l : Launch} {e : Env} {s : State} {m : MethodId} {args : Array Value} {below : List Frame} {meth : Method} {c : Code} {q : Int × Mem} {k79 : Int → Int → Mem → Option (Int × Mem)} (hk79 : ∀ {l0 l2 : Int} {M : Mem}, k79 l0 l2 M = some q → G E p l e (rmOf 1 0 0) s m args below meth c 3 (QZ E below args s (rmOf 1 0 0) none q.2) 0 0 M 79 [(0, vR l0), (2, vI l2)] []) {l0 l2 : Int} {M : Mem} (F : Fx E p s m args meth c cX9_token 3 yX9_token.cls none yX9_token.name) (h : bX9_token_79 k79 l0 l2 M = some q) : G E p l e (rmOf 1 0 0) s m args below meth c 3 (QZ E below args s (rmOf 1 0 0) none q.2) 0 0 M 79 [(0, vR l0), (2, vI l2)] [] := by
  unfold bX9_token_79 at h
  refine r_aload_n (j := 0) F rfl rfl dX9_token_79 ?_
  replace h := bind_so h
  obtain ⟨_, g80, h⟩ := h
  replace h := bind_so h
  obtain ⟨q80, h80, h⟩ := h
  refine r_callV (as := []) (rv := (some (vI q80.1))) (kc := 0) (nc := 0) (tX9_see h80) clok_9 F (gK_so g80) tw_1611 tw_1613 tw_71 tw_1614 tw_122 ⟨by decide, by decide, show (parseMethodDescriptor yX9_see.desc).map (fun d => d.parameters.length) = some 0 by decide +kernel⟩ ⟨by decide, by decide⟩ (Nat.le_of_ble_eq_true rfl) dX9_token_80 ?_
  refine r_bipush F rfl (by decide) dX9_token_83 ?_
  refine r_bipush F rfl (by decide) dX9_token_85 ?_
  replace h := bind_so h
  obtain ⟨q87, h87, h⟩ := h
  refine r_callS (as := [vI q80.1, vI 97, vI 122]) (rv := (some (vI q87.1))) (kc := 0) (nc := 0) (tX9_in h87) F tw_1491 tw_1492 tw_1493 tw_122 ⟨by decide, by decide, show (parseMethodDescriptor yX9_in.desc).map (fun d => d.parameters.length) = some 3 by decide +kernel⟩ ⟨by decide, by decide⟩ (Nat.le_of_ble_eq_true rfl) dX9_token_87 ?_
  refine r_if_eq (tgt := 126) F (by decide) dX9_token_90 (fun hc => ?_) (fun hc => ?_)
  · replace h := ite_p h hc
    refine r_aload_n (j := 0) F rfl rfl dX9_token_126 ?_
    refine r_iload_n (j := 1) F rfl rfl dX9_token_127 ?_
    refine r_bipush F rfl (by decide) dX9_token_128 ?_
    refine r_icmp_le (tgt := 137) F (by decide) dX9_token_130 (fun hc => ?_) (fun hc => ?_)
    · replace h := ite_p h hc
      refine r_aload_n (j := 0) F rfl rfl dX9_token_137 ?_
      replace h := bind_so h
      obtain ⟨a138, h138, h⟩ := h
      refine r_getT (t := 1) rfl clok_9 F (by decide) h138 tw_1331 dX9_token_138 ?_
      refine r_sub [0] (ls' := [(0, vR l0)]) rfl ?_
      exact tX9_token_141 F h
    · replace h := ite_n h hc
      refine r_lconst F dX9_token_133 ?_
      refine r_eq (y := 0) rfl ?_
      refine r_goto (tgt := 141) F (by decide) dX9_token_134 ?_
      refine r_sub [0] (ls' := [(0, vR l0)]) rfl ?_
      exact tX9_token_141 F h
  · replace h := ite_n h hc
    refine r_aload_n (j := 0) F rfl rfl dX9_token_93 ?_
    refine r_aload_n (j := 0) F rfl rfl dX9_token_94 ?_
    replace h := bind_so h
    obtain ⟨a95, h95, h⟩ := h
    refine r_getT (t := 1) rfl clok_9 F (by decide) h95 tw_1331 dX9_token_95 ?_
    refine r_bipush F rfl (by decide) dX9_token_98 ?_
    refine r_lshl F dX9_token_100 ?_
    refine r_aload_n (j := 0) F rfl rfl dX9_token_101 ?_
    replace h := bind_so h
    obtain ⟨_, g102, h⟩ := h
    replace h := bind_so h
    obtain ⟨q102, h102, h⟩ := h
    refine r_callV (as := []) (rv := (some (vI q102.1))) (kc := 0) (nc := 0) (tX9_see h102) clok_9 F (gK_so g102) tw_1611 tw_1613 tw_71 tw_1614 tw_122 ⟨by decide, by decide, show (parseMethodDescriptor yX9_see.desc).map (fun d => d.parameters.length) = some 0 by decide +kernel⟩ ⟨by decide, by decide⟩ (Nat.le_of_ble_eq_true rfl) dX9_token_102 ?_
    refine r_i2l F dX9_token_105 ?_
    refine r_lor F dX9_token_106 ?_
    replace h := bind_so h
    obtain ⟨M107, h107, h⟩ := h
    refine r_put clok_9 F (by decide) rfl (by decide) (by decide) h107 tw_1331 dX9_token_107 ?_
    refine r_aload_n (j := 0) F rfl rfl dX9_token_110 ?_
    refine r_dup1 F rfl dX9_token_111 ?_
    replace h := bind_so h
    obtain ⟨a112, h112, h⟩ := h
    refine r_getT (t := 0) rfl clok_9 F (by decide) h112 tw_1326 dX9_token_112 ?_
    refine r_iconst F rfl dX9_token_115 ?_
    refine r_iadd F dX9_token_116 ?_
    replace h := bind_so h
    obtain ⟨M117, h117, h⟩ := h
    refine r_put clok_9 F (by decide) rfl (by decide) (by decide) h117 tw_1326 dX9_token_117 ?_
    refine r_iinc (j := 1) (ls' := [(2, vI (wI (l2 + 1))), (0, vR l0)]) F rfl (by decide) rfl dX9_token_120 ?_
    refine r_goto (tgt := 79) F (by decide) dX9_token_123 ?_
    refine r_sub [1, 0] (ls' := [(0, vR l0), (2, vI (wI (l2 + 1)))]) rfl ?_
    exact hk79 h
theorem tX9_token_79 {E : En} {p : Program} {l : Launch} {e : Env} {s : State} {m : MethodId} {args : Array Value} {below : List Frame} {meth : Method} {c : Code} {q : Int × Mem} (F : Fx E p s m args meth c cX9_token 3 yX9_token.cls none yX9_token.name) : ∀ {fu : Nat} {l0 l2 : Int} {M : Mem}, mX9_token_79 fu l0 l2 M = some q → G E p l e (rmOf 1 0 0) s m args below meth c 3 (QZ E below args s (rmOf 1 0 0) none q.2) 0 0 M 79 [(0, vR l0), (2, vI l2)] [] := by
  intro fu
  induction fu with
  | zero => intro l0 l2 M h; exact nomatch (show (none : Option (Int × Mem)) = some q from h)
  | succ fu ih => intro l0 l2 M h; exact tbX9_token_79  (fun h => ih h) F h
theorem tX9_token_18 {E : En} {p : Program} {l : Launch} {e : Env} {s : State} {m : MethodId} {args : Array Value} {below : List Frame} {meth : Method} {c : Code} {q : Int × Mem} {k0 : Int → Mem → Option (Int × Mem)} (hk0 : ∀ {l0 : Int} {M : Mem}, k0 l0 M = some q → G E p l e (rmOf 1 0 0) s m args below meth c 3 (QZ E below args s (rmOf 1 0 0) none q.2) 0 0 M 0 [(0, vR l0)] []) {l0 : Int} {M : Mem} (F : Fx E p s m args meth c cX9_token 3 yX9_token.cls none yX9_token.name) (h : mX9_token_18 k0 l0 M = some q) : G E p l e (rmOf 1 0 0) s m args below meth c 3 (QZ E below args s (rmOf 1 0 0) none q.2) 0 0 M 18 [(0, vR l0)] [] := by
  unfold mX9_token_18 at h
  refine r_aload_n (j := 0) F rfl rfl dX9_token_18 ?_
  refine r_dup1 F rfl dX9_token_19 ?_
  replace h := bind_so h
  obtain ⟨a20, h20, h⟩ := h
  refine r_getT (t := 0) rfl clok_9 F (by decide) h20 tw_1326 dX9_token_20 ?_
  refine r_iconst F rfl dX9_token_23 ?_
  refine r_iadd F dX9_token_24 ?_
  replace h := bind_so h
  obtain ⟨M25, h25, h⟩ := h
  refine r_put clok_9 F (by decide) rfl (by decide) (by decide) h25 tw_1326 dX9_token_25 ?_
  refine r_goto (tgt := 0) F (by decide) dX9_token_28 ?_
  refine r_sub [0] (ls' := [(0, vR l0)]) rfl ?_
  exact hk0 h
theorem tbX9_token_0 {E : En} {p : Program} {l : Launch} {e : Env} {s : State} {m : MethodId} {args : Array Value} {below : List Frame} {meth : Method} {c : Code} {q : Int × Mem} {k0 : Int → Mem → Option (Int × Mem)} (hk0 : ∀ {l0 : Int} {M : Mem}, k0 l0 M = some q → G E p l e (rmOf 1 0 0) s m args below meth c 3 (QZ E below args s (rmOf 1 0 0) none q.2) 0 0 M 0 [(0, vR l0)] []) {l0 : Int} {M : Mem} (F : Fx E p s m args meth c cX9_token 3 yX9_token.cls none yX9_token.name) (h : bX9_token_0 k0 l0 M = some q) : G E p l e (rmOf 1 0 0) s m args below meth c 3 (QZ E below args s (rmOf 1 0 0) none q.2) 0 0 M 0 [(0, vR l0)] [] := by
  unfold bX9_token_0 at h
  refine r_aload_n (j := 0) F rfl rfl dX9_token_0 ?_
  replace h := bind_so h
  obtain ⟨_, g1, h⟩ := h
  replace h := bind_so h
  obtain ⟨q1, h1, h⟩ := h
  refine r_callV (as := []) (rv := (some (vI q1.1))) (kc := 0) (nc := 0) (tX9_see h1) clok_9 F (gK_so g1) tw_1611 tw_1613 tw_71 tw_1614 tw_122 ⟨by decide, by decide, show (parseMethodDescriptor yX9_see.desc).map (fun d => d.parameters.length) = some 0 by decide +kernel⟩ ⟨by decide, by decide⟩ (Nat.le_of_ble_eq_true rfl) dX9_token_1 ?_
  refine r_bipush F rfl (by decide) dX9_token_4 ?_
  refine r_icmp_eq (tgt := 18) F (by decide) dX9_token_6 (fun hc => ?_) (fun hc => ?_)
  · replace h := ite_p h hc
    refine r_sub [0] (ls' := [(0, vR l0)]) rfl ?_
    exact tX9_token_18 (fun h => hk0 h) F h
  · replace h := ite_n h hc
    refine r_aload_n (j := 0) F rfl rfl dX9_token_9 ?_
    replace h := bind_so h
    obtain ⟨_, g10, h⟩ := h
    replace h := bind_so h
    obtain ⟨q10, h10, h⟩ := h
    refine r_callV (as := []) (rv := (some (vI q10.1))) (kc := 0) (nc := 0) (tX9_see h10) clok_9 F (gK_so g10) tw_1611 tw_1613 tw_71 tw_1614 tw_122 ⟨by decide, by decide, show (parseMethodDescriptor yX9_see.desc).map (fun d => d.parameters.length) = some 0 by decide +kernel⟩ ⟨by decide, by decide⟩ (Nat.le_of_ble_eq_true rfl) dX9_token_10 ?_
    refine r_bipush F rfl (by decide) dX9_token_13 ?_
    refine r_icmp_ne (tgt := 31) F (by decide) dX9_token_15 (fun hc => ?_) (fun hc => ?_)
    · replace h := ite_n h hc
      refine r_aload_n (j := 0) F rfl rfl dX9_token_31 ?_
      refine r_aload_n (j := 0) F rfl rfl dX9_token_32 ?_
      replace h := bind_so h
      obtain ⟨a33, h33, h⟩ := h
      refine r_getT (t := 0) rfl clok_9 F (by decide) h33 tw_1326 dX9_token_33 ?_
      replace h := bind_so h
      obtain ⟨M36, h36, h⟩ := h
      refine r_put clok_9 F (by decide) rfl (by decide) (by decide) h36 tw_1328 dX9_token_36 ?_
      refine r_aload_n (j := 0) F rfl rfl dX9_token_39 ?_
      replace h := bind_so h
      obtain ⟨_, g40, h⟩ := h
      replace h := bind_so h
      obtain ⟨q40, h40, h⟩ := h
      refine r_callV (as := []) (rv := (some (vI q40.1))) (kc := 0) (nc := 0) (tX9_see h40) clok_9 F (gK_so g40) tw_1611 tw_1613 tw_71 tw_1614 tw_122 ⟨by decide, by decide, show (parseMethodDescriptor yX9_see.desc).map (fun d => d.parameters.length) = some 0 by decide +kernel⟩ ⟨by decide, by decide⟩ (Nat.le_of_ble_eq_true rfl) dX9_token_40 ?_
      refine r_istore_n (ls' := [(1, vI q40.1), (0, vR l0)]) F rfl (by decide) rfl dX9_token_43 ?_
      refine r_aload_n (j := 1) F rfl rfl dX9_token_44 ?_
      refine r_iconst F rfl dX9_token_45 ?_
      replace h := bind_so h
      obtain ⟨M46, h46, h⟩ := h
      refine r_put clok_9 F (by decide) rfl (by decide) (by decide) h46 tw_1330 dX9_token_46 ?_
      refine r_aload_n (j := 1) F rfl rfl dX9_token_49 ?_
      refine r_lconst F dX9_token_50 ?_
      refine r_eq (y := 0) rfl ?_
      replace h := bind_so h
      obtain ⟨M51, h51, h⟩ := h
      refine r_put clok_9 F (by decide) rfl (by decide) (by decide) h51 tw_1331 dX9_token_51 ?_
      refine r_iconst F rfl dX9_token_54 ?_
      refine r_istore_n (ls' := [(2, vI 0), (1, vI q40.1), (0, vR l0)]) F rfl (by decide) rfl dX9_token_55 ?_
      refine r_iload_n (j := 1) F rfl rfl dX9_token_56 ?_
      refine r_if_ge (tgt := 68) F (by decide) dX9_token_57 (fun hc => ?_) (fun hc => ?_)
      · replace h := ite_p h hc
        refine r_iload_n (j := 1) F rfl rfl dX9_token_68 ?_
        refine r_bipush F rfl (by decide) dX9_token_69 ?_
        refine r_bipush F rfl (by decide) dX9_token_71 ?_
        replace h := bind_so h
        obtain ⟨q73, h73, h⟩ := h
        refine r_callS (as := [vI q40.1, vI 97, vI 122]) (rv := (some (vI q73.1))) (kc := 0) (nc := 0) (tX9_in h73) F tw_1491 tw_1492 tw_1493 tw_122 ⟨by decide, by decide, show (parseMethodDescriptor yX9_in.desc).map (fun d => d.parameters.length) = some 3 by decide +kernel⟩ ⟨by decide, by decide⟩ (Nat.le_of_ble_eq_true rfl) dX9_token_73 ?_
        refine r_if_eq (tgt := 152) F (by decide) dX9_token_76 (fun hc => ?_) (fun hc => ?_)
        · replace h := ite_p h hc
          refine r_iload_n (j := 1) F rfl rfl dX9_token_152 ?_
          refine r_bipush F rfl (by decide) dX9_token_153 ?_
          refine r_bipush F rfl (by decide) dX9_token_155 ?_
          replace h := bind_so h
          obtain ⟨q157, h157, h⟩ := h
          refine r_callS (as := [vI q40.1, vI 48, vI 57]) (rv := (some (vI q157.1))) (kc := 0) (nc := 0) (tX9_in h157) F tw_1491 tw_1492 tw_1493 tw_122 ⟨by decide, by decide, show (parseMethodDescriptor yX9_in.desc).map (fun d => d.parameters.length) = some 3 by decide +kernel⟩ ⟨by decide, by decide⟩ (Nat.le_of_ble_eq_true rfl) dX9_token_157 ?_
          refine r_if_eq (tgt := 241) F (by decide) dX9_token_160 (fun hc => ?_) (fun hc => ?_)
          · replace h := ite_p h hc
            refine r_aload_n (j := 2) F rfl rfl dX9_token_241 ?_
            refine r_dup1 F rfl dX9_token_242 ?_
            replace h := bind_so h
            obtain ⟨a243, h243, h⟩ := h
            refine r_getT (t := 0) rfl clok_9 F (by decide) h243 tw_1326 dX9_token_243 ?_
            refine r_iconst F rfl dX9_token_246 ?_
            refine r_iadd F dX9_token_247 ?_
            replace h := bind_so h
            obtain ⟨M248, h248, h⟩ := h
            refine r_put clok_9 F (by decide) rfl (by decide) (by decide) h248 tw_1326 dX9_token_248 ?_
            refine r_aload_n (j := 2) F rfl rfl dX9_token_251 ?_
            refine r_iconst F rfl dX9_token_252 ?_
            replace h := bind_so h
            obtain ⟨M253, h253, h⟩ := h
            refine r_put clok_9 F (by decide) rfl (by decide) (by decide) h253 tw_1329 dX9_token_253 ?_
            obtain rfl := Option.some.inj h
            exact r_vret F dX9_token_256
          · replace h := ite_n h hc
            refine r_sub [2, 0] (ls' := [(0, vR l0), (2, vI 0)]) rfl ?_
            exact tX9_token_163 F h
        · replace h := ite_n h hc
          refine r_sub [2, 0] (ls' := [(0, vR l0), (2, vI 0)]) rfl ?_
          exact tX9_token_79 F h
      · replace h := ite_n h hc
        refine r_aload_n (j := 2) F rfl rfl dX9_token_60 ?_
        refine r_iconst F rfl dX9_token_61 ?_
        replace h := bind_so h
        obtain ⟨M62, h62, h⟩ := h
        refine r_put clok_9 F (by decide) rfl (by decide) (by decide) h62 tw_1329 dX9_token_62 ?_
        refine r_goto (tgt := 256) F (by decide) dX9_token_65 ?_
        obtain rfl := Option.some.inj h
        exact r_vret F dX9_token_256
    · replace h := ite_p h hc
      refine r_sub [0] (ls' := [(0, vR l0)]) rfl ?_
      exact tX9_token_18 (fun h => hk0 h) F h
theorem tX9_token_0 {E : En} {p : Program} {l : Launch} {e : Env} {s : State} {m : MethodId} {args : Array Value} {below : List Frame} {meth : Method} {c : Code} {q : Int × Mem} (F : Fx E p s m args meth c cX9_token 3 yX9_token.cls none yX9_token.name) : ∀ {fu : Nat} {l0 : Int} {M : Mem}, mX9_token_0 fu l0 M = some q → G E p l e (rmOf 1 0 0) s m args below meth c 3 (QZ E below args s (rmOf 1 0 0) none q.2) 0 0 M 0 [(0, vR l0)] [] := by
  intro fu
  induction fu with
  | zero => intro l0 M h; exact nomatch (show (none : Option (Int × Mem)) = some q from h)
  | succ fu ih => intro l0 M h; exact tbX9_token_0  (fun h => ih h) F h
theorem tX9_token {l0 : Int} {M : Mem} {q : Int × Mem} (h : mX9_token l0 M = some q) : Ct 1 0 0 yX9_token cX9_token 3 none [vR l0] M none q.2 := by
  unfold mX9_token at h
  refine Ct.of (by decide) (Nat.le_of_ble_eq_true rfl) ?_
  intro E p l e s m args below meth c F
  refine r_sub [0] (ls' := [(0, vR l0)]) rfl ?_
  refine r_sub [0] (ls' := [(0, vR l0)]) rfl ?_
  exact tX9_token_0 F h
theorem tX9_isWord {l0 l1 : Int} {M : Mem} {q : Int × Mem} (h : mX9_isWord l0 l1 M = some q) : Ct 0 0 0 yX9_isWord cX9_isWord 3 (some FieldType.boolean) [vR l0, vL l1] M (some (vI q.1)) q.2 := by
  unfold mX9_isWord at h
  refine Ct.of (by decide) (Nat.le_of_ble_eq_true rfl) ?_
  intro E p l e s m args below meth c F
  refine r_sub [0, 1] (ls' := [(0, vR l0), (1, vL l1)]) rfl ?_
  refine r_aload_n (j := 0) F rfl rfl dX9_isWord_0 ?_
  replace h := bind_so h
  obtain ⟨a1, h1, h⟩ := h
  refine r_getT (t := 0) rfl clok_9 F (by decide) h1 tw_1329 dX9_isWord_1 ?_
  refine r_iconst F rfl dX9_isWord_4 ?_
  refine r_icmp_ne (tgt := 21) F (by decide) dX9_isWord_5 (fun hc => ?_) (fun hc => ?_)
  · replace h := ite_n h hc
    refine r_iconst F rfl dX9_isWord_21 ?_
    obtain rfl := Option.some.inj h
    exact r_zret (Or.inl rfl) F dX9_isWord_22
  · replace h := ite_p h hc
    refine r_aload_n (j := 0) F rfl rfl dX9_isWord_8 ?_
    replace h := bind_so h
    obtain ⟨a9, h9, h⟩ := h
    refine r_getT (t := 1) rfl clok_9 F (by decide) h9 tw_1331 dX9_isWord_9 ?_
    refine r_lload_n (j := 1) F rfl rfl dX9_isWord_12 ?_
    refine r_lcmp F dX9_isWord_13 ?_
    refine r_if_ne (tgt := 21) F (by decide) dX9_isWord_14 (fun hc => ?_) (fun hc => ?_)
    · replace h := ite_n h hc
      refine r_iconst F rfl dX9_isWord_21 ?_
      obtain rfl := Option.some.inj h
      exact r_zret (Or.inl rfl) F dX9_isWord_22
    · replace h := ite_p h hc
      refine r_iconst F rfl dX9_isWord_17 ?_
      refine r_goto (tgt := 22) F (by decide) dX9_isWord_18 ?_
      obtain rfl := Option.some.inj h
      exact r_zret (Or.inr rfl) F dX9_isWord_22
theorem tX9_actOf {l0 : Int} {M : Mem} {q : Int × Mem} (h : mX9_actOf l0 M = some q) : Ct 1 0 0 yX9_actOf cX9_actOf 1 (some FieldType.int) [vR l0] M (some (vI q.1)) q.2 := by
  unfold mX9_actOf at h
  refine Ct.of (by decide) (Nat.le_of_ble_eq_true rfl) ?_
  intro E p l e s m args below meth c F
  refine r_sub [0] (ls' := [(0, vR l0)]) rfl ?_
  refine r_aload_n (j := 0) F rfl rfl dX9_actOf_0 ?_
  refine r_ldc2v (x := 6384748) F (by unfold InL; omega) (by decide) tw_1627 dX9_actOf_1 ?_
  replace h := bind_so h
  obtain ⟨_, g4, h⟩ := h
  replace h := bind_so h
  obtain ⟨q4, h4, h⟩ := h
  refine r_callV (as := [vL 6384748]) (rv := (some (vI q4.1))) (kc := 0) (nc := 0) (tX9_isWord h4) clok_9 F (gK_so g4) tw_1628 tw_1630 tw_75 tw_1631 tw_122 ⟨by decide, by decide, show (parseMethodDescriptor yX9_isWord.desc).map (fun d => d.parameters.length) = some 1 by decide +kernel⟩ ⟨by decide, by decide⟩ (Nat.le_of_ble_eq_true rfl) dX9_actOf_4 ?_
  refine r_if_eq (tgt := 14) F (by decide) dX9_actOf_7 (fun hc => ?_) (fun hc => ?_)
  · replace h := ite_p h hc
    refine r_aload_n (j := 0) F rfl rfl dX9_actOf_14 ?_
    refine r_ldc2v (x := 1936682341) F (by unfold InL; omega) (by decide) tw_1632 dX9_actOf_15 ?_
    replace h := bind_so h
    obtain ⟨_, g18, h⟩ := h
    replace h := bind_so h
    obtain ⟨q18, h18, h⟩ := h
    refine r_callV (as := [vL 1936682341]) (rv := (some (vI q18.1))) (kc := 0) (nc := 0) (tX9_isWord h18) clok_9 F (gK_so g18) tw_1628 tw_1630 tw_75 tw_1631 tw_122 ⟨by decide, by decide, show (parseMethodDescriptor yX9_isWord.desc).map (fun d => d.parameters.length) = some 1 by decide +kernel⟩ ⟨by decide, by decide⟩ (Nat.le_of_ble_eq_true rfl) dX9_actOf_18 ?_
    refine r_if_eq (tgt := 28) F (by decide) dX9_actOf_21 (fun hc => ?_) (fun hc => ?_)
    · replace h := ite_p h hc
      refine r_aload_n (j := 0) F rfl rfl dX9_actOf_28 ?_
      refine r_ldc2v (x := 465557353332) F (by unfold InL; omega) (by decide) tw_1633 dX9_actOf_29 ?_
      replace h := bind_so h
      obtain ⟨_, g32, h⟩ := h
      replace h := bind_so h
      obtain ⟨q32, h32, h⟩ := h
      refine r_callV (as := [vL 465557353332]) (rv := (some (vI q32.1))) (kc := 0) (nc := 0) (tX9_isWord h32) clok_9 F (gK_so g32) tw_1628 tw_1630 tw_75 tw_1631 tw_122 ⟨by decide, by decide, show (parseMethodDescriptor yX9_isWord.desc).map (fun d => d.parameters.length) = some 1 by decide +kernel⟩ ⟨by decide, by decide⟩ (Nat.le_of_ble_eq_true rfl) dX9_actOf_32 ?_
      refine r_if_eq (tgt := 42) F (by decide) dX9_actOf_35 (fun hc => ?_) (fun hc => ?_)
      · replace h := ite_p h hc
        refine r_aload_n (j := 0) F rfl rfl dX9_actOf_42 ?_
        refine r_ldc2v (x := 1836020596) F (by unfold InL; omega) (by decide) tw_1634 dX9_actOf_43 ?_
        replace h := bind_so h
        obtain ⟨_, g46, h⟩ := h
        replace h := bind_so h
        obtain ⟨q46, h46, h⟩ := h
        refine r_callV (as := [vL 1836020596]) (rv := (some (vI q46.1))) (kc := 0) (nc := 0) (tX9_isWord h46) clok_9 F (gK_so g46) tw_1628 tw_1630 tw_75 tw_1631 tw_122 ⟨by decide, by decide, show (parseMethodDescriptor yX9_isWord.desc).map (fun d => d.parameters.length) = some 1 by decide +kernel⟩ ⟨by decide, by decide⟩ (Nat.le_of_ble_eq_true rfl) dX9_actOf_46 ?_
        refine r_if_eq (tgt := 56) F (by decide) dX9_actOf_49 (fun hc => ?_) (fun hc => ?_)
        · replace h := ite_p h hc
          refine r_aload_n (j := 0) F rfl rfl dX9_actOf_56 ?_
          refine r_ldc2v (x := 7237492) F (by unfold InL; omega) (by decide) tw_1635 dX9_actOf_57 ?_
          replace h := bind_so h
          obtain ⟨_, g60, h⟩ := h
          replace h := bind_so h
          obtain ⟨q60, h60, h⟩ := h
          refine r_callV (as := [vL 7237492]) (rv := (some (vI q60.1))) (kc := 0) (nc := 0) (tX9_isWord h60) clok_9 F (gK_so g60) tw_1628 tw_1630 tw_75 tw_1631 tw_122 ⟨by decide, by decide, show (parseMethodDescriptor yX9_isWord.desc).map (fun d => d.parameters.length) = some 1 by decide +kernel⟩ ⟨by decide, by decide⟩ (Nat.le_of_ble_eq_true rfl) dX9_actOf_60 ?_
          refine r_if_eq (tgt := 70) F (by decide) dX9_actOf_63 (fun hc => ?_) (fun hc => ?_)
          · replace h := ite_p h hc
            refine r_aload_n (j := 0) F rfl rfl dX9_actOf_70 ?_
            refine r_ldc2v (x := 6385252) F (by unfold InL; omega) (by decide) tw_1636 dX9_actOf_71 ?_
            replace h := bind_so h
            obtain ⟨_, g74, h⟩ := h
            replace h := bind_so h
            obtain ⟨q74, h74, h⟩ := h
            refine r_callV (as := [vL 6385252]) (rv := (some (vI q74.1))) (kc := 0) (nc := 0) (tX9_isWord h74) clok_9 F (gK_so g74) tw_1628 tw_1630 tw_75 tw_1631 tw_122 ⟨by decide, by decide, show (parseMethodDescriptor yX9_isWord.desc).map (fun d => d.parameters.length) = some 1 by decide +kernel⟩ ⟨by decide, by decide⟩ (Nat.le_of_ble_eq_true rfl) dX9_actOf_74 ?_
            refine r_if_eq (tgt := 84) F (by decide) dX9_actOf_77 (fun hc => ?_) (fun hc => ?_)
            · replace h := ite_p h hc
              refine r_aload_n (j := 0) F rfl rfl dX9_actOf_84 ?_
              refine r_ldc2v (x := 28530) F (by unfold InL; omega) (by decide) tw_1637 dX9_actOf_85 ?_
              replace h := bind_so h
              obtain ⟨_, g88, h⟩ := h
              replace h := bind_so h
              obtain ⟨q88, h88, h⟩ := h
              refine r_callV (as := [vL 28530]) (rv := (some (vI q88.1))) (kc := 0) (nc := 0) (tX9_isWord h88) clok_9 F (gK_so g88) tw_1628 tw_1630 tw_75 tw_1631 tw_122 ⟨by decide, by decide, show (parseMethodDescriptor yX9_isWord.desc).map (fun d => d.parameters.length) = some 1 by decide +kernel⟩ ⟨by decide, by decide⟩ (Nat.le_of_ble_eq_true rfl) dX9_actOf_88 ?_
              refine r_if_eq (tgt := 99) F (by decide) dX9_actOf_91 (fun hc => ?_) (fun hc => ?_)
              · replace h := ite_p h hc
                refine r_aload_n (j := 0) F rfl rfl dX9_actOf_99 ?_
                refine r_ldc2v (x := 26982) F (by unfold InL; omega) (by decide) tw_1638 dX9_actOf_100 ?_
                replace h := bind_so h
                obtain ⟨_, g103, h⟩ := h
                replace h := bind_so h
                obtain ⟨q103, h103, h⟩ := h
                refine r_callV (as := [vL 26982]) (rv := (some (vI q103.1))) (kc := 0) (nc := 0) (tX9_isWord h103) clok_9 F (gK_so g103) tw_1628 tw_1630 tw_75 tw_1631 tw_122 ⟨by decide, by decide, show (parseMethodDescriptor yX9_isWord.desc).map (fun d => d.parameters.length) = some 1 by decide +kernel⟩ ⟨by decide, by decide⟩ (Nat.le_of_ble_eq_true rfl) dX9_actOf_103 ?_
                refine r_if_eq (tgt := 114) F (by decide) dX9_actOf_106 (fun hc => ?_) (fun hc => ?_)
                · replace h := ite_p h hc
                  refine r_aload_n (j := 0) F rfl rfl dX9_actOf_114 ?_
                  refine r_ldc2v (x := 1935764837) F (by unfold InL; omega) (by decide) tw_1639 dX9_actOf_115 ?_
                  replace h := bind_so h
                  obtain ⟨_, g118, h⟩ := h
                  replace h := bind_so h
                  obtain ⟨q118, h118, h⟩ := h
                  refine r_callV (as := [vL 1935764837]) (rv := (some (vI q118.1))) (kc := 0) (nc := 0) (tX9_isWord h118) clok_9 F (gK_so g118) tw_1628 tw_1630 tw_75 tw_1631 tw_122 ⟨by decide, by decide, show (parseMethodDescriptor yX9_isWord.desc).map (fun d => d.parameters.length) = some 1 by decide +kernel⟩ ⟨by decide, by decide⟩ (Nat.le_of_ble_eq_true rfl) dX9_actOf_118 ?_
                  refine r_if_eq (tgt := 129) F (by decide) dX9_actOf_121 (fun hc => ?_) (fun hc => ?_)
                  · replace h := ite_p h hc
                    refine r_aload_n (j := 0) F rfl rfl dX9_actOf_129 ?_
                    refine r_ldc2v (x := 491327153000) F (by unfold InL; omega) (by decide) tw_1640 dX9_actOf_130 ?_
                    replace h := bind_so h
                    obtain ⟨_, g133, h⟩ := h
                    replace h := bind_so h
                    obtain ⟨q133, h133, h⟩ := h
                    refine r_callV (as := [vL 491327153000]) (rv := (some (vI q133.1))) (kc := 0) (nc := 0) (tX9_isWord h133) clok_9 F (gK_so g133) tw_1628 tw_1630 tw_75 tw_1631 tw_122 ⟨by decide, by decide, show (parseMethodDescriptor yX9_isWord.desc).map (fun d => d.parameters.length) = some 1 by decide +kernel⟩ ⟨by decide, by decide⟩ (Nat.le_of_ble_eq_true rfl) dX9_actOf_133 ?_
                    refine r_if_eq (tgt := 144) F (by decide) dX9_actOf_136 (fun hc => ?_) (fun hc => ?_)
                    · replace h := ite_p h hc
                      refine r_aload_n (j := 0) F rfl rfl dX9_actOf_144 ?_
                      refine r_ldc2v (x := 1953654117) F (by unfold InL; omega) (by decide) tw_1641 dX9_actOf_145 ?_
                      replace h := bind_so h
                      obtain ⟨_, g148, h⟩ := h
                      replace h := bind_so h
                      obtain ⟨q148, h148, h⟩ := h
                      refine r_callV (as := [vL 1953654117]) (rv := (some (vI q148.1))) (kc := 0) (nc := 0) (tX9_isWord h148) clok_9 F (gK_so g148) tw_1628 tw_1630 tw_75 tw_1631 tw_122 ⟨by decide, by decide, show (parseMethodDescriptor yX9_isWord.desc).map (fun d => d.parameters.length) = some 1 by decide +kernel⟩ ⟨by decide, by decide⟩ (Nat.le_of_ble_eq_true rfl) dX9_actOf_148 ?_
                      refine r_if_eq (tgt := 159) F (by decide) dX9_actOf_151 (fun hc => ?_) (fun hc => ?_)
                      · replace h := ite_p h hc
                        refine r_iconst F rfl dX9_actOf_159 ?_
                        obtain rfl := Option.some.inj h
                        exact r_iret F dX9_actOf_160
                      · replace h := ite_n h hc
                        refine r_bipush F rfl (by decide) dX9_actOf_154 ?_
                        refine r_goto (tgt := 160) F (by decide) dX9_actOf_156 ?_
                        obtain rfl := Option.some.inj h
                        exact r_iret F dX9_actOf_160
                    · replace h := ite_n h hc
                      refine r_bipush F rfl (by decide) dX9_actOf_139 ?_
                      refine r_goto (tgt := 160) F (by decide) dX9_actOf_141 ?_
                      obtain rfl := Option.some.inj h
                      exact r_iret F dX9_actOf_160
                  · replace h := ite_n h hc
                    refine r_bipush F rfl (by decide) dX9_actOf_124 ?_
                    refine r_goto (tgt := 160) F (by decide) dX9_actOf_126 ?_
                    obtain rfl := Option.some.inj h
                    exact r_iret F dX9_actOf_160
                · replace h := ite_n h hc
                  refine r_bipush F rfl (by decide) dX9_actOf_109 ?_
                  refine r_goto (tgt := 160) F (by decide) dX9_actOf_111 ?_
                  obtain rfl := Option.some.inj h
                  exact r_iret F dX9_actOf_160
              · replace h := ite_n h hc
                refine r_bipush F rfl (by decide) dX9_actOf_94 ?_
                refine r_goto (tgt := 160) F (by decide) dX9_actOf_96 ?_
                obtain rfl := Option.some.inj h
                exact r_iret F dX9_actOf_160
            · replace h := ite_n h hc
              refine r_iconst F rfl dX9_actOf_80 ?_
              refine r_goto (tgt := 160) F (by decide) dX9_actOf_81 ?_
              obtain rfl := Option.some.inj h
              exact r_iret F dX9_actOf_160
          · replace h := ite_n h hc
            refine r_iconst F rfl dX9_actOf_66 ?_
            refine r_goto (tgt := 160) F (by decide) dX9_actOf_67 ?_
            obtain rfl := Option.some.inj h
            exact r_iret F dX9_actOf_160
        · replace h := ite_n h hc
          refine r_iconst F rfl dX9_actOf_52 ?_
          refine r_goto (tgt := 160) F (by decide) dX9_actOf_53 ?_
          obtain rfl := Option.some.inj h
          exact r_iret F dX9_actOf_160
      · replace h := ite_n h hc
        refine r_iconst F rfl dX9_actOf_38 ?_
        refine r_goto (tgt := 160) F (by decide) dX9_actOf_39 ?_
        obtain rfl := Option.some.inj h
        exact r_iret F dX9_actOf_160
    · replace h := ite_n h hc
      refine r_iconst F rfl dX9_actOf_24 ?_
      refine r_goto (tgt := 160) F (by decide) dX9_actOf_25 ?_
      obtain rfl := Option.some.inj h
      exact r_iret F dX9_actOf_160
  · replace h := ite_n h hc
    refine r_iconst F rfl dX9_actOf_10 ?_
    refine r_goto (tgt := 160) F (by decide) dX9_actOf_11 ?_
    obtain rfl := Option.some.inj h
    exact r_iret F dX9_actOf_160
theorem tX9_varOf {l0 : Int} {M : Mem} {q : Int × Mem} (h : mX9_varOf l0 M = some q) : Ct 1 0 0 yX9_varOf cX9_varOf 1 (some FieldType.int) [vR l0] M (some (vI q.1)) q.2 := by
  unfold mX9_varOf at h
  refine Ct.of (by decide) (Nat.le_of_ble_eq_true rfl) ?_
  intro E p l e s m args below meth c F
  refine r_sub [0] (ls' := [(0, vR l0)]) rfl ?_
  refine r_aload_n (j := 0) F rfl rfl dX9_varOf_0 ?_
  refine r_ldc2v (x := 120) F (by unfold InL; omega) (by decide) tw_1662 dX9_varOf_1 ?_
  replace h := bind_so h
  obtain ⟨_, g4, h⟩ := h
  replace h := bind_so h
  obtain ⟨q4, h4, h⟩ := h
  refine r_callV (as := [vL 120]) (rv := (some (vI q4.1))) (kc := 0) (nc := 0) (tX9_isWord h4) clok_9 F (gK_so g4) tw_1628 tw_1630 tw_75 tw_1631 tw_122 ⟨by decide, by decide, show (parseMethodDescriptor yX9_isWord.desc).map (fun d => d.parameters.length) = some 1 by decide +kernel⟩ ⟨by decide, by decide⟩ (Nat.le_of_ble_eq_true rfl) dX9_varOf_4 ?_
  refine r_if_eq (tgt := 14) F (by decide) dX9_varOf_7 (fun hc => ?_) (fun hc => ?_)
  · replace h := ite_p h hc
    refine r_aload_n (j := 0) F rfl rfl dX9_varOf_14 ?_
    refine r_ldc2v (x := 121) F (by unfold InL; omega) (by decide) tw_1663 dX9_varOf_15 ?_
    replace h := bind_so h
    obtain ⟨_, g18, h⟩ := h
    replace h := bind_so h
    obtain ⟨q18, h18, h⟩ := h
    refine r_callV (as := [vL 121]) (rv := (some (vI q18.1))) (kc := 0) (nc := 0) (tX9_isWord h18) clok_9 F (gK_so g18) tw_1628 tw_1630 tw_75 tw_1631 tw_122 ⟨by decide, by decide, show (parseMethodDescriptor yX9_isWord.desc).map (fun d => d.parameters.length) = some 1 by decide +kernel⟩ ⟨by decide, by decide⟩ (Nat.le_of_ble_eq_true rfl) dX9_varOf_18 ?_
    refine r_if_eq (tgt := 28) F (by decide) dX9_varOf_21 (fun hc => ?_) (fun hc => ?_)
    · replace h := ite_p h hc
      refine r_aload_n (j := 0) F rfl rfl dX9_varOf_28 ?_
      refine r_ldc2v (x := 122) F (by unfold InL; omega) (by decide) tw_1664 dX9_varOf_29 ?_
      replace h := bind_so h
      obtain ⟨_, g32, h⟩ := h
      replace h := bind_so h
      obtain ⟨q32, h32, h⟩ := h
      refine r_callV (as := [vL 122]) (rv := (some (vI q32.1))) (kc := 0) (nc := 0) (tX9_isWord h32) clok_9 F (gK_so g32) tw_1628 tw_1630 tw_75 tw_1631 tw_122 ⟨by decide, by decide, show (parseMethodDescriptor yX9_isWord.desc).map (fun d => d.parameters.length) = some 1 by decide +kernel⟩ ⟨by decide, by decide⟩ (Nat.le_of_ble_eq_true rfl) dX9_varOf_32 ?_
      refine r_if_eq (tgt := 42) F (by decide) dX9_varOf_35 (fun hc => ?_) (fun hc => ?_)
      · replace h := ite_p h hc
        refine r_aload_n (j := 0) F rfl rfl dX9_varOf_42 ?_
        refine r_ldc2v (x := 119) F (by unfold InL; omega) (by decide) tw_1665 dX9_varOf_43 ?_
        replace h := bind_so h
        obtain ⟨_, g46, h⟩ := h
        replace h := bind_so h
        obtain ⟨q46, h46, h⟩ := h
        refine r_callV (as := [vL 119]) (rv := (some (vI q46.1))) (kc := 0) (nc := 0) (tX9_isWord h46) clok_9 F (gK_so g46) tw_1628 tw_1630 tw_75 tw_1631 tw_122 ⟨by decide, by decide, show (parseMethodDescriptor yX9_isWord.desc).map (fun d => d.parameters.length) = some 1 by decide +kernel⟩ ⟨by decide, by decide⟩ (Nat.le_of_ble_eq_true rfl) dX9_varOf_46 ?_
        refine r_if_eq (tgt := 56) F (by decide) dX9_varOf_49 (fun hc => ?_) (fun hc => ?_)
        · replace h := ite_p h hc
          refine r_iconst F rfl dX9_varOf_56 ?_
          obtain rfl := Option.some.inj h
          exact r_iret F dX9_varOf_57
        · replace h := ite_n h hc
          refine r_iconst F rfl dX9_varOf_52 ?_
          refine r_goto (tgt := 57) F (by decide) dX9_varOf_53 ?_
          obtain rfl := Option.some.inj h
          exact r_iret F dX9_varOf_57
      · replace h := ite_n h hc
        refine r_iconst F rfl dX9_varOf_38 ?_
        refine r_goto (tgt := 57) F (by decide) dX9_varOf_39 ?_
        obtain rfl := Option.some.inj h
        exact r_iret F dX9_varOf_57
    · replace h := ite_n h hc
      refine r_iconst F rfl dX9_varOf_24 ?_
      refine r_goto (tgt := 57) F (by decide) dX9_varOf_25 ?_
      obtain rfl := Option.some.inj h
      exact r_iret F dX9_varOf_57
  · replace h := ite_n h hc
    refine r_iconst F rfl dX9_varOf_10 ?_
    refine r_goto (tgt := 57) F (by decide) dX9_varOf_11 ?_
    obtain rfl := Option.some.inj h
    exact r_iret F dX9_varOf_57
theorem tX9_kindOf {l0 : Int} {M : Mem} {q : Int × Mem} (h : mX9_kindOf l0 M = some q) : Ct 1 0 0 yX9_kindOf cX9_kindOf 1 (some FieldType.int) [vR l0] M (some (vI q.1)) q.2 := by
  unfold mX9_kindOf at h
  refine Ct.of (by decide) (Nat.le_of_ble_eq_true rfl) ?_
  intro E p l e s m args below meth c F
  refine r_sub [0] (ls' := [(0, vR l0)]) rfl ?_
  refine r_aload_n (j := 0) F rfl rfl dX9_kindOf_0 ?_
  refine r_ldc2v (x := 7168366) F (by unfold InL; omega) (by decide) tw_1681 dX9_kindOf_1 ?_
  replace h := bind_so h
  obtain ⟨_, g4, h⟩ := h
  replace h := bind_so h
  obtain ⟨q4, h4, h⟩ := h
  refine r_callV (as := [vL 7168366]) (rv := (some (vI q4.1))) (kc := 0) (nc := 0) (tX9_isWord h4) clok_9 F (gK_so g4) tw_1628 tw_1630 tw_75 tw_1631 tw_122 ⟨by decide, by decide, show (parseMethodDescriptor yX9_isWord.desc).map (fun d => d.parameters.length) = some 1 by decide +kernel⟩ ⟨by decide, by decide⟩ (Nat.le_of_ble_eq_true rfl) dX9_kindOf_4 ?_
  refine r_if_eq (tgt := 14) F (by decide) dX9_kindOf_7 (fun hc => ?_) (fun hc => ?_)
  · replace h := ite_p h hc
    refine r_aload_n (j := 0) F rfl rfl dX9_kindOf_14 ?_
    refine r_ldc2v (x := 448546567013) F (by unfold InL; omega) (by decide) tw_1682 dX9_kindOf_15 ?_
    replace h := bind_so h
    obtain ⟨_, g18, h⟩ := h
    replace h := bind_so h
    obtain ⟨q18, h18, h⟩ := h
    refine r_callV (as := [vL 448546567013]) (rv := (some (vI q18.1))) (kc := 0) (nc := 0) (tX9_isWord h18) clok_9 F (gK_so g18) tw_1628 tw_1630 tw_75 tw_1631 tw_122 ⟨by decide, by decide, show (parseMethodDescriptor yX9_isWord.desc).map (fun d => d.parameters.length) = some 1 by decide +kernel⟩ ⟨by decide, by decide⟩ (Nat.le_of_ble_eq_true rfl) dX9_kindOf_18 ?_
    refine r_if_eq (tgt := 28) F (by decide) dX9_kindOf_21 (fun hc => ?_) (fun hc => ?_)
    · replace h := ite_p h hc
      refine r_aload_n (j := 0) F rfl rfl dX9_kindOf_28 ?_
      refine r_ldc2v (x := 6578553) F (by unfold InL; omega) (by decide) tw_1683 dX9_kindOf_29 ?_
      replace h := bind_so h
      obtain ⟨_, g32, h⟩ := h
      replace h := bind_so h
      obtain ⟨q32, h32, h⟩ := h
      refine r_callV (as := [vL 6578553]) (rv := (some (vI q32.1))) (kc := 0) (nc := 0) (tX9_isWord h32) clok_9 F (gK_so g32) tw_1628 tw_1630 tw_75 tw_1631 tw_122 ⟨by decide, by decide, show (parseMethodDescriptor yX9_isWord.desc).map (fun d => d.parameters.length) = some 1 by decide +kernel⟩ ⟨by decide, by decide⟩ (Nat.le_of_ble_eq_true rfl) dX9_kindOf_32 ?_
      refine r_if_eq (tgt := 42) F (by decide) dX9_kindOf_35 (fun hc => ?_) (fun hc => ?_)
      · replace h := ite_p h hc
        refine r_iconst F rfl dX9_kindOf_42 ?_
        obtain rfl := Option.some.inj h
        exact r_iret F dX9_kindOf_43
      · replace h := ite_n h hc
        refine r_iconst F rfl dX9_kindOf_38 ?_
        refine r_goto (tgt := 43) F (by decide) dX9_kindOf_39 ?_
        obtain rfl := Option.some.inj h
        exact r_iret F dX9_kindOf_43
    · replace h := ite_n h hc
      refine r_iconst F rfl dX9_kindOf_24 ?_
      refine r_goto (tgt := 43) F (by decide) dX9_kindOf_25 ?_
      obtain rfl := Option.some.inj h
      exact r_iret F dX9_kindOf_43
  · replace h := ite_n h hc
    refine r_iconst F rfl dX9_kindOf_10 ?_
    refine r_goto (tgt := 43) F (by decide) dX9_kindOf_11 ?_
    obtain rfl := Option.some.inj h
    exact r_iret F dX9_kindOf_43
theorem tX9_relOf_57 {E : En} {p : Program} {l : Launch} {e : Env} {s : State} {m : MethodId} {args : Array Value} {below : List Frame} {meth : Method} {c : Code} {q : Int × Mem} {l0 s0 : Int} {M : Mem} (F : Fx E p s m args meth c cX9_relOf 2 yX9_relOf.cls (some FieldType.int) yX9_relOf.name) (h : mX9_relOf_57 l0 s0 M = some q) : G E p l e (rmOf 1 0 0) s m args below meth c 2 (QZ E below args s (rmOf 1 0 0) (some (vI q.1)) q.2) 0 0 M 57 [(0, vR l0)] [vI s0] := by
  unfold mX9_relOf_57 at h
  refine r_istore_n (ls' := [(1, vI s0), (0, vR l0)]) F rfl (by decide) rfl dX9_relOf_57 ?_
  refine r_iload_n (j := 0) F rfl rfl dX9_relOf_58 ?_
  refine r_aload_n (j := 1) F rfl rfl dX9_relOf_59 ?_
  replace h := bind_so h
  obtain ⟨a60, h60, h⟩ := h
  refine r_getT (t := 2) rfl clok_9 F (by decide) h60 tw_1305 dX9_relOf_60 ?_
  refine r_iconst F rfl dX9_relOf_63 ?_
  replace h := bind_so h
  obtain ⟨a64, h64, h⟩ := h
  refine r_iald F h64 dX9_relOf_64 ?_
  refine r_icmp_ge (tgt := 72) F (by decide) dX9_relOf_65 (fun hc => ?_) (fun hc => ?_)
  · replace h := ite_p h hc
    refine r_iconst F rfl dX9_relOf_72 ?_
    obtain rfl := Option.some.inj h
    exact r_iret F dX9_relOf_73
  · replace h := ite_n h hc
    refine r_iload_n (j := 0) F rfl rfl dX9_relOf_68 ?_
    refine r_goto (tgt := 73) F (by decide) dX9_relOf_69 ?_
    obtain rfl := Option.some.inj h
    exact r_iret F dX9_relOf_73
theorem tX9_relOf {l0 : Int} {M : Mem} {q : Int × Mem} (h : mX9_relOf l0 M = some q) : Ct 1 0 0 yX9_relOf cX9_relOf 2 (some FieldType.int) [vR l0] M (some (vI q.1)) q.2 := by
  unfold mX9_relOf at h
  refine Ct.of (by decide) (Nat.le_of_ble_eq_true rfl) ?_
  intro E p l e s m args below meth c F
  refine r_sub [0] (ls' := [(0, vR l0)]) rfl ?_
  refine r_aload_n (j := 0) F rfl rfl dX9_relOf_0 ?_
  refine r_ldc2v (x := 114) F (by unfold InL; omega) (by decide) tw_1650 dX9_relOf_1 ?_
  replace h := bind_so h
  obtain ⟨_, g4, h⟩ := h
  replace h := bind_so h
  obtain ⟨q4, h4, h⟩ := h
  refine r_callV (as := [vL 114]) (rv := (some (vI q4.1))) (kc := 0) (nc := 0) (tX9_isWord h4) clok_9 F (gK_so g4) tw_1628 tw_1630 tw_75 tw_1631 tw_122 ⟨by decide, by decide, show (parseMethodDescriptor yX9_isWord.desc).map (fun d => d.parameters.length) = some 1 by decide +kernel⟩ ⟨by decide, by decide⟩ (Nat.le_of_ble_eq_true rfl) dX9_relOf_4 ?_
  refine r_if_eq (tgt := 14) F (by decide) dX9_relOf_7 (fun hc => ?_) (fun hc => ?_)
  · replace h := ite_p h hc
    refine r_aload_n (j := 0) F rfl rfl dX9_relOf_14 ?_
    refine r_ldc2v (x := 115) F (by unfold InL; omega) (by decide) tw_1651 dX9_relOf_15 ?_
    replace h := bind_so h
    obtain ⟨_, g18, h⟩ := h
    replace h := bind_so h
    obtain ⟨q18, h18, h⟩ := h
    refine r_callV (as := [vL 115]) (rv := (some (vI q18.1))) (kc := 0) (nc := 0) (tX9_isWord h18) clok_9 F (gK_so g18) tw_1628 tw_1630 tw_75 tw_1631 tw_122 ⟨by decide, by decide, show (parseMethodDescriptor yX9_isWord.desc).map (fun d => d.parameters.length) = some 1 by decide +kernel⟩ ⟨by decide, by decide⟩ (Nat.le_of_ble_eq_true rfl) dX9_relOf_18 ?_
    refine r_if_eq (tgt := 28) F (by decide) dX9_relOf_21 (fun hc => ?_) (fun hc => ?_)
    · replace h := ite_p h hc
      refine r_aload_n (j := 0) F rfl rfl dX9_relOf_28 ?_
      refine r_ldc2v (x := 116) F (by unfold InL; omega) (by decide) tw_1652 dX9_relOf_29 ?_
      replace h := bind_so h
      obtain ⟨_, g32, h⟩ := h
      replace h := bind_so h
      obtain ⟨q32, h32, h⟩ := h
      refine r_callV (as := [vL 116]) (rv := (some (vI q32.1))) (kc := 0) (nc := 0) (tX9_isWord h32) clok_9 F (gK_so g32) tw_1628 tw_1630 tw_75 tw_1631 tw_122 ⟨by decide, by decide, show (parseMethodDescriptor yX9_isWord.desc).map (fun d => d.parameters.length) = some 1 by decide +kernel⟩ ⟨by decide, by decide⟩ (Nat.le_of_ble_eq_true rfl) dX9_relOf_32 ?_
      refine r_if_eq (tgt := 42) F (by decide) dX9_relOf_35 (fun hc => ?_) (fun hc => ?_)
      · replace h := ite_p h hc
        refine r_aload_n (j := 0) F rfl rfl dX9_relOf_42 ?_
        refine r_ldc2v (x := 117) F (by unfold InL; omega) (by decide) tw_1653 dX9_relOf_43 ?_
        replace h := bind_so h
        obtain ⟨_, g46, h⟩ := h
        replace h := bind_so h
        obtain ⟨q46, h46, h⟩ := h
        refine r_callV (as := [vL 117]) (rv := (some (vI q46.1))) (kc := 0) (nc := 0) (tX9_isWord h46) clok_9 F (gK_so g46) tw_1628 tw_1630 tw_75 tw_1631 tw_122 ⟨by decide, by decide, show (parseMethodDescriptor yX9_isWord.desc).map (fun d => d.parameters.length) = some 1 by decide +kernel⟩ ⟨by decide, by decide⟩ (Nat.le_of_ble_eq_true rfl) dX9_relOf_46 ?_
        refine r_if_eq (tgt := 56) F (by decide) dX9_relOf_49 (fun hc => ?_) (fun hc => ?_)
        · replace h := ite_p h hc
          refine r_iconst F rfl dX9_relOf_56 ?_
          refine r_sub [0] (ls' := [(0, vR l0)]) rfl ?_
          exact tX9_relOf_57 F h
        · replace h := ite_n h hc
          refine r_iconst F rfl dX9_relOf_52 ?_
          refine r_goto (tgt := 57) F (by decide) dX9_relOf_53 ?_
          refine r_sub [0] (ls' := [(0, vR l0)]) rfl ?_
          exact tX9_relOf_57 F h
      · replace h := ite_n h hc
        refine r_iconst F rfl dX9_relOf_38 ?_
        refine r_goto (tgt := 57) F (by decide) dX9_relOf_39 ?_
        refine r_sub [0] (ls' := [(0, vR l0)]) rfl ?_
        exact tX9_relOf_57 F h
    · replace h := ite_n h hc
      refine r_iconst F rfl dX9_relOf_24 ?_
      refine r_goto (tgt := 57) F (by decide) dX9_relOf_25 ?_
      refine r_sub [0] (ls' := [(0, vR l0)]) rfl ?_
      exact tX9_relOf_57 F h
  · replace h := ite_n h hc
    refine r_iconst F rfl dX9_relOf_10 ?_
    refine r_goto (tgt := 57) F (by decide) dX9_relOf_11 ?_
    refine r_sub [0] (ls' := [(0, vR l0)]) rfl ?_
    exact tX9_relOf_57 F h
theorem tX9_wrong {l0 : Int} {M : Mem} {q : Int × Mem} (h : mX9_wrong l0 M = some q) : Ct 0 0 0 yX9_wrong cX9_wrong 1 (some FieldType.int) [vR l0] M (some (vI q.1)) q.2 := by
  unfold mX9_wrong at h
  refine Ct.of (by decide) (Nat.le_of_ble_eq_true rfl) ?_
  intro E p l e s m args below meth c F
  refine r_sub [0] (ls' := [(0, vR l0)]) rfl ?_
  refine r_aload_n (j := 0) F rfl rfl dX9_wrong_0 ?_
  refine r_aload_n (j := 0) F rfl rfl dX9_wrong_1 ?_
  replace h := bind_so h
  obtain ⟨a2, h2, h⟩ := h
  refine r_getT (t := 0) rfl clok_9 F (by decide) h2 tw_1328 dX9_wrong_2 ?_
  replace h := bind_so h
  obtain ⟨M5, h5, h⟩ := h
  refine r_put clok_9 F (by decide) rfl (by decide) (by decide) h5 tw_1332 dX9_wrong_5 ?_
  refine r_iconst F rfl dX9_wrong_8 ?_
  obtain rfl := Option.some.inj h
  exact r_iret F dX9_wrong_9
theorem tX9_later_31 {E : En} {p : Program} {l : Launch} {e : Env} {s : State} {m : MethodId} {args : Array Value} {below : List Frame} {meth : Method} {c : Code} {q : Int × Mem} {l0 l1 l2 : Int} {M : Mem} (F : Fx E p s m args meth c cX9_later 3 yX9_later.cls none yX9_later.name) (h : mX9_later_31 l0 l1 l2 M = some q) : G E p l e (rmOf 0 0 0) s m args below meth c 3 (QZ E below args s (rmOf 0 0 0) none q.2) 0 0 M 31 [(0, vR l0), (1, vI l1), (2, vI l2)] [] := by
  unfold mX9_later_31 at h
  refine r_aload_n (j := 0) F rfl rfl dX9_later_31 ?_
  refine r_iload_n (j := 1) F rfl rfl dX9_later_32 ?_
  replace h := bind_so h
  obtain ⟨M33, h33, h⟩ := h
  refine r_put clok_9 F (by decide) rfl (by decide) (by decide) h33 tw_1333 dX9_later_33 ?_
  refine r_aload_n (j := 0) F rfl rfl dX9_later_36 ?_
  refine r_iload_n (j := 2) F rfl rfl dX9_later_37 ?_
  replace h := bind_so h
  obtain ⟨M38, h38, h⟩ := h
  refine r_put clok_9 F (by decide) rfl (by decide) (by decide) h38 tw_1334 dX9_later_38 ?_
  obtain rfl := Option.some.inj h
  exact r_vret F dX9_later_41
theorem tX9_later {l0 l1 l2 : Int} {M : Mem} {q : Int × Mem} (h : mX9_later l0 l1 l2 M = some q) : Ct 0 0 0 yX9_later cX9_later 3 none [vR l0, vI l1, vI l2] M none q.2 := by
  unfold mX9_later at h
  refine Ct.of (by decide) (Nat.le_of_ble_eq_true rfl) ?_
  intro E p l e s m args below meth c F
  refine r_sub [0, 1, 2] (ls' := [(0, vR l0), (1, vI l1), (2, vI l2)]) rfl ?_
  refine r_aload_n (j := 0) F rfl rfl dX9_later_0 ?_
  replace h := bind_so h
  obtain ⟨a1, h1, h⟩ := h
  refine r_getT (t := 0) rfl clok_9 F (by decide) h1 tw_1333 dX9_later_1 ?_
  refine r_if_eq (tgt := 31) F (by decide) dX9_later_4 (fun hc => ?_) (fun hc => ?_)
  · replace h := ite_p h hc
    refine r_sub [0, 1, 2] (ls' := [(0, vR l0), (1, vI l1), (2, vI l2)]) rfl ?_
    exact tX9_later_31 F h
  · replace h := ite_n h hc
    refine r_iload_n (j := 2) F rfl rfl dX9_later_7 ?_
    refine r_aload_n (j := 0) F rfl rfl dX9_later_8 ?_
    replace h := bind_so h
    obtain ⟨a9, h9, h⟩ := h
    refine r_getT (t := 0) rfl clok_9 F (by decide) h9 tw_1334 dX9_later_9 ?_
    refine r_icmp_lt (tgt := 31) F (by decide) dX9_later_12 (fun hc => ?_) (fun hc => ?_)
    · replace h := ite_p h hc
      refine r_sub [0, 1, 2] (ls' := [(0, vR l0), (1, vI l1), (2, vI l2)]) rfl ?_
      exact tX9_later_31 F h
    · replace h := ite_n h hc
      refine r_iload_n (j := 2) F rfl rfl dX9_later_15 ?_
      refine r_aload_n (j := 0) F rfl rfl dX9_later_16 ?_
      replace h := bind_so h
      obtain ⟨a17, h17, h⟩ := h
      refine r_getT (t := 0) rfl clok_9 F (by decide) h17 tw_1334 dX9_later_17 ?_
      refine r_icmp_ne (tgt := 41) F (by decide) dX9_later_20 (fun hc => ?_) (fun hc => ?_)
      · replace h := ite_n h hc
        obtain rfl := Option.some.inj h
        exact r_vret F dX9_later_41
      · replace h := ite_p h hc
        refine r_iload_n (j := 1) F rfl rfl dX9_later_23 ?_
        refine r_aload_n (j := 0) F rfl rfl dX9_later_24 ?_
        replace h := bind_so h
        obtain ⟨a25, h25, h⟩ := h
        refine r_getT (t := 0) rfl clok_9 F (by decide) h25 tw_1333 dX9_later_25 ?_
        refine r_icmp_ge (tgt := 41) F (by decide) dX9_later_28 (fun hc => ?_) (fun hc => ?_)
        · replace h := ite_p h hc
          obtain rfl := Option.some.inj h
          exact r_vret F dX9_later_41
        · replace h := ite_n h hc
          refine r_sub [0, 1, 2] (ls' := [(0, vR l0), (1, vI l1), (2, vI l2)]) rfl ?_
          exact tX9_later_31 F h
theorem tX9_bound {l0 l1 : Int} {M : Mem} {q : Int × Mem} (h : mX9_bound l0 l1 M = some q) : Ct 0 0 0 yX9_bound cX9_bound 3 (some FieldType.int) [vI l0, vI l1] M (some (vI q.1)) q.2 := by
  unfold mX9_bound at h
  refine Ct.of (by decide) (Nat.le_of_ble_eq_true rfl) ?_
  intro E p l e s m args below meth c F
  refine r_sub [0, 1] (ls' := [(0, vI l0), (1, vI l1)]) rfl ?_
  refine r_iload_n (j := 0) F rfl rfl dX9_bound_0 ?_
  refine r_iconst F rfl dX9_bound_1 ?_
  refine r_iload_n (j := 1) F rfl rfl dX9_bound_2 ?_
  refine r_imul F dX9_bound_3 ?_
  refine r_ishr F dX9_bound_4 ?_
  refine r_iconst F rfl dX9_bound_5 ?_
  refine r_iand F dX9_bound_6 ?_
  replace h := bind_so h
  obtain ⟨b7, e7, h⟩ := h
  refine r_eq (y := b7) (Option.some.inj e7) ?_
  refine r_istore_n (ls' := [(2, vI b7), (0, vI l0), (1, vI l1)]) F rfl (by decide) rfl dX9_bound_7 ?_
  refine r_iload_n (j := 0) F rfl rfl dX9_bound_8 ?_
  refine r_iconst F rfl dX9_bound_9 ?_
  refine r_icmp_ne (tgt := 17) F (by decide) dX9_bound_10 (fun hc => ?_) (fun hc => ?_)
  · replace h := ite_n h hc
    refine r_iload_n (j := 0) F rfl rfl dX9_bound_17 ?_
    obtain rfl := Option.some.inj h
    exact r_iret F dX9_bound_18
  · replace h := ite_p h hc
    refine r_iconst F rfl dX9_bound_13 ?_
    refine r_goto (tgt := 18) F (by decide) dX9_bound_14 ?_
    obtain rfl := Option.some.inj h
    exact r_iret F dX9_bound_18
theorem tX9_readVar_59 {E : En} {p : Program} {l : Launch} {e : Env} {s : State} {m : MethodId} {args : Array Value} {below : List Frame} {meth : Method} {c : Code} {q : Int × Mem} {l0 l3 : Int} {M : Mem} (F : Fx E p s m args meth c cX9_readVar 4 yX9_readVar.cls (some FieldType.int) yX9_readVar.name) (h : mX9_readVar_59 l0 l3 M = some q) : G E p l e (rmOf 2 0 0) s m args below meth c 4 (QZ E below args s (rmOf 2 0 0) (some (vI q.1)) q.2) 0 0 M 59 [(0, vR l0), (3, vI l3)] [] := by
  unfold mX9_readVar_59 at h
  refine r_aload_n (j := 0) F rfl rfl dX9_readVar_59 ?_
  replace h := bind_so h
  obtain ⟨_, g60, h⟩ := h
  replace h := bind_so h
  obtain ⟨q60, h60, h⟩ := h
  refine r_callV (as := []) (rv := none) (kc := 0) (nc := 0) (tX9_token h60) clok_9 F (gK_so g60) tw_1607 tw_1609 tw_70 tw_1610 tw_122 ⟨by decide, by decide, show (parseMethodDescriptor yX9_token.desc).map (fun d => d.parameters.length) = some 0 by decide +kernel⟩ ⟨by decide, by decide⟩ (Nat.le_of_ble_eq_true rfl) dX9_readVar_60 ?_
  refine r_iload_n (j := 1) F rfl rfl dX9_readVar_63 ?_
  obtain rfl := Option.some.inj h
  exact r_iret F dX9_readVar_64
theorem tX9_readVar {l0 l1 l2 : Int} {M : Mem} {q : Int × Mem} (h : mX9_readVar l0 l1 l2 M = some q) : Ct 2 0 0 yX9_readVar cX9_readVar 4 (some FieldType.int) [vR l0, vI l1, vI l2] M (some (vI q.1)) q.2 := by
  unfold mX9_readVar at h
  refine Ct.of (by decide) (Nat.le_of_ble_eq_true rfl) ?_
  intro E p l e s m args below meth c F
  refine r_sub [0, 1, 2] (ls' := [(0, vR l0), (1, vI l1), (2, vI l2)]) rfl ?_
  refine r_aload_n (j := 0) F rfl rfl dX9_readVar_0 ?_
  replace h := bind_so h
  obtain ⟨_, g1, h⟩ := h
  replace h := bind_so h
  obtain ⟨q1, h1, h⟩ := h
  refine r_callV (as := []) (rv := (some (vI q1.1))) (kc := 0) (nc := 0) (tX9_varOf h1) clok_9 F (gK_so g1) tw_1658 tw_1660 tw_79 tw_1661 tw_122 ⟨by decide, by decide, show (parseMethodDescriptor yX9_varOf.desc).map (fun d => d.parameters.length) = some 0 by decide +kernel⟩ ⟨by decide, by decide⟩ (Nat.le_of_ble_eq_true rfl) dX9_readVar_1 ?_
  refine r_istore_n (ls' := [(3, vI q1.1), (0, vR l0), (1, vI l1), (2, vI l2)]) F rfl (by decide) rfl dX9_readVar_4 ?_
  refine r_iload_n (j := 0) F rfl rfl dX9_readVar_5 ?_
  refine r_iconst F rfl dX9_readVar_6 ?_
  refine r_icmp_ne (tgt := 15) F (by decide) dX9_readVar_7 (fun hc => ?_) (fun hc => ?_)
  · replace h := ite_n h hc
    refine r_iload_n (j := 2) F rfl rfl dX9_readVar_15 ?_
    refine r_iload_n (j := 0) F rfl rfl dX9_readVar_16 ?_
    replace h := bind_so h
    obtain ⟨q17, h17, h⟩ := h
    refine r_callS (as := [vI l1, vI q1.1]) (rv := (some (vI q17.1))) (kc := 0) (nc := 0) (tX9_bound h17) F tw_1670 tw_1671 tw_1672 tw_122 ⟨by decide, by decide, show (parseMethodDescriptor yX9_bound.desc).map (fun d => d.parameters.length) = some 2 by decide +kernel⟩ ⟨by decide, by decide⟩ (Nat.le_of_ble_eq_true rfl) dX9_readVar_17 ?_
    refine r_iconst F rfl dX9_readVar_20 ?_
    refine r_icmp_ne (tgt := 36) F (by decide) dX9_readVar_21 (fun hc => ?_) (fun hc => ?_)
    · replace h := ite_n h hc
      refine r_iload_n (j := 3) F rfl rfl dX9_readVar_36 ?_
      refine r_iconst F rfl dX9_readVar_37 ?_
      refine r_icmp_eq (tgt := 59) F (by decide) dX9_readVar_38 (fun hc => ?_) (fun hc => ?_)
      · replace h := ite_p h hc
        refine r_sub [1, 0] (ls' := [(0, vR l0), (3, vI q1.1)]) rfl ?_
        exact tX9_readVar_59 F h
      · replace h := ite_n h hc
        refine r_iload_n (j := 2) F rfl rfl dX9_readVar_41 ?_
        refine r_iload_n (j := 0) F rfl rfl dX9_readVar_42 ?_
        replace h := bind_so h
        obtain ⟨q43, h43, h⟩ := h
        refine r_callS (as := [vI l1, vI q1.1]) (rv := (some (vI q43.1))) (kc := 0) (nc := 0) (tX9_bound h43) F tw_1670 tw_1671 tw_1672 tw_122 ⟨by decide, by decide, show (parseMethodDescriptor yX9_bound.desc).map (fun d => d.parameters.length) = some 2 by decide +kernel⟩ ⟨by decide, by decide⟩ (Nat.le_of_ble_eq_true rfl) dX9_readVar_43 ?_
        refine r_iload_n (j := 3) F rfl rfl dX9_readVar_46 ?_
        refine r_icmp_eq (tgt := 59) F (by decide) dX9_readVar_47 (fun hc => ?_) (fun hc => ?_)
        · replace h := ite_p h hc
          refine r_sub [1, 0] (ls' := [(0, vR l0), (3, vI q1.1)]) rfl ?_
          exact tX9_readVar_59 F h
        · replace h := ite_n h hc
          refine r_aload_n (j := 1) F rfl rfl dX9_readVar_50 ?_
          refine r_iconst F rfl dX9_readVar_51 ?_
          refine r_aload_n (j := 1) F rfl rfl dX9_readVar_52 ?_
          replace h := bind_so h
          obtain ⟨a53, h53, h⟩ := h
          refine r_getT (t := 0) rfl clok_9 F (by decide) h53 tw_1328 dX9_readVar_53 ?_
          replace h := bind_so h
          obtain ⟨_, g56, h⟩ := h
          replace h := bind_so h
          obtain ⟨q56, h56, h⟩ := h
          refine r_callV (as := [vI 3, vI a53]) (rv := none) (kc := 0) (nc := 0) (tX9_later h56) clok_9 F (gK_so g56) tw_1619 tw_1621 tw_73 tw_1622 tw_122 ⟨by decide, by decide, show (parseMethodDescriptor yX9_later.desc).map (fun d => d.parameters.length) = some 2 by decide +kernel⟩ ⟨by decide, by decide⟩ (Nat.le_of_ble_eq_true rfl) dX9_readVar_56 ?_
          refine r_sub [1, 0] (ls' := [(0, vR l0), (3, vI q1.1)]) rfl ?_
          exact tX9_readVar_59 F h
    · replace h := ite_p h hc
      refine r_aload_n (j := 1) F rfl rfl dX9_readVar_24 ?_
      refine r_iconst F rfl dX9_readVar_25 ?_
      refine r_aload_n (j := 1) F rfl rfl dX9_readVar_26 ?_
      replace h := bind_so h
      obtain ⟨a27, h27, h⟩ := h
      refine r_getT (t := 0) rfl clok_9 F (by decide) h27 tw_1328 dX9_readVar_27 ?_
      replace h := bind_so h
      obtain ⟨_, g30, h⟩ := h
      replace h := bind_so h
      obtain ⟨q30, h30, h⟩ := h
      refine r_callV (as := [vI 2, vI a27]) (rv := none) (kc := 0) (nc := 0) (tX9_later h30) clok_9 F (gK_so g30) tw_1619 tw_1621 tw_73 tw_1622 tw_122 ⟨by decide, by decide, show (parseMethodDescriptor yX9_later.desc).map (fun d => d.parameters.length) = some 2 by decide +kernel⟩ ⟨by decide, by decide⟩ (Nat.le_of_ble_eq_true rfl) dX9_readVar_30 ?_
      refine r_goto (tgt := 59) F (by decide) dX9_readVar_33 ?_
      refine r_sub [1, 0] (ls' := [(0, vR l0), (3, vI q1.1)]) rfl ?_
      exact tX9_readVar_59 F h
  · replace h := ite_p h hc
    refine r_aload_n (j := 1) F rfl rfl dX9_readVar_10 ?_
    replace h := bind_so h
    obtain ⟨_, g11, h⟩ := h
    replace h := bind_so h
    obtain ⟨q11, h11, h⟩ := h
    refine r_callV (as := []) (rv := (some (vI q11.1))) (kc := 0) (nc := 0) (tX9_wrong h11) clok_9 F (gK_so g11) tw_1666 tw_1668 tw_80 tw_1669 tw_122 ⟨by decide, by decide, show (parseMethodDescriptor yX9_wrong.desc).map (fun d => d.parameters.length) = some 0 by decide +kernel⟩ ⟨by decide, by decide⟩ (Nat.le_of_ble_eq_true rfl) dX9_readVar_11 ?_
    obtain rfl := Option.some.inj h
    exact r_iret F dX9_readVar_14
theorem tX9_wait {l0 l1 : Int} {M : Mem} {q : Int × Mem} (h : mX9_wait l0 l1 M = some q) : Ct 0 0 0 yX9_wait cX9_wait 2 none [vR l0, vI l1] M none q.2 := by
  unfold mX9_wait at h
  refine Ct.of (by decide) (Nat.le_of_ble_eq_true rfl) ?_
  intro E p l e s m args below meth c F
  refine r_sub [0, 1] (ls' := [(0, vR l0), (1, vI l1)]) rfl ?_
  refine r_aload_n (j := 0) F rfl rfl dX9_wait_0 ?_
  replace h := bind_so h
  obtain ⟨a1, h1, h⟩ := h
  refine r_getT (t := 2) rfl clok_9 F (by decide) h1 tw_1336 dX9_wait_1 ?_
  refine r_aload_n (j := 0) F rfl rfl dX9_wait_4 ?_
  replace h := bind_so h
  obtain ⟨a5, h5, h⟩ := h
  refine r_getT (t := 0) rfl clok_9 F (by decide) h5 tw_1335 dX9_wait_5 ?_
  refine r_iload_n (j := 1) F rfl rfl dX9_wait_8 ?_
  replace h := bind_so h
  obtain ⟨M9, h9, h⟩ := h
  refine r_iast F h9 dX9_wait_9 ?_
  refine r_aload_n (j := 0) F rfl rfl dX9_wait_10 ?_
  refine r_dup1 F rfl dX9_wait_11 ?_
  replace h := bind_so h
  obtain ⟨a12, h12, h⟩ := h
  refine r_getT (t := 0) rfl clok_9 F (by decide) h12 tw_1335 dX9_wait_12 ?_
  refine r_iconst F rfl dX9_wait_15 ?_
  refine r_iadd F dX9_wait_16 ?_
  replace h := bind_so h
  obtain ⟨M17, h17, h⟩ := h
  refine r_put clok_9 F (by decide) rfl (by decide) (by decide) h17 tw_1335 dX9_wait_17 ?_
  obtain rfl := Option.some.inj h
  exact r_vret F dX9_wait_20
theorem tX9_readBinder_49 {E : En} {p : Program} {l : Launch} {e : Env} {s : State} {m : MethodId} {args : Array Value} {below : List Frame} {meth : Method} {c : Code} {q : Int × Mem} {l0 l1 l2 : Int} {M : Mem} (F : Fx E p s m args meth c cX9_readBinder 5 yX9_readBinder.cls (some FieldType.boolean) yX9_readBinder.name) (h : mX9_readBinder_49 l0 l1 l2 M = some q) : G E p l e (rmOf 2 0 0) s m args below meth c 5 (QZ E below args s (rmOf 2 0 0) (some (vI q.1)) q.2) 0 0 M 49 [(0, vR l0), (1, vI l1), (2, vI l2)] [] := by
  unfold mX9_readBinder_49 at h
  refine r_aload_n (j := 0) F rfl rfl dX9_readBinder_49 ?_
  replace h := bind_so h
  obtain ⟨_, g50, h⟩ := h
  replace h := bind_so h
  obtain ⟨q50, h50, h⟩ := h
  refine r_callV (as := []) (rv := (some (vI q50.1))) (kc := 0) (nc := 0) (tX9_varOf h50) clok_9 F (gK_so g50) tw_1658 tw_1660 tw_79 tw_1661 tw_122 ⟨by decide, by decide, show (parseMethodDescriptor yX9_varOf.desc).map (fun d => d.parameters.length) = some 0 by decide +kernel⟩ ⟨by decide, by decide⟩ (Nat.le_of_ble_eq_true rfl) dX9_readBinder_50 ?_
  refine r_istore_n (ls' := [(3, vI q50.1), (0, vR l0), (1, vI l1), (2, vI l2)]) F rfl (by decide) rfl dX9_readBinder_53 ?_
  refine r_iload_n (j := 0) F rfl rfl dX9_readBinder_54 ?_
  refine r_iconst F rfl dX9_readBinder_55 ?_
  refine r_icmp_ne (tgt := 69) F (by decide) dX9_readBinder_56 (fun hc => ?_) (fun hc => ?_)
  · replace h := ite_n h hc
    refine r_aload_n (j := 1) F rfl rfl dX9_readBinder_69 ?_
    replace h := bind_so h
    obtain ⟨_, g70, h⟩ := h
    replace h := bind_so h
    obtain ⟨q70, h70, h⟩ := h
    refine r_callV (as := []) (rv := none) (kc := 0) (nc := 0) (tX9_token h70) clok_9 F (gK_so g70) tw_1607 tw_1609 tw_70 tw_1610 tw_122 ⟨by decide, by decide, show (parseMethodDescriptor yX9_token.desc).map (fun d => d.parameters.length) = some 0 by decide +kernel⟩ ⟨by decide, by decide⟩ (Nat.le_of_ble_eq_true rfl) dX9_readBinder_70 ?_
    refine r_aload_n (j := 1) F rfl rfl dX9_readBinder_73 ?_
    replace h := bind_so h
    obtain ⟨_, g74, h⟩ := h
    replace h := bind_so h
    obtain ⟨q74, h74, h⟩ := h
    refine r_callV (as := []) (rv := (some (vI q74.1))) (kc := 0) (nc := 0) (tX9_kindOf h74) clok_9 F (gK_so g74) tw_1677 tw_1679 tw_82 tw_1680 tw_122 ⟨by decide, by decide, show (parseMethodDescriptor yX9_kindOf.desc).map (fun d => d.parameters.length) = some 0 by decide +kernel⟩ ⟨by decide, by decide⟩ (Nat.le_of_ble_eq_true rfl) dX9_readBinder_74 ?_
    refine r_istore (ls' := [(4, vI q74.1), (3, vI q50.1), (0, vR l0), (1, vI l1), (2, vI l2)]) F (by decide) rfl dX9_readBinder_77 ?_
    refine r_iload (j := 0) F rfl dX9_readBinder_79 ?_
    refine r_iconst F rfl dX9_readBinder_81 ?_
    refine r_icmp_ne (tgt := 95) F (by decide) dX9_readBinder_82 (fun hc => ?_) (fun hc => ?_)
    · replace h := ite_n h hc
      refine r_aload_n (j := 2) F rfl rfl dX9_readBinder_95 ?_
      replace h := bind_so h
      obtain ⟨_, g96, h⟩ := h
      replace h := bind_so h
      obtain ⟨q96, h96, h⟩ := h
      refine r_callV (as := []) (rv := none) (kc := 0) (nc := 0) (tX9_token h96) clok_9 F (gK_so g96) tw_1607 tw_1609 tw_70 tw_1610 tw_122 ⟨by decide, by decide, show (parseMethodDescriptor yX9_token.desc).map (fun d => d.parameters.length) = some 0 by decide +kernel⟩ ⟨by decide, by decide⟩ (Nat.le_of_ble_eq_true rfl) dX9_readBinder_96 ?_
      refine r_aload_n (j := 2) F rfl rfl dX9_readBinder_99 ?_
      replace h := bind_so h
      obtain ⟨a100, h100, h⟩ := h
      refine r_getT (t := 2) rfl clok_9 F (by decide) h100 tw_1339 dX9_readBinder_100 ?_
      refine r_iload_n (j := 3) F rfl rfl dX9_readBinder_103 ?_
      refine r_iload_n (j := 1) F rfl rfl dX9_readBinder_104 ?_
      replace h := bind_so h
      obtain ⟨M105, h105, h⟩ := h
      refine r_iast F h105 dX9_readBinder_105 ?_
      refine r_aload_n (j := 2) F rfl rfl dX9_readBinder_106 ?_
      replace h := bind_so h
      obtain ⟨a107, h107, h⟩ := h
      refine r_getT (t := 2) rfl clok_9 F (by decide) h107 tw_1340 dX9_readBinder_107 ?_
      refine r_iload_n (j := 3) F rfl rfl dX9_readBinder_110 ?_
      refine r_iload (j := 0) F rfl dX9_readBinder_111 ?_
      replace h := bind_so h
      obtain ⟨M113, h113, h⟩ := h
      refine r_iast F h113 dX9_readBinder_113 ?_
      refine r_aload_n (j := 2) F rfl rfl dX9_readBinder_114 ?_
      refine r_iload_n (j := 4) F rfl rfl dX9_readBinder_115 ?_
      refine r_iconst F rfl dX9_readBinder_116 ?_
      refine r_iconst F rfl dX9_readBinder_117 ?_
      refine r_iload_n (j := 1) F rfl rfl dX9_readBinder_118 ?_
      refine r_imul F dX9_readBinder_119 ?_
      refine r_ishl F dX9_readBinder_120 ?_
      refine r_iconst F rfl dX9_readBinder_121 ?_
      refine r_ixor F dX9_readBinder_122 ?_
      refine r_iand F dX9_readBinder_123 ?_
      refine r_iload (j := 0) F rfl dX9_readBinder_124 ?_
      refine r_iconst F rfl dX9_readBinder_126 ?_
      refine r_iload_n (j := 1) F rfl rfl dX9_readBinder_127 ?_
      refine r_imul F dX9_readBinder_128 ?_
      refine r_ishl F dX9_readBinder_129 ?_
      refine r_ior F dX9_readBinder_130 ?_
      refine r_sipush F rfl (by decide) dX9_readBinder_131 ?_
      refine r_iadd F dX9_readBinder_134 ?_
      replace h := bind_so h
      obtain ⟨_, g135, h⟩ := h
      replace h := bind_so h
      obtain ⟨q135, h135, h⟩ := h
      refine r_callV (as := [vI (wI ((ior (iand l2 (ixor (ishl 3 (wI (2 * q50.1))) (-1))) (ishl q74.1 (wI (2 * q50.1)))) + 256))]) (rv := none) (kc := 0) (nc := 0) (tX9_wait h135) clok_9 F (gK_so g135) tw_1603 tw_1605 tw_69 tw_1606 tw_122 ⟨by decide, by decide, show (parseMethodDescriptor yX9_wait.desc).map (fun d => d.parameters.length) = some 1 by decide +kernel⟩ ⟨by decide, by decide⟩ (Nat.le_of_ble_eq_true rfl) dX9_readBinder_135 ?_
      refine r_iconst F rfl dX9_readBinder_138 ?_
      obtain rfl := Option.some.inj h
      exact r_zret (Or.inr rfl) F dX9_readBinder_139
    · replace h := ite_p h hc
      refine r_aload_n (j := 2) F rfl rfl dX9_readBinder_85 ?_
      refine r_aload_n (j := 2) F rfl rfl dX9_readBinder_86 ?_
      replace h := bind_so h
      obtain ⟨a87, h87, h⟩ := h
      refine r_getT (t := 0) rfl clok_9 F (by decide) h87 tw_1328 dX9_readBinder_87 ?_
      replace h := bind_so h
      obtain ⟨M90, h90, h⟩ := h
      refine r_put clok_9 F (by decide) rfl (by decide) (by decide) h90 tw_1332 dX9_readBinder_90 ?_
      refine r_iconst F rfl dX9_readBinder_93 ?_
      obtain rfl := Option.some.inj h
      exact r_zret (Or.inl rfl) F dX9_readBinder_94
  · replace h := ite_p h hc
    refine r_aload_n (j := 1) F rfl rfl dX9_readBinder_59 ?_
    refine r_aload_n (j := 1) F rfl rfl dX9_readBinder_60 ?_
    replace h := bind_so h
    obtain ⟨a61, h61, h⟩ := h
    refine r_getT (t := 0) rfl clok_9 F (by decide) h61 tw_1328 dX9_readBinder_61 ?_
    replace h := bind_so h
    obtain ⟨M64, h64, h⟩ := h
    refine r_put clok_9 F (by decide) rfl (by decide) (by decide) h64 tw_1332 dX9_readBinder_64 ?_
    refine r_iconst F rfl dX9_readBinder_67 ?_
    obtain rfl := Option.some.inj h
    exact r_zret (Or.inl rfl) F dX9_readBinder_68
theorem tX9_readBinder {l0 l1 l2 : Int} {M : Mem} {q : Int × Mem} (h : mX9_readBinder l0 l1 l2 M = some q) : Ct 2 0 0 yX9_readBinder cX9_readBinder 5 (some FieldType.boolean) [vR l0, vI l1, vI l2] M (some (vI q.1)) q.2 := by
  unfold mX9_readBinder at h
  refine Ct.of (by decide) (Nat.le_of_ble_eq_true rfl) ?_
  intro E p l e s m args below meth c F
  refine r_sub [0, 1, 2] (ls' := [(0, vR l0), (1, vI l1), (2, vI l2)]) rfl ?_
  refine r_aload_n (j := 0) F rfl rfl dX9_readBinder_0 ?_
  replace h := bind_so h
  obtain ⟨a1, h1, h⟩ := h
  refine r_getT (t := 2) rfl clok_9 F (by decide) h1 tw_1341 dX9_readBinder_1 ?_
  refine r_iload_n (j := 1) F rfl rfl dX9_readBinder_4 ?_
  refine r_iconst F rfl dX9_readBinder_5 ?_
  replace h := bind_so h
  obtain ⟨M6, h6, h⟩ := h
  refine r_iast F h6 dX9_readBinder_6 ?_
  refine r_aload_n (j := 0) F rfl rfl dX9_readBinder_7 ?_
  replace h := bind_so h
  obtain ⟨a8, h8, h⟩ := h
  refine r_getT (t := 2) rfl clok_9 F (by decide) h8 tw_1338 dX9_readBinder_8 ?_
  refine r_iload_n (j := 1) F rfl rfl dX9_readBinder_11 ?_
  replace h := bind_so h
  obtain ⟨a12, h12, h⟩ := h
  refine r_iald F h12 dX9_readBinder_12 ?_
  refine r_iconst F rfl dX9_readBinder_13 ?_
  refine r_icmp_lt (tgt := 49) F (by decide) dX9_readBinder_14 (fun hc => ?_) (fun hc => ?_)
  · replace h := ite_p h hc
    refine r_sub [0, 1, 2] (ls' := [(0, vR l0), (1, vI l1), (2, vI l2)]) rfl ?_
    exact tX9_readBinder_49 F h
  · replace h := ite_n h hc
    refine r_aload_n (j := 0) F rfl rfl dX9_readBinder_17 ?_
    replace h := bind_so h
    obtain ⟨a18, h18, h⟩ := h
    refine r_getT (t := 0) rfl clok_9 F (by decide) h18 tw_1329 dX9_readBinder_18 ?_
    refine r_iconst F rfl dX9_readBinder_21 ?_
    refine r_icmp_eq (tgt := 35) F (by decide) dX9_readBinder_22 (fun hc => ?_) (fun hc => ?_)
    · replace h := ite_p h hc
      refine r_aload_n (j := 0) F rfl rfl dX9_readBinder_35 ?_
      replace h := bind_so h
      obtain ⟨a36, h36, h⟩ := h
      refine r_getT (t := 2) rfl clok_9 F (by decide) h36 tw_1341 dX9_readBinder_36 ?_
      refine r_iload_n (j := 1) F rfl rfl dX9_readBinder_39 ?_
      refine r_aload_n (j := 0) F rfl rfl dX9_readBinder_40 ?_
      replace h := bind_so h
      obtain ⟨a41, h41, h⟩ := h
      refine r_getT (t := 0) rfl clok_9 F (by decide) h41 tw_1330 dX9_readBinder_41 ?_
      replace h := bind_so h
      obtain ⟨M44, h44, h⟩ := h
      refine r_iast F h44 dX9_readBinder_44 ?_
      refine r_aload_n (j := 0) F rfl rfl dX9_readBinder_45 ?_
      replace h := bind_so h
      obtain ⟨_, g46, h⟩ := h
      replace h := bind_so h
      obtain ⟨q46, h46, h⟩ := h
      refine r_callV (as := []) (rv := none) (kc := 0) (nc := 0) (tX9_token h46) clok_9 F (gK_so g46) tw_1607 tw_1609 tw_70 tw_1610 tw_122 ⟨by decide, by decide, show (parseMethodDescriptor yX9_token.desc).map (fun d => d.parameters.length) = some 0 by decide +kernel⟩ ⟨by decide, by decide⟩ (Nat.le_of_ble_eq_true rfl) dX9_readBinder_46 ?_
      refine r_sub [0, 1, 2] (ls' := [(0, vR l0), (1, vI l1), (2, vI l2)]) rfl ?_
      exact tX9_readBinder_49 F h
    · replace h := ite_n h hc
      refine r_aload_n (j := 0) F rfl rfl dX9_readBinder_25 ?_
      refine r_aload_n (j := 0) F rfl rfl dX9_readBinder_26 ?_
      replace h := bind_so h
      obtain ⟨a27, h27, h⟩ := h
      refine r_getT (t := 0) rfl clok_9 F (by decide) h27 tw_1328 dX9_readBinder_27 ?_
      replace h := bind_so h
      obtain ⟨M30, h30, h⟩ := h
      refine r_put clok_9 F (by decide) rfl (by decide) (by decide) h30 tw_1332 dX9_readBinder_30 ?_
      refine r_iconst F rfl dX9_readBinder_33 ?_
      obtain rfl := Option.some.inj h
      exact r_zret (Or.inl rfl) F dX9_readBinder_34
theorem tX9_readSame {l0 l1 l2 : Int} {M : Mem} {q : Int × Mem} (h : mX9_readSame l0 l1 l2 M = some q) : Ct 3 0 0 yX9_readSame cX9_readSame 3 (some FieldType.boolean) [vR l0, vI l1, vI l2] M (some (vI q.1)) q.2 := by
  unfold mX9_readSame at h
  refine Ct.of (by decide) (Nat.le_of_ble_eq_true rfl) ?_
  intro E p l e s m args below meth c F
  refine r_sub [0, 1, 2] (ls' := [(0, vR l0), (1, vI l1), (2, vI l2)]) rfl ?_
  refine r_aload_n (j := 0) F rfl rfl dX9_readSame_0 ?_
  replace h := bind_so h
  obtain ⟨a1, h1, h⟩ := h
  refine r_getT (t := 2) rfl clok_9 F (by decide) h1 tw_1339 dX9_readSame_1 ?_
  refine r_iload_n (j := 1) F rfl rfl dX9_readSame_4 ?_
  refine r_aload_n (j := 0) F rfl rfl dX9_readSame_5 ?_
  refine r_iload_n (j := 2) F rfl rfl dX9_readSame_6 ?_
  refine r_iconst F rfl dX9_readSame_7 ?_
  replace h := bind_so h
  obtain ⟨_, g8, h⟩ := h
  replace h := bind_so h
  obtain ⟨q8, h8, h⟩ := h
  refine r_callV (as := [vI l2, vI (-1)]) (rv := (some (vI q8.1))) (kc := 0) (nc := 0) (tX9_readVar h8) clok_9 F (gK_so g8) tw_1654 tw_1656 tw_78 tw_1657 tw_122 ⟨by decide, by decide, show (parseMethodDescriptor yX9_readVar.desc).map (fun d => d.parameters.length) = some 2 by decide +kernel⟩ ⟨by decide, by decide⟩ (Nat.le_of_ble_eq_true rfl) dX9_readSame_8 ?_
  replace h := bind_so h
  obtain ⟨M11, h11, h⟩ := h
  refine r_iast F h11 dX9_readSame_11 ?_
  refine r_aload_n (j := 0) F rfl rfl dX9_readSame_12 ?_
  replace h := bind_so h
  obtain ⟨a13, h13, h⟩ := h
  refine r_getT (t := 2) rfl clok_9 F (by decide) h13 tw_1339 dX9_readSame_13 ?_
  refine r_iload_n (j := 1) F rfl rfl dX9_readSame_16 ?_
  replace h := bind_so h
  obtain ⟨a17, h17, h⟩ := h
  refine r_iald F h17 dX9_readSame_17 ?_
  refine r_iconst F rfl dX9_readSame_18 ?_
  refine r_icmp_ne (tgt := 24) F (by decide) dX9_readSame_19 (fun hc => ?_) (fun hc => ?_)
  · replace h := ite_n h hc
    refine r_aload_n (j := 0) F rfl rfl dX9_readSame_24 ?_
    replace h := bind_so h
    obtain ⟨a25, h25, h⟩ := h
    refine r_getT (t := 2) rfl clok_9 F (by decide) h25 tw_1340 dX9_readSame_25 ?_
    refine r_iload_n (j := 1) F rfl rfl dX9_readSame_28 ?_
    refine r_aload_n (j := 0) F rfl rfl dX9_readSame_29 ?_
    refine r_iload_n (j := 2) F rfl rfl dX9_readSame_30 ?_
    refine r_iload_n (j := 2) F rfl rfl dX9_readSame_31 ?_
    refine r_aload_n (j := 0) F rfl rfl dX9_readSame_32 ?_
    replace h := bind_so h
    obtain ⟨a33, h33, h⟩ := h
    refine r_getT (t := 2) rfl clok_9 F (by decide) h33 tw_1339 dX9_readSame_33 ?_
    refine r_iload_n (j := 1) F rfl rfl dX9_readSame_36 ?_
    replace h := bind_so h
    obtain ⟨a37, h37, h⟩ := h
    refine r_iald F h37 dX9_readSame_37 ?_
    replace h := bind_so h
    obtain ⟨q38, h38, h⟩ := h
    refine r_callS (as := [vI l2, vI a37]) (rv := (some (vI q38.1))) (kc := 0) (nc := 0) (tX9_bound h38) F tw_1670 tw_1671 tw_1672 tw_122 ⟨by decide, by decide, show (parseMethodDescriptor yX9_bound.desc).map (fun d => d.parameters.length) = some 2 by decide +kernel⟩ ⟨by decide, by decide⟩ (Nat.le_of_ble_eq_true rfl) dX9_readSame_38 ?_
    replace h := bind_so h
    obtain ⟨_, g41, h⟩ := h
    replace h := bind_so h
    obtain ⟨q41, h41, h⟩ := h
    refine r_callV (as := [vI l2, vI q38.1]) (rv := (some (vI q41.1))) (kc := 0) (nc := 0) (tX9_readVar h41) clok_9 F (gK_so g41) tw_1654 tw_1656 tw_78 tw_1657 tw_122 ⟨by decide, by decide, show (parseMethodDescriptor yX9_readVar.desc).map (fun d => d.parameters.length) = some 2 by decide +kernel⟩ ⟨by decide, by decide⟩ (Nat.le_of_ble_eq_true rfl) dX9_readSame_41 ?_
    replace h := bind_so h
    obtain ⟨M44, h44, h⟩ := h
    refine r_iast F h44 dX9_readSame_44 ?_
    refine r_aload_n (j := 0) F rfl rfl dX9_readSame_45 ?_
    replace h := bind_so h
    obtain ⟨a46, h46, h⟩ := h
    refine r_getT (t := 2) rfl clok_9 F (by decide) h46 tw_1340 dX9_readSame_46 ?_
    refine r_iload_n (j := 1) F rfl rfl dX9_readSame_49 ?_
    replace h := bind_so h
    obtain ⟨a50, h50, h⟩ := h
    refine r_iald F h50 dX9_readSame_50 ?_
    refine r_iconst F rfl dX9_readSame_51 ?_
    refine r_icmp_eq (tgt := 59) F (by decide) dX9_readSame_52 (fun hc => ?_) (fun hc => ?_)
    · replace h := ite_p h hc
      refine r_iconst F rfl dX9_readSame_59 ?_
      obtain rfl := Option.some.inj h
      exact r_zret (Or.inl rfl) F dX9_readSame_60
    · replace h := ite_n h hc
      refine r_iconst F rfl dX9_readSame_55 ?_
      refine r_goto (tgt := 60) F (by decide) dX9_readSame_56 ?_
      obtain rfl := Option.some.inj h
      exact r_zret (Or.inr rfl) F dX9_readSame_60
  · replace h := ite_p h hc
    refine r_iconst F rfl dX9_readSame_22 ?_
    obtain rfl := Option.some.inj h
    exact r_zret (Or.inl rfl) F dX9_readSame_23
theorem tX9_readRelation_236 {E : En} {p : Program} {l : Launch} {e : Env} {s : State} {m : MethodId} {args : Array Value} {below : List Frame} {meth : Method} {c : Code} {q : Int × Mem} {l0 l1 s0 s1 s2 s3 s4 : Int} {M : Mem} (F : Fx E p s m args meth c cX9_readRelation 6 yX9_readRelation.cls (some FieldType.boolean) yX9_readRelation.name) (h : mX9_readRelation_236 l0 l1 s0 s1 s2 s3 s4 M = some q) : G E p l e (rmOf 3 0 0) s m args below meth c 6 (QZ E below args s (rmOf 3 0 0) (some (vI q.1)) q.2) 0 0 M 236 [(0, vR l0), (1, vI l1)] [vI s4, vI s3, vR s2, vI s1, vR s0] := by
  unfold mX9_readRelation_236 at h
  replace h := bind_so h
  obtain ⟨_, g236, h⟩ := h
  replace h := bind_so h
  obtain ⟨q236, h236, h⟩ := h
  refine r_callV (as := [vI s3, vI s4]) (rv := (some (vI q236.1))) (kc := 0) (nc := 0) (tX9_readVar h236) clok_9 F (gK_so g236) tw_1654 tw_1656 tw_78 tw_1657 tw_122 ⟨by decide, by decide, show (parseMethodDescriptor yX9_readVar.desc).map (fun d => d.parameters.length) = some 2 by decide +kernel⟩ ⟨by decide, by decide⟩ (Nat.le_of_ble_eq_true rfl) dX9_readRelation_236 ?_
  replace h := bind_so h
  obtain ⟨M239, h239, h⟩ := h
  refine r_iast F h239 dX9_readRelation_239 ?_
  refine r_aload_n (j := 0) F rfl rfl dX9_readRelation_240 ?_
  replace h := bind_so h
  obtain ⟨a241, h241, h⟩ := h
  refine r_getT (t := 2) rfl clok_9 F (by decide) h241 tw_1341 dX9_readRelation_241 ?_
  refine r_iload_n (j := 1) F rfl rfl dX9_readRelation_244 ?_
  replace h := bind_so h
  obtain ⟨a245, h245, h⟩ := h
  refine r_iald F h245 dX9_readRelation_245 ?_
  refine r_iconst F rfl dX9_readRelation_246 ?_
  refine r_icmp_eq (tgt := 254) F (by decide) dX9_readRelation_247 (fun hc => ?_) (fun hc => ?_)
  · replace h := ite_p h hc
    refine r_iconst F rfl dX9_readRelation_254 ?_
    obtain rfl := Option.some.inj h
    exact r_zret (Or.inl rfl) F dX9_readRelation_255
  · replace h := ite_n h hc
    refine r_iconst F rfl dX9_readRelation_250 ?_
    refine r_goto (tgt := 255) F (by decide) dX9_readRelation_251 ?_
    obtain rfl := Option.some.inj h
    exact r_zret (Or.inr rfl) F dX9_readRelation_255
theorem tX9_readRelation_198 {E : En} {p : Program} {l : Launch} {e : Env} {s : State} {m : MethodId} {args : Array Value} {below : List Frame} {meth : Method} {c : Code} {q : Int × Mem} {l0 l1 : Int} {M : Mem} (F : Fx E p s m args meth c cX9_readRelation 6 yX9_readRelation.cls (some FieldType.boolean) yX9_readRelation.name) (h : mX9_readRelation_198 l0 l1 M = some q) : G E p l e (rmOf 3 0 0) s m args below meth c 6 (QZ E below args s (rmOf 3 0 0) (some (vI q.1)) q.2) 0 0 M 198 [(0, vR l0), (1, vI l1)] [] := by
  unfold mX9_readRelation_198 at h
  refine r_aload_n (j := 0) F rfl rfl dX9_readRelation_198 ?_
  replace h := bind_so h
  obtain ⟨a199, h199, h⟩ := h
  refine r_getT (t := 2) rfl clok_9 F (by decide) h199 tw_1340 dX9_readRelation_199 ?_
  refine r_iload_n (j := 1) F rfl rfl dX9_readRelation_202 ?_
  replace h := bind_so h
  obtain ⟨a203, h203, h⟩ := h
  refine r_iald F h203 dX9_readRelation_203 ?_
  refine r_iconst F rfl dX9_readRelation_204 ?_
  refine r_icmp_eq (tgt := 212) F (by decide) dX9_readRelation_205 (fun hc => ?_) (fun hc => ?_)
  · replace h := ite_p h hc
    refine r_iconst F rfl dX9_readRelation_212 ?_
    obtain rfl := Option.some.inj h
    exact r_zret (Or.inl rfl) F dX9_readRelation_213
  · replace h := ite_n h hc
    refine r_iconst F rfl dX9_readRelation_208 ?_
    refine r_goto (tgt := 213) F (by decide) dX9_readRelation_209 ?_
    obtain rfl := Option.some.inj h
    exact r_zret (Or.inr rfl) F dX9_readRelation_213
theorem tX9_readRelation_173 {E : En} {p : Program} {l : Launch} {e : Env} {s : State} {m : MethodId} {args : Array Value} {below : List Frame} {meth : Method} {c : Code} {q : Int × Mem} {l0 l1 l2 l3 l5 s0 s1 s2 s3 s4 : Int} {M : Mem} (F : Fx E p s m args meth c cX9_readRelation 6 yX9_readRelation.cls (some FieldType.boolean) yX9_readRelation.name) (h : mX9_readRelation_173 l0 l1 l2 l3 l5 s0 s1 s2 s3 s4 M = some q) : G E p l e (rmOf 3 0 0) s m args below meth c 6 (QZ E below args s (rmOf 3 0 0) (some (vI q.1)) q.2) 0 0 M 173 [(0, vR l0), (1, vI l1), (2, vI l2), (3, vI l3), (5, vI l5)] [vI s4, vI s3, vR s2, vI s1, vR s0] := by
  unfold mX9_readRelation_173 at h
  replace h := bind_so h
  obtain ⟨_, g173, h⟩ := h
  replace h := bind_so h
  obtain ⟨q173, h173, h⟩ := h
  refine r_callV (as := [vI s3, vI s4]) (rv := (some (vI q173.1))) (kc := 0) (nc := 0) (tX9_readVar h173) clok_9 F (gK_so g173) tw_1654 tw_1656 tw_78 tw_1657 tw_122 ⟨by decide, by decide, show (parseMethodDescriptor yX9_readVar.desc).map (fun d => d.parameters.length) = some 2 by decide +kernel⟩ ⟨by decide, by decide⟩ (Nat.le_of_ble_eq_true rfl) dX9_readRelation_173 ?_
  replace h := bind_so h
  obtain ⟨M176, h176, h⟩ := h
  refine r_iast F h176 dX9_readRelation_176 ?_
  refine r_aload_n (j := 0) F rfl rfl dX9_readRelation_177 ?_
  replace h := bind_so h
  obtain ⟨a178, h178, h⟩ := h
  refine r_getT (t := 2) rfl clok_9 F (by decide) h178 tw_1340 dX9_readRelation_178 ?_
  refine r_iload_n (j := 1) F rfl rfl dX9_readRelation_181 ?_
  replace h := bind_so h
  obtain ⟨a182, h182, h⟩ := h
  refine r_iald F h182 dX9_readRelation_182 ?_
  refine r_iconst F rfl dX9_readRelation_183 ?_
  refine r_icmp_eq (tgt := 198) F (by decide) dX9_readRelation_184 (fun hc => ?_) (fun hc => ?_)
  · replace h := ite_p h hc
    refine r_sub [0, 1] (ls' := [(0, vR l0), (1, vI l1)]) rfl ?_
    exact tX9_readRelation_198 F h
  · replace h := ite_n h hc
    refine r_aload_n (j := 0) F rfl rfl dX9_readRelation_187 ?_
    replace h := bind_so h
    obtain ⟨a188, h188, h⟩ := h
    refine r_getT (t := 2) rfl clok_9 F (by decide) h188 tw_1338 dX9_readRelation_188 ?_
    refine r_iload_n (j := 1) F rfl rfl dX9_readRelation_191 ?_
    replace h := bind_so h
    obtain ⟨a192, h192, h⟩ := h
    refine r_iald F h192 dX9_readRelation_192 ?_
    refine r_bipush F rfl (by decide) dX9_readRelation_193 ?_
    refine r_icmp_ne (tgt := 214) F (by decide) dX9_readRelation_195 (fun hc => ?_) (fun hc => ?_)
    · replace h := ite_n h hc
      refine r_aload_n (j := 0) F rfl rfl dX9_readRelation_214 ?_
      replace h := bind_so h
      obtain ⟨a215, h215, h⟩ := h
      refine r_getT (t := 2) rfl clok_9 F (by decide) h215 tw_1341 dX9_readRelation_215 ?_
      refine r_iload_n (j := 1) F rfl rfl dX9_readRelation_218 ?_
      refine r_aload_n (j := 0) F rfl rfl dX9_readRelation_219 ?_
      refine r_iload_n (j := 2) F rfl rfl dX9_readRelation_220 ?_
      refine r_iload (j := 4) F rfl dX9_readRelation_221 ?_
      refine r_if_eq (tgt := 235) F (by decide) dX9_readRelation_223 (fun hc => ?_) (fun hc => ?_)
      · replace h := ite_p h hc
        refine r_iconst F rfl dX9_readRelation_235 ?_
        refine r_sub [0, 1] (ls' := [(0, vR l0), (1, vI l1)]) rfl ?_
        exact tX9_readRelation_236 F h
      · replace h := ite_n h hc
        refine r_aload_n (j := 0) F rfl rfl dX9_readRelation_226 ?_
        replace h := bind_so h
        obtain ⟨a227, h227, h⟩ := h
        refine r_getT (t := 2) rfl clok_9 F (by decide) h227 tw_1307 dX9_readRelation_227 ?_
        refine r_iload_n (j := 3) F rfl rfl dX9_readRelation_230 ?_
        replace h := bind_so h
        obtain ⟨a231, h231, h⟩ := h
        refine r_iald F h231 dX9_readRelation_231 ?_
        refine r_goto (tgt := 236) F (by decide) dX9_readRelation_232 ?_
        refine r_sub [0, 1] (ls' := [(0, vR l0), (1, vI l1)]) rfl ?_
        exact tX9_readRelation_236 F h
    · replace h := ite_p h hc
      refine r_sub [0, 1] (ls' := [(0, vR l0), (1, vI l1)]) rfl ?_
      exact tX9_readRelation_198 F h
theorem tX9_readRelation_126 {E : En} {p : Program} {l : Launch} {e : Env} {s : State} {m : MethodId} {args : Array Value} {below : List Frame} {meth : Method} {c : Code} {q : Int × Mem} {l0 l1 l2 l3 l5 s0 s1 s2 : Int} {M : Mem} (F : Fx E p s m args meth c cX9_readRelation 6 yX9_readRelation.cls (some FieldType.boolean) yX9_readRelation.name) (h : mX9_readRelation_126 l0 l1 l2 l3 l5 s0 s1 s2 M = some q) : G E p l e (rmOf 3 0 0) s m args below meth c 6 (QZ E below args s (rmOf 3 0 0) (some (vI q.1)) q.2) 0 0 M 126 [(0, vR l0), (1, vI l1), (2, vI l2), (3, vI l3), (5, vI l5)] [vI s2, vI s1, vR s0] := by
  unfold mX9_readRelation_126 at h
  replace h := bind_so h
  obtain ⟨M126, h126, h⟩ := h
  refine r_iast F h126 dX9_readRelation_126 ?_
  refine r_aload_n (j := 0) F rfl rfl dX9_readRelation_127 ?_
  replace h := bind_so h
  obtain ⟨a128, h128, h⟩ := h
  refine r_getT (t := 2) rfl clok_9 F (by decide) h128 tw_1339 dX9_readRelation_128 ?_
  refine r_iload_n (j := 1) F rfl rfl dX9_readRelation_131 ?_
  refine r_iload_n (j := 3) F rfl rfl dX9_readRelation_132 ?_
  replace h := bind_so h
  obtain ⟨M133, h133, h⟩ := h
  refine r_iast F h133 dX9_readRelation_133 ?_
  refine r_aload_n (j := 0) F rfl rfl dX9_readRelation_134 ?_
  replace h := bind_so h
  obtain ⟨_, g135, h⟩ := h
  replace h := bind_so h
  obtain ⟨q135, h135, h⟩ := h
  refine r_callV (as := []) (rv := none) (kc := 0) (nc := 0) (tX9_token h135) clok_9 F (gK_so g135) tw_1607 tw_1609 tw_70 tw_1610 tw_122 ⟨by decide, by decide, show (parseMethodDescriptor yX9_token.desc).map (fun d => d.parameters.length) = some 0 by decide +kernel⟩ ⟨by decide, by decide⟩ (Nat.le_of_ble_eq_true rfl) dX9_readRelation_135 ?_
  refine r_aload_n (j := 0) F rfl rfl dX9_readRelation_138 ?_
  replace h := bind_so h
  obtain ⟨a139, h139, h⟩ := h
  refine r_getT (t := 2) rfl clok_9 F (by decide) h139 tw_1338 dX9_readRelation_139 ?_
  refine r_iload_n (j := 1) F rfl rfl dX9_readRelation_142 ?_
  replace h := bind_so h
  obtain ⟨a143, h143, h⟩ := h
  refine r_iald F h143 dX9_readRelation_143 ?_
  refine r_bipush F rfl (by decide) dX9_readRelation_144 ?_
  refine r_icmp_ne (tgt := 151) F (by decide) dX9_readRelation_146 (fun hc => ?_) (fun hc => ?_)
  · replace h := ite_n h hc
    refine r_aload_n (j := 0) F rfl rfl dX9_readRelation_151 ?_
    replace h := bind_so h
    obtain ⟨a152, h152, h⟩ := h
    refine r_getT (t := 2) rfl clok_9 F (by decide) h152 tw_1340 dX9_readRelation_152 ?_
    refine r_iload_n (j := 1) F rfl rfl dX9_readRelation_155 ?_
    refine r_aload_n (j := 0) F rfl rfl dX9_readRelation_156 ?_
    refine r_iload_n (j := 2) F rfl rfl dX9_readRelation_157 ?_
    refine r_iload (j := 4) F rfl dX9_readRelation_158 ?_
    refine r_if_eq (tgt := 172) F (by decide) dX9_readRelation_160 (fun hc => ?_) (fun hc => ?_)
    · replace h := ite_p h hc
      refine r_iconst F rfl dX9_readRelation_172 ?_
      refine r_sub [0, 1, 2, 3, 4] (ls' := [(0, vR l0), (1, vI l1), (2, vI l2), (3, vI l3), (5, vI l5)]) rfl ?_
      exact tX9_readRelation_173 F h
    · replace h := ite_n h hc
      refine r_aload_n (j := 0) F rfl rfl dX9_readRelation_163 ?_
      replace h := bind_so h
      obtain ⟨a164, h164, h⟩ := h
      refine r_getT (t := 2) rfl clok_9 F (by decide) h164 tw_1306 dX9_readRelation_164 ?_
      refine r_iload_n (j := 3) F rfl rfl dX9_readRelation_167 ?_
      replace h := bind_so h
      obtain ⟨a168, h168, h⟩ := h
      refine r_iald F h168 dX9_readRelation_168 ?_
      refine r_goto (tgt := 173) F (by decide) dX9_readRelation_169 ?_
      refine r_sub [0, 1, 2, 3, 4] (ls' := [(0, vR l0), (1, vI l1), (2, vI l2), (3, vI l3), (5, vI l5)]) rfl ?_
      exact tX9_readRelation_173 F h
  · replace h := ite_p h hc
    refine r_iconst F rfl dX9_readRelation_149 ?_
    obtain rfl := Option.some.inj h
    exact r_zret (Or.inr rfl) F dX9_readRelation_150
theorem tX9_readRelation_90 {E : En} {p : Program} {l : Launch} {e : Env} {s : State} {m : MethodId} {args : Array Value} {below : List Frame} {meth : Method} {c : Code} {q : Int × Mem} {l0 l1 l2 l3 l4 l5 : Int} {M : Mem} (F : Fx E p s m args meth c cX9_readRelation 6 yX9_readRelation.cls (some FieldType.boolean) yX9_readRelation.name) (h : mX9_readRelation_90 l0 l1 l2 l3 l4 l5 M = some q) : G E p l e (rmOf 3 0 0) s m args below meth c 6 (QZ E below args s (rmOf 3 0 0) (some (vI q.1)) q.2) 0 0 M 90 [(0, vR l0), (1, vI l1), (2, vI l2), (3, vI l3), (4, vI l4), (5, vI l5)] [] := by
  unfold mX9_readRelation_90 at h
  refine r_aload_n (j := 0) F rfl rfl dX9_readRelation_90 ?_
  replace h := bind_so h
  obtain ⟨a91, h91, h⟩ := h
  refine r_getT (t := 2) rfl clok_9 F (by decide) h91 tw_1338 dX9_readRelation_91 ?_
  refine r_iload_n (j := 1) F rfl rfl dX9_readRelation_94 ?_
  refine r_iload (j := 4) F rfl dX9_readRelation_95 ?_
  refine r_if_eq (tgt := 109) F (by decide) dX9_readRelation_97 (fun hc => ?_) (fun hc => ?_)
  · replace h := ite_p h hc
    refine r_aload_n (j := 0) F rfl rfl dX9_readRelation_109 ?_
    replace h := bind_so h
    obtain ⟨a110, h110, h⟩ := h
    refine r_getT (t := 2) rfl clok_9 F (by decide) h110 tw_1307 dX9_readRelation_110 ?_
    refine r_iload_n (j := 3) F rfl rfl dX9_readRelation_113 ?_
    replace h := bind_so h
    obtain ⟨a114, h114, h⟩ := h
    refine r_iald F h114 dX9_readRelation_114 ?_
    refine r_iconst F rfl dX9_readRelation_115 ?_
    refine r_icmp_ne (tgt := 124) F (by decide) dX9_readRelation_116 (fun hc => ?_) (fun hc => ?_)
    · replace h := ite_n h hc
      refine r_bipush F rfl (by decide) dX9_readRelation_124 ?_
      refine r_sub [0, 1, 2, 3, 5] (ls' := [(0, vR l0), (1, vI l1), (2, vI l2), (3, vI l3), (5, vI l5)]) rfl ?_
      exact tX9_readRelation_126 F h
    · replace h := ite_p h hc
      refine r_bipush F rfl (by decide) dX9_readRelation_119 ?_
      refine r_goto (tgt := 126) F (by decide) dX9_readRelation_121 ?_
      refine r_sub [0, 1, 2, 3, 5] (ls' := [(0, vR l0), (1, vI l1), (2, vI l2), (3, vI l3), (5, vI l5)]) rfl ?_
      exact tX9_readRelation_126 F h
  · replace h := ite_n h hc
    refine r_aload_n (j := 0) F rfl rfl dX9_readRelation_100 ?_
    replace h := bind_so h
    obtain ⟨a101, h101, h⟩ := h
    refine r_getT (t := 2) rfl clok_9 F (by decide) h101 tw_1338 dX9_readRelation_101 ?_
    refine r_iload_n (j := 1) F rfl rfl dX9_readRelation_104 ?_
    replace h := bind_so h
    obtain ⟨a105, h105, h⟩ := h
    refine r_iald F h105 dX9_readRelation_105 ?_
    refine r_goto (tgt := 126) F (by decide) dX9_readRelation_106 ?_
    refine r_sub [0, 1, 2, 3, 5] (ls' := [(0, vR l0), (1, vI l1), (2, vI l2), (3, vI l3), (5, vI l5)]) rfl ?_
    exact tX9_readRelation_126 F h
theorem tX9_readRelation_74 {E : En} {p : Program} {l : Launch} {e : Env} {s : State} {m : MethodId} {args : Array Value} {below : List Frame} {meth : Method} {c : Code} {q : Int × Mem} {l0 l1 l2 l3 l4 s0 : Int} {M : Mem} (F : Fx E p s m args meth c cX9_readRelation 6 yX9_readRelation.cls (some FieldType.boolean) yX9_readRelation.name) (h : mX9_readRelation_74 l0 l1 l2 l3 l4 s0 M = some q) : G E p l e (rmOf 3 0 0) s m args below meth c 6 (QZ E below args s (rmOf 3 0 0) (some (vI q.1)) q.2) 0 0 M 74 [(0, vR l0), (1, vI l1), (2, vI l2), (3, vI l3), (4, vI l4)] [vI s0] := by
  unfold mX9_readRelation_74 at h
  refine r_istore (ls' := [(5, vI s0), (0, vR l0), (1, vI l1), (2, vI l2), (3, vI l3), (4, vI l4)]) F (by decide) rfl dX9_readRelation_74 ?_
  refine r_iload (j := 0) F rfl dX9_readRelation_76 ?_
  refine r_if_ne (tgt := 90) F (by decide) dX9_readRelation_78 (fun hc => ?_) (fun hc => ?_)
  · replace h := ite_n h hc
    refine r_sub [1, 2, 3, 4, 5, 0] (ls' := [(0, vR l0), (1, vI l1), (2, vI l2), (3, vI l3), (4, vI l4), (5, vI s0)]) rfl ?_
    exact tX9_readRelation_90 F h
  · replace h := ite_p h hc
    refine r_aload_n (j := 1) F rfl rfl dX9_readRelation_81 ?_
    refine r_iconst F rfl dX9_readRelation_82 ?_
    refine r_aload_n (j := 1) F rfl rfl dX9_readRelation_83 ?_
    replace h := bind_so h
    obtain ⟨a84, h84, h⟩ := h
    refine r_getT (t := 0) rfl clok_9 F (by decide) h84 tw_1328 dX9_readRelation_84 ?_
    replace h := bind_so h
    obtain ⟨_, g87, h⟩ := h
    replace h := bind_so h
    obtain ⟨q87, h87, h⟩ := h
    refine r_callV (as := [vI 3, vI a84]) (rv := none) (kc := 0) (nc := 0) (tX9_later h87) clok_9 F (gK_so g87) tw_1619 tw_1621 tw_73 tw_1622 tw_122 ⟨by decide, by decide, show (parseMethodDescriptor yX9_later.desc).map (fun d => d.parameters.length) = some 2 by decide +kernel⟩ ⟨by decide, by decide⟩ (Nat.le_of_ble_eq_true rfl) dX9_readRelation_87 ?_
    refine r_sub [1, 2, 3, 4, 5, 0] (ls' := [(0, vR l0), (1, vI l1), (2, vI l2), (3, vI l3), (4, vI l4), (5, vI s0)]) rfl ?_
    exact tX9_readRelation_90 F h
theorem tX9_readRelation_69 {E : En} {p : Program} {l : Launch} {e : Env} {s : State} {m : MethodId} {args : Array Value} {below : List Frame} {meth : Method} {c : Code} {q : Int × Mem} {l0 l1 l2 l3 l4 : Int} {M : Mem} (F : Fx E p s m args meth c cX9_readRelation 6 yX9_readRelation.cls (some FieldType.boolean) yX9_readRelation.name) (h : mX9_readRelation_69 l0 l1 l2 l3 l4 M = some q) : G E p l e (rmOf 3 0 0) s m args below meth c 6 (QZ E below args s (rmOf 3 0 0) (some (vI q.1)) q.2) 0 0 M 69 [(0, vR l0), (1, vI l1), (2, vI l2), (3, vI l3), (4, vI l4)] [] := by
  unfold mX9_readRelation_69 at h
  refine r_iconst F rfl dX9_readRelation_69 ?_
  refine r_goto (tgt := 74) F (by decide) dX9_readRelation_70 ?_
  refine r_sub [0, 1, 2, 3, 4] (ls' := [(0, vR l0), (1, vI l1), (2, vI l2), (3, vI l3), (4, vI l4)]) rfl ?_
  exact tX9_readRelation_74 F h
theorem tX9_readRelation_47 {E : En} {p : Program} {l : Launch} {e : Env} {s : State} {m : MethodId} {args : Array Value} {below : List Frame} {meth : Method} {c : Code} {q : Int × Mem} {l0 l1 l2 l3 s0 : Int} {M : Mem} (F : Fx E p s m args meth c cX9_readRelation 6 yX9_readRelation.cls (some FieldType.boolean) yX9_readRelation.name) (h : mX9_readRelation_47 l0 l1 l2 l3 s0 M = some q) : G E p l e (rmOf 3 0 0) s m args below meth c 6 (QZ E below args s (rmOf 3 0 0) (some (vI q.1)) q.2) 0 0 M 47 [(0, vR l0), (1, vI l1), (2, vI l2), (3, vI l3)] [vI s0] := by
  unfold mX9_readRelation_47 at h
  refine r_istore (ls' := [(4, vI s0), (0, vR l0), (1, vI l1), (2, vI l2), (3, vI l3)]) F (by decide) rfl dX9_readRelation_47 ?_
  refine r_iload (j := 0) F rfl dX9_readRelation_49 ?_
  refine r_if_eq (tgt := 69) F (by decide) dX9_readRelation_51 (fun hc => ?_) (fun hc => ?_)
  · replace h := ite_p h hc
    refine r_sub [1, 2, 3, 4, 0] (ls' := [(0, vR l0), (1, vI l1), (2, vI l2), (3, vI l3), (4, vI s0)]) rfl ?_
    exact tX9_readRelation_69 F h
  · replace h := ite_n h hc
    refine r_aload_n (j := 1) F rfl rfl dX9_readRelation_54 ?_
    replace h := bind_so h
    obtain ⟨a55, h55, h⟩ := h
    refine r_getT (t := 2) rfl clok_9 F (by decide) h55 tw_1307 dX9_readRelation_55 ?_
    refine r_iload_n (j := 4) F rfl rfl dX9_readRelation_58 ?_
    replace h := bind_so h
    obtain ⟨a59, h59, h⟩ := h
    refine r_iald F h59 dX9_readRelation_59 ?_
    refine r_aload_n (j := 1) F rfl rfl dX9_readRelation_60 ?_
    replace h := bind_so h
    obtain ⟨a61, h61, h⟩ := h
    refine r_getT (t := 2) rfl clok_9 F (by decide) h61 tw_1306 dX9_readRelation_61 ?_
    refine r_iload_n (j := 4) F rfl rfl dX9_readRelation_64 ?_
    replace h := bind_so h
    obtain ⟨a65, h65, h⟩ := h
    refine r_iald F h65 dX9_readRelation_65 ?_
    refine r_icmp_ne (tgt := 73) F (by decide) dX9_readRelation_66 (fun hc => ?_) (fun hc => ?_)
    · replace h := ite_n h hc
      refine r_iconst F rfl dX9_readRelation_73 ?_
      refine r_sub [1, 2, 3, 4, 0] (ls' := [(0, vR l0), (1, vI l1), (2, vI l2), (3, vI l3), (4, vI s0)]) rfl ?_
      exact tX9_readRelation_74 F h
    · replace h := ite_p h hc
      refine r_sub [1, 2, 3, 4, 0] (ls' := [(0, vR l0), (1, vI l1), (2, vI l2), (3, vI l3), (4, vI s0)]) rfl ?_
      exact tX9_readRelation_69 F h
theorem tX9_readRelation_42 {E : En} {p : Program} {l : Launch} {e : Env} {s : State} {m : MethodId} {args : Array Value} {below : List Frame} {meth : Method} {c : Code} {q : Int × Mem} {l0 l1 l2 l3 : Int} {M : Mem} (F : Fx E p s m args meth c cX9_readRelation 6 yX9_readRelation.cls (some FieldType.boolean) yX9_readRelation.name) (h : mX9_readRelation_42 l0 l1 l2 l3 M = some q) : G E p l e (rmOf 3 0 0) s m args below meth c 6 (QZ E below args s (rmOf 3 0 0) (some (vI q.1)) q.2) 0 0 M 42 [(0, vR l0), (1, vI l1), (2, vI l2), (3, vI l3)] [] := by
  unfold mX9_readRelation_42 at h
  refine r_iconst F rfl dX9_readRelation_42 ?_
  refine r_goto (tgt := 47) F (by decide) dX9_readRelation_43 ?_
  refine r_sub [0, 1, 2, 3] (ls' := [(0, vR l0), (1, vI l1), (2, vI l2), (3, vI l3)]) rfl ?_
  exact tX9_readRelation_47 F h
theorem tX9_readRelation {l0 l1 l2 : Int} {M : Mem} {q : Int × Mem} (h : mX9_readRelation l0 l1 l2 M = some q) : Ct 3 0 0 yX9_readRelation cX9_readRelation 6 (some FieldType.boolean) [vR l0, vI l1, vI l2] M (some (vI q.1)) q.2 := by
  unfold mX9_readRelation at h
  refine Ct.of (by decide) (Nat.le_of_ble_eq_true rfl) ?_
  intro E p l e s m args below meth c F
  refine r_sub [0, 1, 2] (ls' := [(0, vR l0), (1, vI l1), (2, vI l2)]) rfl ?_
  refine r_aload_n (j := 0) F rfl rfl dX9_readRelation_0 ?_
  replace h := bind_so h
  obtain ⟨_, g1, h⟩ := h
  replace h := bind_so h
  obtain ⟨q1, h1, h⟩ := h
  refine r_callV (as := []) (rv := (some (vI q1.1))) (kc := 0) (nc := 0) (tX9_relOf h1) clok_9 F (gK_so g1) tw_1646 tw_1648 tw_77 tw_1649 tw_122 ⟨by decide, by decide, show (parseMethodDescriptor yX9_relOf.desc).map (fun d => d.parameters.length) = some 0 by decide +kernel⟩ ⟨by decide, by decide⟩ (Nat.le_of_ble_eq_true rfl) dX9_readRelation_1 ?_
  refine r_istore_n (ls' := [(3, vI q1.1), (0, vR l0), (1, vI l1), (2, vI l2)]) F rfl (by decide) rfl dX9_readRelation_4 ?_
  refine r_iload_n (j := 0) F rfl rfl dX9_readRelation_5 ?_
  refine r_iconst F rfl dX9_readRelation_6 ?_
  refine r_icmp_ne (tgt := 20) F (by decide) dX9_readRelation_7 (fun hc => ?_) (fun hc => ?_)
  · replace h := ite_n h hc
    refine r_aload_n (j := 1) F rfl rfl dX9_readRelation_20 ?_
    replace h := bind_so h
    obtain ⟨a21, h21, h⟩ := h
    refine r_getT (t := 2) rfl clok_9 F (by decide) h21 tw_1338 dX9_readRelation_21 ?_
    refine r_iload_n (j := 2) F rfl rfl dX9_readRelation_24 ?_
    replace h := bind_so h
    obtain ⟨a25, h25, h⟩ := h
    refine r_iald F h25 dX9_readRelation_25 ?_
    refine r_bipush F rfl (by decide) dX9_readRelation_26 ?_
    refine r_icmp_eq (tgt := 42) F (by decide) dX9_readRelation_28 (fun hc => ?_) (fun hc => ?_)
    · replace h := ite_p h hc
      refine r_sub [1, 2, 3, 0] (ls' := [(0, vR l0), (1, vI l1), (2, vI l2), (3, vI q1.1)]) rfl ?_
      exact tX9_readRelation_42 F h
    · replace h := ite_n h hc
      refine r_aload_n (j := 1) F rfl rfl dX9_readRelation_31 ?_
      replace h := bind_so h
      obtain ⟨a32, h32, h⟩ := h
      refine r_getT (t := 2) rfl clok_9 F (by decide) h32 tw_1338 dX9_readRelation_32 ?_
      refine r_iload_n (j := 2) F rfl rfl dX9_readRelation_35 ?_
      replace h := bind_so h
      obtain ⟨a36, h36, h⟩ := h
      refine r_iald F h36 dX9_readRelation_36 ?_
      refine r_bipush F rfl (by decide) dX9_readRelation_37 ?_
      refine r_icmp_ne (tgt := 46) F (by decide) dX9_readRelation_39 (fun hc => ?_) (fun hc => ?_)
      · replace h := ite_n h hc
        refine r_iconst F rfl dX9_readRelation_46 ?_
        refine r_sub [1, 2, 3, 0] (ls' := [(0, vR l0), (1, vI l1), (2, vI l2), (3, vI q1.1)]) rfl ?_
        exact tX9_readRelation_47 F h
      · replace h := ite_p h hc
        refine r_sub [1, 2, 3, 0] (ls' := [(0, vR l0), (1, vI l1), (2, vI l2), (3, vI q1.1)]) rfl ?_
        exact tX9_readRelation_42 F h
  · replace h := ite_p h hc
    refine r_aload_n (j := 1) F rfl rfl dX9_readRelation_10 ?_
    refine r_aload_n (j := 1) F rfl rfl dX9_readRelation_11 ?_
    replace h := bind_so h
    obtain ⟨a12, h12, h⟩ := h
    refine r_getT (t := 0) rfl clok_9 F (by decide) h12 tw_1328 dX9_readRelation_12 ?_
    replace h := bind_so h
    obtain ⟨M15, h15, h⟩ := h
    refine r_put clok_9 F (by decide) rfl (by decide) (by decide) h15 tw_1332 dX9_readRelation_15 ?_
    refine r_iconst F rfl dX9_readRelation_18 ?_
    obtain rfl := Option.some.inj h
    exact r_zret (Or.inl rfl) F dX9_readRelation_19
theorem tX9_readPart_102 {E : En} {p : Program} {l : Launch} {e : Env} {s : State} {m : MethodId} {args : Array Value} {below : List Frame} {meth : Method} {c : Code} {q : Int × Mem} {l0 l1 l2 : Int} {M : Mem} (F : Fx E p s m args meth c cX9_readPart 3 yX9_readPart.cls (some FieldType.boolean) yX9_readPart.name) (h : mX9_readPart_102 l0 l1 l2 M = some q) : G E p l e (rmOf 4 0 0) s m args below meth c 3 (QZ E below args s (rmOf 4 0 0) (some (vI q.1)) q.2) 0 0 M 102 [(0, vR l0), (1, vI l1), (2, vI l2)] [] := by
  unfold mX9_readPart_102 at h
  refine r_aload_n (j := 0) F rfl rfl dX9_readPart_102 ?_
  replace h := bind_so h
  obtain ⟨_, g103, h⟩ := h
  replace h := bind_so h
  obtain ⟨q103, h103, h⟩ := h
  refine r_callV (as := []) (rv := none) (kc := 0) (nc := 0) (tX9_token h103) clok_9 F (gK_so g103) tw_1607 tw_1609 tw_70 tw_1610 tw_122 ⟨by decide, by decide, show (parseMethodDescriptor yX9_token.desc).map (fun d => d.parameters.length) = some 0 by decide +kernel⟩ ⟨by decide, by decide⟩ (Nat.le_of_ble_eq_true rfl) dX9_readPart_103 ?_
  refine r_aload_n (j := 0) F rfl rfl dX9_readPart_106 ?_
  replace h := bind_so h
  obtain ⟨a107, h107, h⟩ := h
  refine r_getT (t := 2) rfl clok_9 F (by decide) h107 tw_1338 dX9_readPart_107 ?_
  refine r_iload_n (j := 2) F rfl rfl dX9_readPart_110 ?_
  replace h := bind_so h
  obtain ⟨a111, h111, h⟩ := h
  refine r_iald F h111 dX9_readPart_111 ?_
  refine r_iconst F rfl dX9_readPart_112 ?_
  refine r_icmp_gt (tgt := 123) F (by decide) dX9_readPart_113 (fun hc => ?_) (fun hc => ?_)
  · replace h := ite_p h hc
    refine r_aload_n (j := 0) F rfl rfl dX9_readPart_123 ?_
    replace h := bind_so h
    obtain ⟨a124, h124, h⟩ := h
    refine r_getT (t := 2) rfl clok_9 F (by decide) h124 tw_1338 dX9_readPart_124 ?_
    refine r_iload_n (j := 2) F rfl rfl dX9_readPart_127 ?_
    replace h := bind_so h
    obtain ⟨a128, h128, h⟩ := h
    refine r_iald F h128 dX9_readPart_128 ?_
    refine r_bipush F rfl (by decide) dX9_readPart_129 ?_
    refine r_icmp_ne (tgt := 141) F (by decide) dX9_readPart_131 (fun hc => ?_) (fun hc => ?_)
    · replace h := ite_n h hc
      refine r_aload_n (j := 0) F rfl rfl dX9_readPart_141 ?_
      replace h := bind_so h
      obtain ⟨a142, h142, h⟩ := h
      refine r_getT (t := 2) rfl clok_9 F (by decide) h142 tw_1338 dX9_readPart_142 ?_
      refine r_iload_n (j := 2) F rfl rfl dX9_readPart_145 ?_
      replace h := bind_so h
      obtain ⟨a146, h146, h⟩ := h
      refine r_iald F h146 dX9_readPart_146 ?_
      refine r_bipush F rfl (by decide) dX9_readPart_147 ?_
      refine r_icmp_lt (tgt := 159) F (by decide) dX9_readPart_149 (fun hc => ?_) (fun hc => ?_)
      · replace h := ite_p h hc
        refine r_aload_n (j := 0) F rfl rfl dX9_readPart_159 ?_
        refine r_iload_n (j := 1) F rfl rfl dX9_readPart_160 ?_
        replace h := bind_so h
        obtain ⟨_, g161, h⟩ := h
        replace h := bind_so h
        obtain ⟨q161, h161, h⟩ := h
        refine r_callV (as := [vI l1]) (rv := none) (kc := 0) (nc := 0) (tX9_wait h161) clok_9 F (gK_so g161) tw_1603 tw_1605 tw_69 tw_1606 tw_122 ⟨by decide, by decide, show (parseMethodDescriptor yX9_wait.desc).map (fun d => d.parameters.length) = some 1 by decide +kernel⟩ ⟨by decide, by decide⟩ (Nat.le_of_ble_eq_true rfl) dX9_readPart_161 ?_
        refine r_aload_n (j := 0) F rfl rfl dX9_readPart_164 ?_
        replace h := bind_so h
        obtain ⟨a165, h165, h⟩ := h
        refine r_getT (t := 2) rfl clok_9 F (by decide) h165 tw_1338 dX9_readPart_165 ?_
        refine r_iload_n (j := 2) F rfl rfl dX9_readPart_168 ?_
        replace h := bind_so h
        obtain ⟨a169, h169, h⟩ := h
        refine r_iald F h169 dX9_readPart_169 ?_
        refine r_iconst F rfl dX9_readPart_170 ?_
        refine r_icmp_eq (tgt := 179) F (by decide) dX9_readPart_171 (fun hc => ?_) (fun hc => ?_)
        · replace h := ite_p h hc
          refine r_iconst F rfl dX9_readPart_179 ?_
          obtain rfl := Option.some.inj h
          exact r_zret (Or.inr rfl) F dX9_readPart_180
        · replace h := ite_n h hc
          refine r_aload_n (j := 0) F rfl rfl dX9_readPart_174 ?_
          refine r_iload_n (j := 1) F rfl rfl dX9_readPart_175 ?_
          replace h := bind_so h
          obtain ⟨_, g176, h⟩ := h
          replace h := bind_so h
          obtain ⟨q176, h176, h⟩ := h
          refine r_callV (as := [vI l1]) (rv := none) (kc := 0) (nc := 0) (tX9_wait h176) clok_9 F (gK_so g176) tw_1603 tw_1605 tw_69 tw_1606 tw_122 ⟨by decide, by decide, show (parseMethodDescriptor yX9_wait.desc).map (fun d => d.parameters.length) = some 1 by decide +kernel⟩ ⟨by decide, by decide⟩ (Nat.le_of_ble_eq_true rfl) dX9_readPart_176 ?_
          refine r_iconst F rfl dX9_readPart_179 ?_
          obtain rfl := Option.some.inj h
          exact r_zret (Or.inr rfl) F dX9_readPart_180
      · replace h := ite_n h hc
        refine r_aload_n (j := 0) F rfl rfl dX9_readPart_152 ?_
        refine r_iload_n (j := 2) F rfl rfl dX9_readPart_153 ?_
        refine r_iload_n (j := 1) F rfl rfl dX9_readPart_154 ?_
        replace h := bind_so h
        obtain ⟨_, g155, h⟩ := h
        replace h := bind_so h
        obtain ⟨q155, h155, h⟩ := h
        refine r_callV (as := [vI l2, vI l1]) (rv := (some (vI q155.1))) (kc := 0) (nc := 0) (tX9_readRelation h155) clok_9 F (gK_so g155) tw_1642 tw_1644 tw_76 tw_1645 tw_122 ⟨by decide, by decide, show (parseMethodDescriptor yX9_readRelation.desc).map (fun d => d.parameters.length) = some 2 by decide +kernel⟩ ⟨by decide, by decide⟩ (Nat.le_of_ble_eq_true rfl) dX9_readPart_155 ?_
        replace h := bind_so h
        obtain ⟨z, hz, h⟩ := h
        obtain ⟨hz1, rfl⟩ := ite_so hz
        obtain rfl := Option.some.inj h
        exact r_zret hz1 F dX9_readPart_158
    · replace h := ite_p h hc
      refine r_aload_n (j := 0) F rfl rfl dX9_readPart_134 ?_
      refine r_iload_n (j := 2) F rfl rfl dX9_readPart_135 ?_
      refine r_iload_n (j := 1) F rfl rfl dX9_readPart_136 ?_
      replace h := bind_so h
      obtain ⟨_, g137, h⟩ := h
      replace h := bind_so h
      obtain ⟨q137, h137, h⟩ := h
      refine r_callV (as := [vI l2, vI l1]) (rv := (some (vI q137.1))) (kc := 0) (nc := 0) (tX9_readSame h137) clok_9 F (gK_so g137) tw_1684 tw_1686 tw_83 tw_1687 tw_122 ⟨by decide, by decide, show (parseMethodDescriptor yX9_readSame.desc).map (fun d => d.parameters.length) = some 2 by decide +kernel⟩ ⟨by decide, by decide⟩ (Nat.le_of_ble_eq_true rfl) dX9_readPart_137 ?_
      replace h := bind_so h
      obtain ⟨z, hz, h⟩ := h
      obtain ⟨hz1, rfl⟩ := ite_so hz
      obtain rfl := Option.some.inj h
      exact r_zret hz1 F dX9_readPart_140
  · replace h := ite_n h hc
    refine r_aload_n (j := 0) F rfl rfl dX9_readPart_116 ?_
    refine r_iload_n (j := 2) F rfl rfl dX9_readPart_117 ?_
    refine r_iload_n (j := 1) F rfl rfl dX9_readPart_118 ?_
    replace h := bind_so h
    obtain ⟨_, g119, h⟩ := h
    replace h := bind_so h
    obtain ⟨q119, h119, h⟩ := h
    refine r_callV (as := [vI l2, vI l1]) (rv := (some (vI q119.1))) (kc := 0) (nc := 0) (tX9_readBinder h119) clok_9 F (gK_so g119) tw_1673 tw_1675 tw_81 tw_1676 tw_122 ⟨by decide, by decide, show (parseMethodDescriptor yX9_readBinder.desc).map (fun d => d.parameters.length) = some 2 by decide +kernel⟩ ⟨by decide, by decide⟩ (Nat.le_of_ble_eq_true rfl) dX9_readPart_119 ?_
    replace h := bind_so h
    obtain ⟨z, hz, h⟩ := h
    obtain ⟨hz1, rfl⟩ := ite_so hz
    obtain rfl := Option.some.inj h
    exact r_zret hz1 F dX9_readPart_122
theorem tX9_readPart_36 {E : En} {p : Program} {l : Launch} {e : Env} {s : State} {m : MethodId} {args : Array Value} {below : List Frame} {meth : Method} {c : Code} {q : Int × Mem} {l0 l1 s0 : Int} {M : Mem} (F : Fx E p s m args meth c cX9_readPart 3 yX9_readPart.cls (some FieldType.boolean) yX9_readPart.name) (h : mX9_readPart_36 l0 l1 s0 M = some q) : G E p l e (rmOf 4 0 0) s m args below meth c 3 (QZ E below args s (rmOf 4 0 0) (some (vI q.1)) q.2) 0 0 M 36 [(0, vR l0), (1, vI l1)] [vI s0] := by
  unfold mX9_readPart_36 at h
  refine r_istore_n (ls' := [(2, vI s0), (0, vR l0), (1, vI l1)]) F rfl (by decide) rfl dX9_readPart_36 ?_
  refine r_aload_n (j := 1) F rfl rfl dX9_readPart_37 ?_
  refine r_dup1 F rfl dX9_readPart_38 ?_
  replace h := bind_so h
  obtain ⟨a39, h39, h⟩ := h
  refine r_getT (t := 0) rfl clok_9 F (by decide) h39 tw_1337 dX9_readPart_39 ?_
  refine r_iconst F rfl dX9_readPart_42 ?_
  refine r_iadd F dX9_readPart_43 ?_
  replace h := bind_so h
  obtain ⟨M44, h44, h⟩ := h
  refine r_put clok_9 F (by decide) rfl (by decide) (by decide) h44 tw_1337 dX9_readPart_44 ?_
  refine r_aload_n (j := 1) F rfl rfl dX9_readPart_47 ?_
  replace h := bind_so h
  obtain ⟨a48, h48, h⟩ := h
  refine r_getT (t := 2) rfl clok_9 F (by decide) h48 tw_1338 dX9_readPart_48 ?_
  refine r_iload_n (j := 0) F rfl rfl dX9_readPart_51 ?_
  refine r_aload_n (j := 1) F rfl rfl dX9_readPart_52 ?_
  replace h := bind_so h
  obtain ⟨_, g53, h⟩ := h
  replace h := bind_so h
  obtain ⟨q53, h53, h⟩ := h
  refine r_callV (as := []) (rv := (some (vI q53.1))) (kc := 0) (nc := 0) (tX9_actOf h53) clok_9 F (gK_so g53) tw_1623 tw_1625 tw_74 tw_1626 tw_122 ⟨by decide, by decide, show (parseMethodDescriptor yX9_actOf.desc).map (fun d => d.parameters.length) = some 0 by decide +kernel⟩ ⟨by decide, by decide⟩ (Nat.le_of_ble_eq_true rfl) dX9_readPart_53 ?_
  replace h := bind_so h
  obtain ⟨M56, h56, h⟩ := h
  refine r_iast F h56 dX9_readPart_56 ?_
  refine r_aload_n (j := 1) F rfl rfl dX9_readPart_57 ?_
  replace h := bind_so h
  obtain ⟨a58, h58, h⟩ := h
  refine r_getT (t := 2) rfl clok_9 F (by decide) h58 tw_1338 dX9_readPart_58 ?_
  refine r_iload_n (j := 0) F rfl rfl dX9_readPart_61 ?_
  replace h := bind_so h
  obtain ⟨a62, h62, h⟩ := h
  refine r_iald F h62 dX9_readPart_62 ?_
  refine r_iconst F rfl dX9_readPart_63 ?_
  refine r_icmp_ne (tgt := 74) F (by decide) dX9_readPart_64 (fun hc => ?_) (fun hc => ?_)
  · replace h := ite_n h hc
    refine r_aload_n (j := 1) F rfl rfl dX9_readPart_74 ?_
    replace h := bind_so h
    obtain ⟨a75, h75, h⟩ := h
    refine r_getT (t := 2) rfl clok_9 F (by decide) h75 tw_1338 dX9_readPart_75 ?_
    refine r_iload_n (j := 0) F rfl rfl dX9_readPart_78 ?_
    replace h := bind_so h
    obtain ⟨a79, h79, h⟩ := h
    refine r_iald F h79 dX9_readPart_79 ?_
    refine r_iconst F rfl dX9_readPart_80 ?_
    refine r_icmp_gt (tgt := 102) F (by decide) dX9_readPart_81 (fun hc => ?_) (fun hc => ?_)
    · replace h := ite_p h hc
      refine r_sub [1, 2, 0] (ls' := [(0, vR l0), (1, vI l1), (2, vI s0)]) rfl ?_
      exact tX9_readPart_102 F h
    · replace h := ite_n h hc
      refine r_iload_n (j := 2) F rfl rfl dX9_readPart_84 ?_
      refine r_sipush F rfl (by decide) dX9_readPart_85 ?_
      replace h := bind_so h
      obtain ⟨a88, h88, h⟩ := h
      refine r_idivq F h88 dX9_readPart_88 ?_
      refine r_iconst F rfl dX9_readPart_89 ?_
      refine r_icmp_lt (tgt := 102) F (by decide) dX9_readPart_90 (fun hc => ?_) (fun hc => ?_)
      · replace h := ite_p h hc
        refine r_sub [1, 2, 0] (ls' := [(0, vR l0), (1, vI l1), (2, vI s0)]) rfl ?_
        exact tX9_readPart_102 F h
      · replace h := ite_n h hc
        refine r_aload_n (j := 1) F rfl rfl dX9_readPart_93 ?_
        refine r_iconst F rfl dX9_readPart_94 ?_
        refine r_aload_n (j := 1) F rfl rfl dX9_readPart_95 ?_
        replace h := bind_so h
        obtain ⟨a96, h96, h⟩ := h
        refine r_getT (t := 0) rfl clok_9 F (by decide) h96 tw_1328 dX9_readPart_96 ?_
        replace h := bind_so h
        obtain ⟨_, g99, h⟩ := h
        replace h := bind_so h
        obtain ⟨q99, h99, h⟩ := h
        refine r_callV (as := [vI 5, vI a96]) (rv := none) (kc := 0) (nc := 0) (tX9_later h99) clok_9 F (gK_so g99) tw_1619 tw_1621 tw_73 tw_1622 tw_122 ⟨by decide, by decide, show (parseMethodDescriptor yX9_later.desc).map (fun d => d.parameters.length) = some 2 by decide +kernel⟩ ⟨by decide, by decide⟩ (Nat.le_of_ble_eq_true rfl) dX9_readPart_99 ?_
        refine r_sub [1, 2, 0] (ls' := [(0, vR l0), (1, vI l1), (2, vI s0)]) rfl ?_
        exact tX9_readPart_102 F h
  · replace h := ite_p h hc
    refine r_aload_n (j := 1) F rfl rfl dX9_readPart_67 ?_
    refine r_iload_n (j := 0) F rfl rfl dX9_readPart_68 ?_
    refine r_iload_n (j := 2) F rfl rfl dX9_readPart_69 ?_
    replace h := bind_so h
    obtain ⟨_, g70, h⟩ := h
    replace h := bind_so h
    obtain ⟨q70, h70, h⟩ := h
    refine r_callV (as := [vI s0, vI l1]) (rv := (some (vI q70.1))) (kc := 0) (nc := 0) (tX9_readRelation h70) clok_9 F (gK_so g70) tw_1642 tw_1644 tw_76 tw_1645 tw_122 ⟨by decide, by decide, show (parseMethodDescriptor yX9_readRelation.desc).map (fun d => d.parameters.length) = some 2 by decide +kernel⟩ ⟨by decide, by decide⟩ (Nat.le_of_ble_eq_true rfl) dX9_readPart_70 ?_
    replace h := bind_so h
    obtain ⟨z, hz, h⟩ := h
    obtain ⟨hz1, rfl⟩ := ite_so hz
    obtain rfl := Option.some.inj h
    exact r_zret hz1 F dX9_readPart_73
theorem tX9_readPart_18 {E : En} {p : Program} {l : Launch} {e : Env} {s : State} {m : MethodId} {args : Array Value} {below : List Frame} {meth : Method} {c : Code} {q : Int × Mem} {l0 l1 : Int} {M : Mem} (F : Fx E p s m args meth c cX9_readPart 3 yX9_readPart.cls (some FieldType.boolean) yX9_readPart.name) (h : mX9_readPart_18 l0 l1 M = some q) : G E p l e (rmOf 4 0 0) s m args below meth c 3 (QZ E below args s (rmOf 4 0 0) (some (vI q.1)) q.2) 0 0 M 18 [(0, vR l0), (1, vI l1)] [] := by
  unfold mX9_readPart_18 at h
  refine r_aload_n (j := 0) F rfl rfl dX9_readPart_18 ?_
  replace h := bind_so h
  obtain ⟨a19, h19, h⟩ := h
  refine r_getT (t := 0) rfl clok_9 F (by decide) h19 tw_1337 dX9_readPart_19 ?_
  refine r_bipush F rfl (by decide) dX9_readPart_22 ?_
  refine r_icmp_ge (tgt := 34) F (by decide) dX9_readPart_24 (fun hc => ?_) (fun hc => ?_)
  · replace h := ite_p h hc
    refine r_bipush F rfl (by decide) dX9_readPart_34 ?_
    refine r_sub [0, 1] (ls' := [(0, vR l0), (1, vI l1)]) rfl ?_
    exact tX9_readPart_36 F h
  · replace h := ite_n h hc
    refine r_aload_n (j := 0) F rfl rfl dX9_readPart_27 ?_
    replace h := bind_so h
    obtain ⟨a28, h28, h⟩ := h
    refine r_getT (t := 0) rfl clok_9 F (by decide) h28 tw_1337 dX9_readPart_28 ?_
    refine r_goto (tgt := 36) F (by decide) dX9_readPart_31 ?_
    refine r_sub [0, 1] (ls' := [(0, vR l0), (1, vI l1)]) rfl ?_
    exact tX9_readPart_36 F h
theorem tX9_readPart {l0 l1 : Int} {M : Mem} {q : Int × Mem} (h : mX9_readPart l0 l1 M = some q) : Ct 4 0 0 yX9_readPart cX9_readPart 3 (some FieldType.boolean) [vR l0, vI l1] M (some (vI q.1)) q.2 := by
  unfold mX9_readPart at h
  refine Ct.of (by decide) (Nat.le_of_ble_eq_true rfl) ?_
  intro E p l e s m args below meth c F
  refine r_sub [0, 1] (ls' := [(0, vR l0), (1, vI l1)]) rfl ?_
  refine r_aload_n (j := 0) F rfl rfl dX9_readPart_0 ?_
  replace h := bind_so h
  obtain ⟨a1, h1, h⟩ := h
  refine r_getT (t := 0) rfl clok_9 F (by decide) h1 tw_1337 dX9_readPart_1 ?_
  refine r_bipush F rfl (by decide) dX9_readPart_4 ?_
  refine r_icmp_ne (tgt := 18) F (by decide) dX9_readPart_6 (fun hc => ?_) (fun hc => ?_)
  · replace h := ite_n h hc
    refine r_sub [0, 1] (ls' := [(0, vR l0), (1, vI l1)]) rfl ?_
    exact tX9_readPart_18 F h
  · replace h := ite_p h hc
    refine r_aload_n (j := 0) F rfl rfl dX9_readPart_9 ?_
    refine r_iconst F rfl dX9_readPart_10 ?_
    refine r_aload_n (j := 0) F rfl rfl dX9_readPart_11 ?_
    replace h := bind_so h
    obtain ⟨a12, h12, h⟩ := h
    refine r_getT (t := 0) rfl clok_9 F (by decide) h12 tw_1328 dX9_readPart_12 ?_
    replace h := bind_so h
    obtain ⟨_, g15, h⟩ := h
    replace h := bind_so h
    obtain ⟨q15, h15, h⟩ := h
    refine r_callV (as := [vI 4, vI a12]) (rv := none) (kc := 0) (nc := 0) (tX9_later h15) clok_9 F (gK_so g15) tw_1619 tw_1621 tw_73 tw_1622 tw_122 ⟨by decide, by decide, show (parseMethodDescriptor yX9_later.desc).map (fun d => d.parameters.length) = some 2 by decide +kernel⟩ ⟨by decide, by decide⟩ (Nat.le_of_ble_eq_true rfl) dX9_readPart_15 ?_
    refine r_sub [0, 1] (ls' := [(0, vR l0), (1, vI l1)]) rfl ?_
    exact tX9_readPart_18 F h
