theorem tX9_sizeOf {l0 l1 : Int} {M : Mem} {q : Int × Mem} (h : mX9_sizeOf l0 l1 M = some q) : Ct 0 0 0 yX9_sizeOf cX9_sizeOf 2 (some FieldType.int) [vR l0, vI l1] M (some (vI q.1)) q.2 := by
  unfold mX9_sizeOf at h
  refine Ct.of (by decide) (Nat.le_of_ble_eq_true rfl) ?_
  intro E p l e s m args below meth c F
  refine r_sub [0, 1] (ls' := [(0, vR l0), (1, vI l1)]) rfl ?_
  refine r_iload_n (j := 1) F rfl rfl dX9_sizeOf_0 ?_
  refine r_iconst F rfl dX9_sizeOf_1 ?_
  refine r_icmp_ne (tgt := 9) F (by decide) dX9_sizeOf_2 (fun hc => ?_) (fun hc => ?_)
  · replace h := ite_n h hc
    refine r_aload_n (j := 0) F rfl rfl dX9_sizeOf_9 ?_
    replace h := bind_so h
    obtain ⟨a10, h10, h⟩ := h
    refine r_getT (t := 2) rfl clok_9 F (by decide) h10 tw_1323 dX9_sizeOf_10 ?_
    refine r_iload_n (j := 1) F rfl rfl dX9_sizeOf_13 ?_
    replace h := bind_so h
    obtain ⟨a14, h14, h⟩ := h
    refine r_iald F h14 dX9_sizeOf_14 ?_
    obtain rfl := Option.some.inj h
    exact r_iret F dX9_sizeOf_15
  · replace h := ite_p h hc
    refine r_iconst F rfl dX9_sizeOf_5 ?_
    refine r_goto (tgt := 15) F (by decide) dX9_sizeOf_6 ?_
    obtain rfl := Option.some.inj h
    exact r_iret F dX9_sizeOf_15
theorem tbX9_findStarts_9 {E : En} {p : Program} {l : Launch} {e : Env} {s : State} {m : MethodId} {args : Array Value} {below : List Frame} {meth : Method} {c : Code} {q : Int × Mem} {k9 : Int → Int → Mem → Option (Int × Mem)} (hk9 : ∀ {l0 l1 : Int} {M : Mem}, k9 l0 l1 M = some q → G E p l e (rmOf 1 0 0) s m args below meth c 2 (QZ E below args s (rmOf 1 0 0) none q.2) 0 0 M 9 [(0, vR l0), (1, vI l1)] []) {l0 l1 : Int} {M : Mem} (F : Fx E p s m args meth c cX9_findStarts 2 yX9_findStarts.cls none yX9_findStarts.name) (h : bX9_findStarts_9 k9 l0 l1 M = some q) : G E p l e (rmOf 1 0 0) s m args below meth c 2 (QZ E below args s (rmOf 1 0 0) none q.2) 0 0 M 9 [(0, vR l0), (1, vI l1)] [] := by
  unfold bX9_findStarts_9 at h
  refine r_iload_n (j := 1) F rfl rfl dX9_findStarts_9 ?_
  refine r_aload_n (j := 0) F rfl rfl dX9_findStarts_10 ?_
  replace h := bind_so h
  obtain ⟨a11, h11, h⟩ := h
  refine r_getT (t := 2) rfl clok_9 F (by decide) h11 tw_1305 dX9_findStarts_11 ?_
  refine r_iconst F rfl dX9_findStarts_14 ?_
  replace h := bind_so h
  obtain ⟨a15, h15, h⟩ := h
  refine r_iald F h15 dX9_findStarts_15 ?_
  refine r_icmp_ge (tgt := 61) F (by decide) dX9_findStarts_16 (fun hc => ?_) (fun hc => ?_)
  · replace h := ite_p h hc
    obtain rfl := Option.some.inj h
    exact r_vret F dX9_findStarts_61
  · replace h := ite_n h hc
    refine r_aload_n (j := 0) F rfl rfl dX9_findStarts_19 ?_
    replace h := bind_so h
    obtain ⟨a20, h20, h⟩ := h
    refine r_getT (t := 2) rfl clok_9 F (by decide) h20 tw_1324 dX9_findStarts_20 ?_
    refine r_iload_n (j := 1) F rfl rfl dX9_findStarts_23 ?_
    refine r_iconst F rfl dX9_findStarts_24 ?_
    refine r_iadd F dX9_findStarts_25 ?_
    refine r_aload_n (j := 0) F rfl rfl dX9_findStarts_26 ?_
    replace h := bind_so h
    obtain ⟨a27, h27, h⟩ := h
    refine r_getT (t := 2) rfl clok_9 F (by decide) h27 tw_1324 dX9_findStarts_27 ?_
    refine r_iload_n (j := 1) F rfl rfl dX9_findStarts_30 ?_
    replace h := bind_so h
    obtain ⟨a31, h31, h⟩ := h
    refine r_iald F h31 dX9_findStarts_31 ?_
    refine r_aload_n (j := 0) F rfl rfl dX9_findStarts_32 ?_
    refine r_aload_n (j := 0) F rfl rfl dX9_findStarts_33 ?_
    replace h := bind_so h
    obtain ⟨a34, h34, h⟩ := h
    refine r_getT (t := 2) rfl clok_9 F (by decide) h34 tw_1306 dX9_findStarts_34 ?_
    refine r_iload_n (j := 1) F rfl rfl dX9_findStarts_37 ?_
    replace h := bind_so h
    obtain ⟨a38, h38, h⟩ := h
    refine r_iald F h38 dX9_findStarts_38 ?_
    replace h := bind_so h
    obtain ⟨_, g39, h⟩ := h
    replace h := bind_so h
    obtain ⟨q39, h39, h⟩ := h
    refine r_callV (as := [vI a38]) (rv := (some (vI q39.1))) (kc := 0) (nc := 0) (tX9_sizeOf h39) clok_9 F (gK_so g39) tw_1514 tw_1516 tw_57 tw_1517 tw_122 ⟨by decide, by decide, show (parseMethodDescriptor yX9_sizeOf.desc).map (fun d => d.parameters.length) = some 1 by decide +kernel⟩ ⟨by decide, by decide⟩ (Nat.le_of_ble_eq_true rfl) dX9_findStarts_39 ?_
    refine r_aload_n (j := 0) F rfl rfl dX9_findStarts_42 ?_
    refine r_aload_n (j := 0) F rfl rfl dX9_findStarts_43 ?_
    replace h := bind_so h
    obtain ⟨a44, h44, h⟩ := h
    refine r_getT (t := 2) rfl clok_9 F (by decide) h44 tw_1307 dX9_findStarts_44 ?_
    refine r_iload_n (j := 1) F rfl rfl dX9_findStarts_47 ?_
    replace h := bind_so h
    obtain ⟨a48, h48, h⟩ := h
    refine r_iald F h48 dX9_findStarts_48 ?_
    replace h := bind_so h
    obtain ⟨_, g49, h⟩ := h
    replace h := bind_so h
    obtain ⟨q49, h49, h⟩ := h
    refine r_callV (as := [vI a48]) (rv := (some (vI q49.1))) (kc := 0) (nc := 0) (tX9_sizeOf h49) clok_9 F (gK_so g49) tw_1514 tw_1516 tw_57 tw_1517 tw_122 ⟨by decide, by decide, show (parseMethodDescriptor yX9_sizeOf.desc).map (fun d => d.parameters.length) = some 1 by decide +kernel⟩ ⟨by decide, by decide⟩ (Nat.le_of_ble_eq_true rfl) dX9_findStarts_49 ?_
    refine r_imul F dX9_findStarts_52 ?_
    refine r_iadd F dX9_findStarts_53 ?_
    replace h := bind_so h
    obtain ⟨M54, h54, h⟩ := h
    refine r_iast F h54 dX9_findStarts_54 ?_
    refine r_iinc (j := 1) (ls' := [(1, vI (wI (l1 + 1))), (0, vR l0)]) F rfl (by decide) rfl dX9_findStarts_55 ?_
    refine r_goto (tgt := 9) F (by decide) dX9_findStarts_58 ?_
    refine r_sub [1, 0] (ls' := [(0, vR l0), (1, vI (wI (l1 + 1)))]) rfl ?_
    exact hk9 h
theorem tX9_findStarts_9 {E : En} {p : Program} {l : Launch} {e : Env} {s : State} {m : MethodId} {args : Array Value} {below : List Frame} {meth : Method} {c : Code} {q : Int × Mem} (F : Fx E p s m args meth c cX9_findStarts 2 yX9_findStarts.cls none yX9_findStarts.name) : ∀ {fu : Nat} {l0 l1 : Int} {M : Mem}, mX9_findStarts_9 fu l0 l1 M = some q → G E p l e (rmOf 1 0 0) s m args below meth c 2 (QZ E below args s (rmOf 1 0 0) none q.2) 0 0 M 9 [(0, vR l0), (1, vI l1)] [] := by
  intro fu
  induction fu with
  | zero => intro l0 l1 M h; exact nomatch (show (none : Option (Int × Mem)) = some q from h)
  | succ fu ih => intro l0 l1 M h; exact tbX9_findStarts_9  (fun h => ih h) F h
theorem tX9_findStarts {l0 : Int} {M : Mem} {q : Int × Mem} (h : mX9_findStarts l0 M = some q) : Ct 1 0 0 yX9_findStarts cX9_findStarts 2 none [vR l0] M none q.2 := by
  unfold mX9_findStarts at h
  refine Ct.of (by decide) (Nat.le_of_ble_eq_true rfl) ?_
  intro E p l e s m args below meth c F
  refine r_sub [0] (ls' := [(0, vR l0)]) rfl ?_
  refine r_aload_n (j := 0) F rfl rfl dX9_findStarts_0 ?_
  replace h := bind_so h
  obtain ⟨a1, h1, h⟩ := h
  refine r_getT (t := 2) rfl clok_9 F (by decide) h1 tw_1324 dX9_findStarts_1 ?_
  refine r_iconst F rfl dX9_findStarts_4 ?_
  refine r_iconst F rfl dX9_findStarts_5 ?_
  replace h := bind_so h
  obtain ⟨M6, h6, h⟩ := h
  refine r_iast F h6 dX9_findStarts_6 ?_
  refine r_iconst F rfl dX9_findStarts_7 ?_
  refine r_istore_n (ls' := [(1, vI 0), (0, vR l0)]) F rfl (by decide) rfl dX9_findStarts_8 ?_
  refine r_sub [1, 0] (ls' := [(0, vR l0), (1, vI 0)]) rfl ?_
  exact tX9_findStarts_9 F h
theorem tbX9_bringSizes_2 {E : En} {p : Program} {l : Launch} {e : Env} {s : State} {m : MethodId} {args : Array Value} {below : List Frame} {meth : Method} {c : Code} {q : Int × Mem} {k2 : Int → Int → Mem → Option (Int × Mem)} (hk2 : ∀ {l0 l1 : Int} {M : Mem}, k2 l0 l1 M = some q → G E p l e (rmOf 2 0 0) s m args below meth c 2 (QZ E below args s (rmOf 2 0 0) none q.2) 0 0 M 2 [(0, vR l0), (1, vI l1)] []) {l0 l1 : Int} {M : Mem} (F : Fx E p s m args meth c cX9_bringSizes 2 yX9_bringSizes.cls none yX9_bringSizes.name) (h : bX9_bringSizes_2 k2 l0 l1 M = some q) : G E p l e (rmOf 2 0 0) s m args below meth c 2 (QZ E below args s (rmOf 2 0 0) none q.2) 0 0 M 2 [(0, vR l0), (1, vI l1)] [] := by
  unfold bX9_bringSizes_2 at h
  refine r_iload_n (j := 1) F rfl rfl dX9_bringSizes_2 ?_
  refine r_iconst F rfl dX9_bringSizes_3 ?_
  refine r_icmp_ge (tgt := 25) F (by decide) dX9_bringSizes_4 (fun hc => ?_) (fun hc => ?_)
  · replace h := ite_p h hc
    refine r_aload_n (j := 0) F rfl rfl dX9_bringSizes_25 ?_
    replace h := bind_so h
    obtain ⟨_, g26, h⟩ := h
    replace h := bind_so h
    obtain ⟨q26, h26, h⟩ := h
    refine r_callV (as := []) (rv := none) (kc := 0) (nc := 0) (tX9_findStarts h26) clok_9 F (gK_so g26) tw_1510 tw_1512 tw_56 tw_1513 tw_122 ⟨by decide, by decide, show (parseMethodDescriptor yX9_findStarts.desc).map (fun d => d.parameters.length) = some 0 by decide +kernel⟩ ⟨by decide, by decide⟩ (Nat.le_of_ble_eq_true rfl) dX9_bringSizes_26 ?_
    obtain rfl := Option.some.inj h
    exact r_vret F dX9_bringSizes_29
  · replace h := ite_n h hc
    refine r_aload_n (j := 0) F rfl rfl dX9_bringSizes_7 ?_
    replace h := bind_so h
    obtain ⟨a8, h8, h⟩ := h
    refine r_getT (t := 2) rfl clok_9 F (by decide) h8 tw_1323 dX9_bringSizes_8 ?_
    refine r_iload_n (j := 1) F rfl rfl dX9_bringSizes_11 ?_
    refine r_aload_n (j := 0) F rfl rfl dX9_bringSizes_12 ?_
    replace h := bind_so h
    obtain ⟨a13, h13, h⟩ := h
    refine r_getT (t := 2) rfl clok_9 F (by decide) h13 tw_1304 dX9_bringSizes_13 ?_
    refine r_iload_n (j := 1) F rfl rfl dX9_bringSizes_16 ?_
    replace h := bind_so h
    obtain ⟨a17, h17, h⟩ := h
    refine r_iald F h17 dX9_bringSizes_17 ?_
    replace h := bind_so h
    obtain ⟨M18, h18, h⟩ := h
    refine r_iast F h18 dX9_bringSizes_18 ?_
    refine r_iinc (j := 1) (ls' := [(1, vI (wI (l1 + 1))), (0, vR l0)]) F rfl (by decide) rfl dX9_bringSizes_19 ?_
    refine r_goto (tgt := 2) F (by decide) dX9_bringSizes_22 ?_
    refine r_sub [1, 0] (ls' := [(0, vR l0), (1, vI (wI (l1 + 1)))]) rfl ?_
    exact hk2 h
theorem tX9_bringSizes_2 {E : En} {p : Program} {l : Launch} {e : Env} {s : State} {m : MethodId} {args : Array Value} {below : List Frame} {meth : Method} {c : Code} {q : Int × Mem} (F : Fx E p s m args meth c cX9_bringSizes 2 yX9_bringSizes.cls none yX9_bringSizes.name) : ∀ {fu : Nat} {l0 l1 : Int} {M : Mem}, mX9_bringSizes_2 fu l0 l1 M = some q → G E p l e (rmOf 2 0 0) s m args below meth c 2 (QZ E below args s (rmOf 2 0 0) none q.2) 0 0 M 2 [(0, vR l0), (1, vI l1)] [] := by
  intro fu
  induction fu with
  | zero => intro l0 l1 M h; exact nomatch (show (none : Option (Int × Mem)) = some q from h)
  | succ fu ih => intro l0 l1 M h; exact tbX9_bringSizes_2  (fun h => ih h) F h
theorem tX9_bringSizes {l0 : Int} {M : Mem} {q : Int × Mem} (h : mX9_bringSizes l0 M = some q) : Ct 2 0 0 yX9_bringSizes cX9_bringSizes 2 none [vR l0] M none q.2 := by
  unfold mX9_bringSizes at h
  refine Ct.of (by decide) (Nat.le_of_ble_eq_true rfl) ?_
  intro E p l e s m args below meth c F
  refine r_sub [0] (ls' := [(0, vR l0)]) rfl ?_
  refine r_iconst F rfl dX9_bringSizes_0 ?_
  refine r_istore_n (ls' := [(1, vI 0), (0, vR l0)]) F rfl (by decide) rfl dX9_bringSizes_1 ?_
  refine r_sub [1, 0] (ls' := [(0, vR l0), (1, vI 0)]) rfl ?_
  exact tX9_bringSizes_2 F h
theorem tbX9_bringWorld_6 {E : En} {p : Program} {l : Launch} {e : Env} {s : State} {m : MethodId} {args : Array Value} {below : List Frame} {meth : Method} {c : Code} {q : Int × Mem} {k6 : Int → Int → Mem → Option (Int × Mem)} (hk6 : ∀ {l0 l1 : Int} {M : Mem}, k6 l0 l1 M = some q → G E p l e (rmOf 3 0 0) s m args below meth c 2 (QZ E below args s (rmOf 3 0 0) none q.2) 0 0 M 6 [(0, vR l0), (1, vI l1)] []) {l0 l1 : Int} {M : Mem} (F : Fx E p s m args meth c cX9_bringWorld 2 yX9_bringWorld.cls none yX9_bringWorld.name) (h : bX9_bringWorld_6 k6 l0 l1 M = some q) : G E p l e (rmOf 3 0 0) s m args below meth c 2 (QZ E below args s (rmOf 3 0 0) none q.2) 0 0 M 6 [(0, vR l0), (1, vI l1)] [] := by
  unfold bX9_bringWorld_6 at h
  refine r_iload_n (j := 1) F rfl rfl dX9_bringWorld_6 ?_
  refine r_bipush F rfl (by decide) dX9_bringWorld_7 ?_
  refine r_icmp_ge (tgt := 30) F (by decide) dX9_bringWorld_9 (fun hc => ?_) (fun hc => ?_)
  · replace h := ite_p h hc
    obtain rfl := Option.some.inj h
    exact r_vret F dX9_bringWorld_30
  · replace h := ite_n h hc
    refine r_aload_n (j := 0) F rfl rfl dX9_bringWorld_12 ?_
    replace h := bind_so h
    obtain ⟨a13, h13, h⟩ := h
    refine r_getT (t := 2) rfl clok_9 F (by decide) h13 tw_1325 dX9_bringWorld_13 ?_
    refine r_iload_n (j := 1) F rfl rfl dX9_bringWorld_16 ?_
    refine r_aload_n (j := 0) F rfl rfl dX9_bringWorld_17 ?_
    replace h := bind_so h
    obtain ⟨a18, h18, h⟩ := h
    refine r_getT (t := 2) rfl clok_9 F (by decide) h18 tw_1308 dX9_bringWorld_18 ?_
    refine r_iload_n (j := 1) F rfl rfl dX9_bringWorld_21 ?_
    replace h := bind_so h
    obtain ⟨a22, h22, h⟩ := h
    refine r_zald F h22 dX9_bringWorld_22 ?_
    replace h := bind_so h
    obtain ⟨M23, h23, h⟩ := h
    refine r_zast F h23 dX9_bringWorld_23 ?_
    refine r_iinc (j := 1) (ls' := [(1, vI (wI (l1 + 1))), (0, vR l0)]) F rfl (by decide) rfl dX9_bringWorld_24 ?_
    refine r_goto (tgt := 6) F (by decide) dX9_bringWorld_27 ?_
    refine r_sub [1, 0] (ls' := [(0, vR l0), (1, vI (wI (l1 + 1)))]) rfl ?_
    exact hk6 h
theorem tX9_bringWorld_6 {E : En} {p : Program} {l : Launch} {e : Env} {s : State} {m : MethodId} {args : Array Value} {below : List Frame} {meth : Method} {c : Code} {q : Int × Mem} (F : Fx E p s m args meth c cX9_bringWorld 2 yX9_bringWorld.cls none yX9_bringWorld.name) : ∀ {fu : Nat} {l0 l1 : Int} {M : Mem}, mX9_bringWorld_6 fu l0 l1 M = some q → G E p l e (rmOf 3 0 0) s m args below meth c 2 (QZ E below args s (rmOf 3 0 0) none q.2) 0 0 M 6 [(0, vR l0), (1, vI l1)] [] := by
  intro fu
  induction fu with
  | zero => intro l0 l1 M h; exact nomatch (show (none : Option (Int × Mem)) = some q from h)
  | succ fu ih => intro l0 l1 M h; exact tbX9_bringWorld_6  (fun h => ih h) F h
theorem tX9_bringWorld {l0 : Int} {M : Mem} {q : Int × Mem} (h : mX9_bringWorld l0 M = some q) : Ct 3 0 0 yX9_bringWorld cX9_bringWorld 2 none [vR l0] M none q.2 := by
  unfold mX9_bringWorld at h
  refine Ct.of (by decide) (Nat.le_of_ble_eq_true rfl) ?_
  intro E p l e s m args below meth c F
  refine r_sub [0] (ls' := [(0, vR l0)]) rfl ?_
  refine r_aload_n (j := 0) F rfl rfl dX9_bringWorld_0 ?_
  replace h := bind_so h
  obtain ⟨_, g1, h⟩ := h
  replace h := bind_so h
  obtain ⟨q1, h1, h⟩ := h
  refine r_callV (as := []) (rv := none) (kc := 0) (nc := 0) (tX9_bringSizes h1) clok_9 F (gK_so g1) tw_1506 tw_1508 tw_55 tw_1509 tw_122 ⟨by decide, by decide, show (parseMethodDescriptor yX9_bringSizes.desc).map (fun d => d.parameters.length) = some 0 by decide +kernel⟩ ⟨by decide, by decide⟩ (Nat.le_of_ble_eq_true rfl) dX9_bringWorld_1 ?_
  refine r_iconst F rfl dX9_bringWorld_4 ?_
  refine r_istore_n (ls' := [(1, vI 0), (0, vR l0)]) F rfl (by decide) rfl dX9_bringWorld_5 ?_
  refine r_sub [1, 0] (ls' := [(0, vR l0), (1, vI 0)]) rfl ?_
  exact tX9_bringWorld_6 F h
theorem tX9_manyFacts {l0 : Int} {M : Mem} {q : Int × Mem} (h : mX9_manyFacts l0 M = some q) : Ct 0 0 0 yX9_manyFacts cX9_manyFacts 1 (some FieldType.int) [vR l0] M (some (vI q.1)) q.2 := by
  unfold mX9_manyFacts at h
  refine Ct.of (by decide) (Nat.le_of_ble_eq_true rfl) ?_
  intro E p l e s m args below meth c F
  refine r_sub [0] (ls' := [(0, vR l0)]) rfl ?_
  refine r_aload_n (j := 0) F rfl rfl dX9_manyFacts_0 ?_
  replace h := bind_so h
  obtain ⟨a1, h1, h⟩ := h
  refine r_getT (t := 2) rfl clok_9 F (by decide) h1 tw_1324 dX9_manyFacts_1 ?_
  refine r_aload_n (j := 0) F rfl rfl dX9_manyFacts_4 ?_
  replace h := bind_so h
  obtain ⟨a5, h5, h⟩ := h
  refine r_getT (t := 2) rfl clok_9 F (by decide) h5 tw_1305 dX9_manyFacts_5 ?_
  refine r_iconst F rfl dX9_manyFacts_8 ?_
  replace h := bind_so h
  obtain ⟨a9, h9, h⟩ := h
  refine r_iald F h9 dX9_manyFacts_9 ?_
  replace h := bind_so h
  obtain ⟨a10, h10, h⟩ := h
  refine r_iald F h10 dX9_manyFacts_10 ?_
  obtain rfl := Option.some.inj h
  exact r_iret F dX9_manyFacts_11
theorem tX9_factAt_15 {E : En} {p : Program} {l : Launch} {e : Env} {s : State} {m : MethodId} {args : Array Value} {below : List Frame} {meth : Method} {c : Code} {q : Int × Mem} {l0 l1 l2 s0 : Int} {M : Mem} (F : Fx E p s m args meth c cX9_factAt 5 yX9_factAt.cls (some FieldType.int) yX9_factAt.name) (h : mX9_factAt_15 l0 l1 l2 s0 M = some q) : G E p l e (rmOf 1 0 0) s m args below meth c 5 (QZ E below args s (rmOf 1 0 0) (some (vI q.1)) q.2) 0 0 M 15 [(0, vR l0), (1, vI l1), (2, vI l2)] [vI s0] := by
  unfold mX9_factAt_15 at h
  refine r_istore (ls' := [(4, vI s0), (0, vR l0), (1, vI l1), (2, vI l2)]) F (by decide) rfl dX9_factAt_15 ?_
  refine r_iload_n (j := 3) F rfl rfl dX9_factAt_17 ?_
  refine r_iconst F rfl dX9_factAt_18 ?_
  refine r_aload_n (j := 1) F rfl rfl dX9_factAt_19 ?_
  refine r_aload_n (j := 1) F rfl rfl dX9_factAt_20 ?_
  replace h := bind_so h
  obtain ⟨a21, h21, h⟩ := h
  refine r_getT (t := 2) rfl clok_9 F (by decide) h21 tw_1306 dX9_factAt_21 ?_
  refine r_iload_n (j := 2) F rfl rfl dX9_factAt_24 ?_
  replace h := bind_so h
  obtain ⟨a25, h25, h⟩ := h
  refine r_iald F h25 dX9_factAt_25 ?_
  replace h := bind_so h
  obtain ⟨_, g26, h⟩ := h
  replace h := bind_so h
  obtain ⟨q26, h26, h⟩ := h
  refine r_callV (as := [vI a25]) (rv := (some (vI q26.1))) (kc := 0) (nc := 0) (tX9_sizeOf h26) clok_9 F (gK_so g26) tw_1514 tw_1516 tw_57 tw_1517 tw_122 ⟨by decide, by decide, show (parseMethodDescriptor yX9_sizeOf.desc).map (fun d => d.parameters.length) = some 1 by decide +kernel⟩ ⟨by decide, by decide⟩ (Nat.le_of_ble_eq_true rfl) dX9_factAt_26 ?_
  refine r_iconst F rfl dX9_factAt_29 ?_
  refine r_isub F dX9_factAt_30 ?_
  replace h := bind_so h
  obtain ⟨q31, h31, h⟩ := h
  refine r_callS (as := [vI l2, vI 0, vI (wI (q26.1 - 1))]) (rv := (some (vI q31.1))) (kc := 0) (nc := 0) (tX9_in h31) F tw_1491 tw_1492 tw_1493 tw_122 ⟨by decide, by decide, show (parseMethodDescriptor yX9_in.desc).map (fun d => d.parameters.length) = some 3 by decide +kernel⟩ ⟨by decide, by decide⟩ (Nat.le_of_ble_eq_true rfl) dX9_factAt_31 ?_
  refine r_if_eq (tgt := 83) F (by decide) dX9_factAt_34 (fun hc => ?_) (fun hc => ?_)
  · replace h := ite_p h hc
    refine r_iconst F rfl dX9_factAt_83 ?_
    obtain rfl := Option.some.inj h
    exact r_iret F dX9_factAt_84
  · replace h := ite_n h hc
    refine r_iload (j := 0) F rfl dX9_factAt_37 ?_
    refine r_iconst F rfl dX9_factAt_39 ?_
    refine r_aload_n (j := 1) F rfl rfl dX9_factAt_40 ?_
    refine r_aload_n (j := 1) F rfl rfl dX9_factAt_41 ?_
    replace h := bind_so h
    obtain ⟨a42, h42, h⟩ := h
    refine r_getT (t := 2) rfl clok_9 F (by decide) h42 tw_1307 dX9_factAt_42 ?_
    refine r_iload_n (j := 2) F rfl rfl dX9_factAt_45 ?_
    replace h := bind_so h
    obtain ⟨a46, h46, h⟩ := h
    refine r_iald F h46 dX9_factAt_46 ?_
    replace h := bind_so h
    obtain ⟨_, g47, h⟩ := h
    replace h := bind_so h
    obtain ⟨q47, h47, h⟩ := h
    refine r_callV (as := [vI a46]) (rv := (some (vI q47.1))) (kc := 0) (nc := 0) (tX9_sizeOf h47) clok_9 F (gK_so g47) tw_1514 tw_1516 tw_57 tw_1517 tw_122 ⟨by decide, by decide, show (parseMethodDescriptor yX9_sizeOf.desc).map (fun d => d.parameters.length) = some 1 by decide +kernel⟩ ⟨by decide, by decide⟩ (Nat.le_of_ble_eq_true rfl) dX9_factAt_47 ?_
    refine r_iconst F rfl dX9_factAt_50 ?_
    refine r_isub F dX9_factAt_51 ?_
    replace h := bind_so h
    obtain ⟨q52, h52, h⟩ := h
    refine r_callS (as := [vI s0, vI 0, vI (wI (q47.1 - 1))]) (rv := (some (vI q52.1))) (kc := 0) (nc := 0) (tX9_in h52) F tw_1491 tw_1492 tw_1493 tw_122 ⟨by decide, by decide, show (parseMethodDescriptor yX9_in.desc).map (fun d => d.parameters.length) = some 3 by decide +kernel⟩ ⟨by decide, by decide⟩ (Nat.le_of_ble_eq_true rfl) dX9_factAt_52 ?_
    refine r_if_eq (tgt := 83) F (by decide) dX9_factAt_55 (fun hc => ?_) (fun hc => ?_)
    · replace h := ite_p h hc
      refine r_iconst F rfl dX9_factAt_83 ?_
      obtain rfl := Option.some.inj h
      exact r_iret F dX9_factAt_84
    · replace h := ite_n h hc
      refine r_aload_n (j := 1) F rfl rfl dX9_factAt_58 ?_
      replace h := bind_so h
      obtain ⟨a59, h59, h⟩ := h
      refine r_getT (t := 2) rfl clok_9 F (by decide) h59 tw_1324 dX9_factAt_59 ?_
      refine r_iload_n (j := 2) F rfl rfl dX9_factAt_62 ?_
      replace h := bind_so h
      obtain ⟨a63, h63, h⟩ := h
      refine r_iald F h63 dX9_factAt_63 ?_
      refine r_aload_n (j := 1) F rfl rfl dX9_factAt_64 ?_
      refine r_aload_n (j := 1) F rfl rfl dX9_factAt_65 ?_
      replace h := bind_so h
      obtain ⟨a66, h66, h⟩ := h
      refine r_getT (t := 2) rfl clok_9 F (by decide) h66 tw_1307 dX9_factAt_66 ?_
      refine r_iload_n (j := 2) F rfl rfl dX9_factAt_69 ?_
      replace h := bind_so h
      obtain ⟨a70, h70, h⟩ := h
      refine r_iald F h70 dX9_factAt_70 ?_
      replace h := bind_so h
      obtain ⟨_, g71, h⟩ := h
      replace h := bind_so h
      obtain ⟨q71, h71, h⟩ := h
      refine r_callV (as := [vI a70]) (rv := (some (vI q71.1))) (kc := 0) (nc := 0) (tX9_sizeOf h71) clok_9 F (gK_so g71) tw_1514 tw_1516 tw_57 tw_1517 tw_122 ⟨by decide, by decide, show (parseMethodDescriptor yX9_sizeOf.desc).map (fun d => d.parameters.length) = some 1 by decide +kernel⟩ ⟨by decide, by decide⟩ (Nat.le_of_ble_eq_true rfl) dX9_factAt_71 ?_
      refine r_iload_n (j := 3) F rfl rfl dX9_factAt_74 ?_
      refine r_imul F dX9_factAt_75 ?_
      refine r_iadd F dX9_factAt_76 ?_
      refine r_iload (j := 0) F rfl dX9_factAt_77 ?_
      refine r_iadd F dX9_factAt_79 ?_
      refine r_goto (tgt := 84) F (by decide) dX9_factAt_80 ?_
      obtain rfl := Option.some.inj h
      exact r_iret F dX9_factAt_84
theorem tX9_factAt {l0 l1 l2 l3 : Int} {M : Mem} {q : Int × Mem} (h : mX9_factAt l0 l1 l2 l3 M = some q) : Ct 1 0 0 yX9_factAt cX9_factAt 5 (some FieldType.int) [vR l0, vI l1, vI l2, vI l3] M (some (vI q.1)) q.2 := by
  unfold mX9_factAt at h
  refine Ct.of (by decide) (Nat.le_of_ble_eq_true rfl) ?_
  intro E p l e s m args below meth c F
  refine r_sub [0, 1, 2, 3] (ls' := [(0, vR l0), (1, vI l1), (2, vI l2), (3, vI l3)]) rfl ?_
  refine r_aload_n (j := 0) F rfl rfl dX9_factAt_0 ?_
  replace h := bind_so h
  obtain ⟨a1, h1, h⟩ := h
  refine r_getT (t := 2) rfl clok_9 F (by decide) h1 tw_1307 dX9_factAt_1 ?_
  refine r_iload_n (j := 1) F rfl rfl dX9_factAt_4 ?_
  replace h := bind_so h
  obtain ⟨a5, h5, h⟩ := h
  refine r_iald F h5 dX9_factAt_5 ?_
  refine r_iconst F rfl dX9_factAt_6 ?_
  refine r_icmp_ne (tgt := 14) F (by decide) dX9_factAt_7 (fun hc => ?_) (fun hc => ?_)
  · replace h := ite_n h hc
    refine r_iload_n (j := 3) F rfl rfl dX9_factAt_14 ?_
    refine r_sub [0, 1, 2] (ls' := [(0, vR l0), (1, vI l1), (2, vI l2)]) rfl ?_
    exact tX9_factAt_15 F h
  · replace h := ite_p h hc
    refine r_iconst F rfl dX9_factAt_10 ?_
    refine r_goto (tgt := 15) F (by decide) dX9_factAt_11 ?_
    refine r_sub [0, 1, 2] (ls' := [(0, vR l0), (1, vI l1), (2, vI l2)]) rfl ?_
    exact tX9_factAt_15 F h
theorem tX9_isSo {l0 l1 l2 l3 : Int} {M : Mem} {q : Int × Mem} (h : mX9_isSo l0 l1 l2 l3 M = some q) : Ct 2 0 0 yX9_isSo cX9_isSo 5 (some FieldType.boolean) [vR l0, vI l1, vI l2, vI l3] M (some (vI q.1)) q.2 := by
  unfold mX9_isSo at h
  refine Ct.of (by decide) (Nat.le_of_ble_eq_true rfl) ?_
  intro E p l e s m args below meth c F
  refine r_sub [0, 1, 2, 3] (ls' := [(0, vR l0), (1, vI l1), (2, vI l2), (3, vI l3)]) rfl ?_
  refine r_aload_n (j := 0) F rfl rfl dX9_isSo_0 ?_
  refine r_iload_n (j := 1) F rfl rfl dX9_isSo_1 ?_
  refine r_iload_n (j := 2) F rfl rfl dX9_isSo_2 ?_
  refine r_iload_n (j := 3) F rfl rfl dX9_isSo_3 ?_
  replace h := bind_so h
  obtain ⟨_, g4, h⟩ := h
  replace h := bind_so h
  obtain ⟨q4, h4, h⟩ := h
  refine r_callV (as := [vI l1, vI l2, vI l3]) (rv := (some (vI q4.1))) (kc := 0) (nc := 0) (tX9_factAt h4) clok_9 F (gK_so g4) tw_1534 tw_1536 tw_61 tw_1537 tw_122 ⟨by decide, by decide, show (parseMethodDescriptor yX9_factAt.desc).map (fun d => d.parameters.length) = some 3 by decide +kernel⟩ ⟨by decide, by decide⟩ (Nat.le_of_ble_eq_true rfl) dX9_isSo_4 ?_
  refine r_istore (ls' := [(4, vI q4.1), (0, vR l0), (1, vI l1), (2, vI l2), (3, vI l3)]) F (by decide) rfl dX9_isSo_7 ?_
  refine r_iload (j := 0) F rfl dX9_isSo_9 ?_
  refine r_iconst F rfl dX9_isSo_11 ?_
  refine r_icmp_eq (tgt := 29) F (by decide) dX9_isSo_12 (fun hc => ?_) (fun hc => ?_)
  · replace h := ite_p h hc
    refine r_iconst F rfl dX9_isSo_29 ?_
    obtain rfl := Option.some.inj h
    exact r_zret (Or.inl rfl) F dX9_isSo_30
  · replace h := ite_n h hc
    refine r_aload_n (j := 1) F rfl rfl dX9_isSo_15 ?_
    replace h := bind_so h
    obtain ⟨a16, h16, h⟩ := h
    refine r_getT (t := 2) rfl clok_9 F (by decide) h16 tw_1325 dX9_isSo_16 ?_
    refine r_iload (j := 0) F rfl dX9_isSo_19 ?_
    replace h := bind_so h
    obtain ⟨a21, h21, h⟩ := h
    refine r_zald F h21 dX9_isSo_21 ?_
    refine r_if_eq (tgt := 29) F (by decide) dX9_isSo_22 (fun hc => ?_) (fun hc => ?_)
    · replace h := ite_p h hc
      refine r_iconst F rfl dX9_isSo_29 ?_
      obtain rfl := Option.some.inj h
      exact r_zret (Or.inl rfl) F dX9_isSo_30
    · replace h := ite_n h hc
      refine r_iconst F rfl dX9_isSo_25 ?_
      refine r_goto (tgt := 30) F (by decide) dX9_isSo_26 ?_
      obtain rfl := Option.some.inj h
      exact r_zret (Or.inr rfl) F dX9_isSo_30
theorem tbX9_clearWorld_23 {E : En} {p : Program} {l : Launch} {e : Env} {s : State} {m : MethodId} {args : Array Value} {below : List Frame} {meth : Method} {c : Code} {q : Int × Mem} {k23 : Int → Int → Mem → Option (Int × Mem)} (hk23 : ∀ {l0 l1 : Int} {M : Mem}, k23 l0 l1 M = some q → G E p l e (rmOf 0 0 0) s m args below meth c 2 (QZ E below args s (rmOf 0 0 0) none q.2) 0 0 M 23 [(0, vR l0), (1, vI l1)] []) {l0 l1 : Int} {M : Mem} (F : Fx E p s m args meth c cX9_clearWorld 2 yX9_clearWorld.cls none yX9_clearWorld.name) (h : bX9_clearWorld_23 k23 l0 l1 M = some q) : G E p l e (rmOf 0 0 0) s m args below meth c 2 (QZ E below args s (rmOf 0 0 0) none q.2) 0 0 M 23 [(0, vR l0), (1, vI l1)] [] := by
  unfold bX9_clearWorld_23 at h
  refine r_iload_n (j := 1) F rfl rfl dX9_clearWorld_23 ?_
  refine r_iconst F rfl dX9_clearWorld_24 ?_
  refine r_icmp_ge (tgt := 41) F (by decide) dX9_clearWorld_25 (fun hc => ?_) (fun hc => ?_)
  · replace h := ite_p h hc
    obtain rfl := Option.some.inj h
    exact r_vret F dX9_clearWorld_41
  · replace h := ite_n h hc
    refine r_aload_n (j := 0) F rfl rfl dX9_clearWorld_28 ?_
    replace h := bind_so h
    obtain ⟨a29, h29, h⟩ := h
    refine r_getT (t := 2) rfl clok_9 F (by decide) h29 tw_1322 dX9_clearWorld_29 ?_
    refine r_iload_n (j := 1) F rfl rfl dX9_clearWorld_32 ?_
    refine r_iconst F rfl dX9_clearWorld_33 ?_
    replace h := bind_so h
    obtain ⟨M34, h34, h⟩ := h
    refine r_zast F h34 dX9_clearWorld_34 ?_
    refine r_iinc (j := 1) (ls' := [(1, vI (wI (l1 + 1))), (0, vR l0)]) F rfl (by decide) rfl dX9_clearWorld_35 ?_
    refine r_goto (tgt := 23) F (by decide) dX9_clearWorld_38 ?_
    refine r_sub [1, 0] (ls' := [(0, vR l0), (1, vI (wI (l1 + 1)))]) rfl ?_
    exact hk23 h
theorem tX9_clearWorld_23 {E : En} {p : Program} {l : Launch} {e : Env} {s : State} {m : MethodId} {args : Array Value} {below : List Frame} {meth : Method} {c : Code} {q : Int × Mem} (F : Fx E p s m args meth c cX9_clearWorld 2 yX9_clearWorld.cls none yX9_clearWorld.name) : ∀ {fu : Nat} {l0 l1 : Int} {M : Mem}, mX9_clearWorld_23 fu l0 l1 M = some q → G E p l e (rmOf 0 0 0) s m args below meth c 2 (QZ E below args s (rmOf 0 0 0) none q.2) 0 0 M 23 [(0, vR l0), (1, vI l1)] [] := by
  intro fu
  induction fu with
  | zero => intro l0 l1 M h; exact nomatch (show (none : Option (Int × Mem)) = some q from h)
  | succ fu ih => intro l0 l1 M h; exact tbX9_clearWorld_23  (fun h => ih h) F h
theorem tbX9_clearWorld_2 {E : En} {p : Program} {l : Launch} {e : Env} {s : State} {m : MethodId} {args : Array Value} {below : List Frame} {meth : Method} {c : Code} {q : Int × Mem} {k2 : Int → Int → Mem → Option (Int × Mem)} (hk2 : ∀ {l0 l1 : Int} {M : Mem}, k2 l0 l1 M = some q → G E p l e (rmOf 0 0 0) s m args below meth c 2 (QZ E below args s (rmOf 0 0 0) none q.2) 0 0 M 2 [(0, vR l0), (1, vI l1)] []) {l0 l1 : Int} {M : Mem} (F : Fx E p s m args meth c cX9_clearWorld 2 yX9_clearWorld.cls none yX9_clearWorld.name) (h : bX9_clearWorld_2 k2 l0 l1 M = some q) : G E p l e (rmOf 0 0 0) s m args below meth c 2 (QZ E below args s (rmOf 0 0 0) none q.2) 0 0 M 2 [(0, vR l0), (1, vI l1)] [] := by
  unfold bX9_clearWorld_2 at h
  refine r_iload_n (j := 1) F rfl rfl dX9_clearWorld_2 ?_
  refine r_bipush F rfl (by decide) dX9_clearWorld_3 ?_
  refine r_icmp_ge (tgt := 21) F (by decide) dX9_clearWorld_5 (fun hc => ?_) (fun hc => ?_)
  · replace h := ite_p h hc
    refine r_iconst F rfl dX9_clearWorld_21 ?_
    refine r_istore_n (ls' := [(1, vI 0), (0, vR l0)]) F rfl (by decide) rfl dX9_clearWorld_22 ?_
    refine r_sub [1, 0] (ls' := [(0, vR l0), (1, vI 0)]) rfl ?_
    exact tX9_clearWorld_23 F h
  · replace h := ite_n h hc
    refine r_aload_n (j := 0) F rfl rfl dX9_clearWorld_8 ?_
    replace h := bind_so h
    obtain ⟨a9, h9, h⟩ := h
    refine r_getT (t := 2) rfl clok_9 F (by decide) h9 tw_1308 dX9_clearWorld_9 ?_
    refine r_iload_n (j := 1) F rfl rfl dX9_clearWorld_12 ?_
    refine r_iconst F rfl dX9_clearWorld_13 ?_
    replace h := bind_so h
    obtain ⟨M14, h14, h⟩ := h
    refine r_zast F h14 dX9_clearWorld_14 ?_
    refine r_iinc (j := 1) (ls' := [(1, vI (wI (l1 + 1))), (0, vR l0)]) F rfl (by decide) rfl dX9_clearWorld_15 ?_
    refine r_goto (tgt := 2) F (by decide) dX9_clearWorld_18 ?_
    refine r_sub [1, 0] (ls' := [(0, vR l0), (1, vI (wI (l1 + 1)))]) rfl ?_
    exact hk2 h
theorem tX9_clearWorld_2 {E : En} {p : Program} {l : Launch} {e : Env} {s : State} {m : MethodId} {args : Array Value} {below : List Frame} {meth : Method} {c : Code} {q : Int × Mem} (F : Fx E p s m args meth c cX9_clearWorld 2 yX9_clearWorld.cls none yX9_clearWorld.name) : ∀ {fu : Nat} {l0 l1 : Int} {M : Mem}, mX9_clearWorld_2 fu l0 l1 M = some q → G E p l e (rmOf 0 0 0) s m args below meth c 2 (QZ E below args s (rmOf 0 0 0) none q.2) 0 0 M 2 [(0, vR l0), (1, vI l1)] [] := by
  intro fu
  induction fu with
  | zero => intro l0 l1 M h; exact nomatch (show (none : Option (Int × Mem)) = some q from h)
  | succ fu ih => intro l0 l1 M h; exact tbX9_clearWorld_2  (fun h => ih h) F h
theorem tX9_clearWorld {l0 : Int} {M : Mem} {q : Int × Mem} (h : mX9_clearWorld l0 M = some q) : Ct 0 0 0 yX9_clearWorld cX9_clearWorld 2 none [vR l0] M none q.2 := by
  unfold mX9_clearWorld at h
  refine Ct.of (by decide) (Nat.le_of_ble_eq_true rfl) ?_
  intro E p l e s m args below meth c F
  refine r_sub [0] (ls' := [(0, vR l0)]) rfl ?_
  refine r_iconst F rfl dX9_clearWorld_0 ?_
  refine r_istore_n (ls' := [(1, vI 0), (0, vR l0)]) F rfl (by decide) rfl dX9_clearWorld_1 ?_
  refine r_sub [1, 0] (ls' := [(0, vR l0), (1, vI 0)]) rfl ?_
  exact tX9_clearWorld_2 F h
theorem tX9_size {l0 l1 l2 : Int} {M : Mem} {q : Int × Mem} (h : mX9_size l0 l1 l2 M = some q) : Ct 1 0 0 yX9_size cX9_size 3 (some FieldType.boolean) [vR l0, vI l1, vI l2] M (some (vI q.1)) q.2 := by
  unfold mX9_size at h
  refine Ct.of (by decide) (Nat.le_of_ble_eq_true rfl) ?_
  intro E p l e s m args below meth c F
  refine r_sub [0, 1, 2] (ls' := [(0, vR l0), (1, vI l1), (2, vI l2)]) rfl ?_
  refine r_aload_n (j := 0) F rfl rfl dX9_size_0 ?_
  refine r_iconst F rfl dX9_size_1 ?_
  replace h := bind_so h
  obtain ⟨M2, h2, h⟩ := h
  refine r_put clok_9 F (by decide) rfl (by decide) (by decide) h2 tw_1297 dX9_size_2 ?_
  refine r_iload_n (j := 1) F rfl rfl dX9_size_5 ?_
  refine r_iconst F rfl dX9_size_6 ?_
  refine r_iconst F rfl dX9_size_7 ?_
  replace h := bind_so h
  obtain ⟨q8, h8, h⟩ := h
  refine r_callS (as := [vI l1, vI 0, vI 2]) (rv := (some (vI q8.1))) (kc := 0) (nc := 0) (tX9_in h8) F tw_1491 tw_1492 tw_1493 tw_122 ⟨by decide, by decide, show (parseMethodDescriptor yX9_in.desc).map (fun d => d.parameters.length) = some 3 by decide +kernel⟩ ⟨by decide, by decide⟩ (Nat.le_of_ble_eq_true rfl) dX9_size_8 ?_
  refine r_if_eq (tgt := 33) F (by decide) dX9_size_11 (fun hc => ?_) (fun hc => ?_)
  · replace h := ite_p h hc
    refine r_iconst F rfl dX9_size_33 ?_
    obtain rfl := Option.some.inj h
    exact r_zret (Or.inl rfl) F dX9_size_34
  · replace h := ite_n h hc
    refine r_iload_n (j := 2) F rfl rfl dX9_size_14 ?_
    refine r_iconst F rfl dX9_size_15 ?_
    refine r_iconst F rfl dX9_size_16 ?_
    replace h := bind_so h
    obtain ⟨q17, h17, h⟩ := h
    refine r_callS (as := [vI l2, vI 1, vI 3]) (rv := (some (vI q17.1))) (kc := 0) (nc := 0) (tX9_in h17) F tw_1491 tw_1492 tw_1493 tw_122 ⟨by decide, by decide, show (parseMethodDescriptor yX9_in.desc).map (fun d => d.parameters.length) = some 3 by decide +kernel⟩ ⟨by decide, by decide⟩ (Nat.le_of_ble_eq_true rfl) dX9_size_17 ?_
    refine r_if_eq (tgt := 33) F (by decide) dX9_size_20 (fun hc => ?_) (fun hc => ?_)
    · replace h := ite_p h hc
      refine r_iconst F rfl dX9_size_33 ?_
      obtain rfl := Option.some.inj h
      exact r_zret (Or.inl rfl) F dX9_size_34
    · replace h := ite_n h hc
      refine r_aload_n (j := 0) F rfl rfl dX9_size_23 ?_
      replace h := bind_so h
      obtain ⟨a24, h24, h⟩ := h
      refine r_getT (t := 2) rfl clok_9 F (by decide) h24 tw_1304 dX9_size_24 ?_
      refine r_iload_n (j := 1) F rfl rfl dX9_size_27 ?_
      replace h := bind_so h
      obtain ⟨a28, h28, h⟩ := h
      refine r_iald F h28 dX9_size_28 ?_
      refine r_iload_n (j := 2) F rfl rfl dX9_size_29 ?_
      refine r_icmp_ne (tgt := 35) F (by decide) dX9_size_30 (fun hc => ?_) (fun hc => ?_)
      · replace h := ite_n h hc
        refine r_aload_n (j := 0) F rfl rfl dX9_size_35 ?_
        replace h := bind_so h
        obtain ⟨a36, h36, h⟩ := h
        refine r_getT (t := 2) rfl clok_9 F (by decide) h36 tw_1304 dX9_size_36 ?_
        refine r_iload_n (j := 1) F rfl rfl dX9_size_39 ?_
        refine r_iload_n (j := 2) F rfl rfl dX9_size_40 ?_
        replace h := bind_so h
        obtain ⟨M41, h41, h⟩ := h
        refine r_iast F h41 dX9_size_41 ?_
        refine r_aload_n (j := 0) F rfl rfl dX9_size_42 ?_
        replace h := bind_so h
        obtain ⟨_, g43, h⟩ := h
        replace h := bind_so h
        obtain ⟨q43, h43, h⟩ := h
        refine r_callV (as := []) (rv := none) (kc := 0) (nc := 0) (tX9_clearWorld h43) clok_9 F (gK_so g43) tw_1494 tw_1496 tw_54 tw_1497 tw_122 ⟨by decide, by decide, show (parseMethodDescriptor yX9_clearWorld.desc).map (fun d => d.parameters.length) = some 0 by decide +kernel⟩ ⟨by decide, by decide⟩ (Nat.le_of_ble_eq_true rfl) dX9_size_43 ?_
        refine r_iconst F rfl dX9_size_46 ?_
        obtain rfl := Option.some.inj h
        exact r_zret (Or.inr rfl) F dX9_size_47
      · replace h := ite_p h hc
        refine r_iconst F rfl dX9_size_33 ?_
        obtain rfl := Option.some.inj h
        exact r_zret (Or.inl rfl) F dX9_size_34
theorem tX9_relation {l0 l1 l2 : Int} {M : Mem} {q : Int × Mem} (h : mX9_relation l0 l1 l2 M = some q) : Ct 1 0 0 yX9_relation cX9_relation 4 (some FieldType.int) [vR l0, vI l1, vI l2] M (some (vI q.1)) q.2 := by
  unfold mX9_relation at h
  refine Ct.of (by decide) (Nat.le_of_ble_eq_true rfl) ?_
  intro E p l e s m args below meth c F
  refine r_sub [0, 1, 2] (ls' := [(0, vR l0), (1, vI l1), (2, vI l2)]) rfl ?_
  refine r_aload_n (j := 0) F rfl rfl dX9_relation_0 ?_
  refine r_iconst F rfl dX9_relation_1 ?_
  replace h := bind_so h
  obtain ⟨M2, h2, h⟩ := h
  refine r_put clok_9 F (by decide) rfl (by decide) (by decide) h2 tw_1297 dX9_relation_2 ?_
  refine r_aload_n (j := 0) F rfl rfl dX9_relation_5 ?_
  replace h := bind_so h
  obtain ⟨a6, h6, h⟩ := h
  refine r_getT (t := 2) rfl clok_9 F (by decide) h6 tw_1305 dX9_relation_6 ?_
  refine r_iconst F rfl dX9_relation_9 ?_
  replace h := bind_so h
  obtain ⟨a10, h10, h⟩ := h
  refine r_iald F h10 dX9_relation_10 ?_
  refine r_iconst F rfl dX9_relation_11 ?_
  refine r_icmp_eq (tgt := 33) F (by decide) dX9_relation_12 (fun hc => ?_) (fun hc => ?_)
  · replace h := ite_p h hc
    refine r_iconst F rfl dX9_relation_33 ?_
    obtain rfl := Option.some.inj h
    exact r_iret F dX9_relation_34
  · replace h := ite_n h hc
    refine r_iload_n (j := 1) F rfl rfl dX9_relation_15 ?_
    refine r_iconst F rfl dX9_relation_16 ?_
    refine r_iconst F rfl dX9_relation_17 ?_
    replace h := bind_so h
    obtain ⟨q18, h18, h⟩ := h
    refine r_callS (as := [vI l1, vI 0, vI 2]) (rv := (some (vI q18.1))) (kc := 0) (nc := 0) (tX9_in h18) F tw_1491 tw_1492 tw_1493 tw_122 ⟨by decide, by decide, show (parseMethodDescriptor yX9_in.desc).map (fun d => d.parameters.length) = some 3 by decide +kernel⟩ ⟨by decide, by decide⟩ (Nat.le_of_ble_eq_true rfl) dX9_relation_18 ?_
    refine r_if_eq (tgt := 33) F (by decide) dX9_relation_21 (fun hc => ?_) (fun hc => ?_)
    · replace h := ite_p h hc
      refine r_iconst F rfl dX9_relation_33 ?_
      obtain rfl := Option.some.inj h
      exact r_iret F dX9_relation_34
    · replace h := ite_n h hc
      refine r_iload_n (j := 2) F rfl rfl dX9_relation_24 ?_
      refine r_iconst F rfl dX9_relation_25 ?_
      refine r_iconst F rfl dX9_relation_26 ?_
      replace h := bind_so h
      obtain ⟨q27, h27, h⟩ := h
      refine r_callS (as := [vI l2, vI (-1), vI 2]) (rv := (some (vI q27.1))) (kc := 0) (nc := 0) (tX9_in h27) F tw_1491 tw_1492 tw_1493 tw_122 ⟨by decide, by decide, show (parseMethodDescriptor yX9_in.desc).map (fun d => d.parameters.length) = some 3 by decide +kernel⟩ ⟨by decide, by decide⟩ (Nat.le_of_ble_eq_true rfl) dX9_relation_27 ?_
      refine r_if_ne (tgt := 35) F (by decide) dX9_relation_30 (fun hc => ?_) (fun hc => ?_)
      · replace h := ite_n h hc
        refine r_aload_n (j := 0) F rfl rfl dX9_relation_35 ?_
        replace h := bind_so h
        obtain ⟨a36, h36, h⟩ := h
        refine r_getT (t := 2) rfl clok_9 F (by decide) h36 tw_1305 dX9_relation_36 ?_
        refine r_iconst F rfl dX9_relation_39 ?_
        replace h := bind_so h
        obtain ⟨a40, h40, h⟩ := h
        refine r_iald F h40 dX9_relation_40 ?_
        refine r_istore_n (ls' := [(3, vI a40), (0, vR l0), (1, vI l1), (2, vI l2)]) F rfl (by decide) rfl dX9_relation_41 ?_
        refine r_aload_n (j := 1) F rfl rfl dX9_relation_42 ?_
        replace h := bind_so h
        obtain ⟨a43, h43, h⟩ := h
        refine r_getT (t := 2) rfl clok_9 F (by decide) h43 tw_1305 dX9_relation_43 ?_
        refine r_iconst F rfl dX9_relation_46 ?_
        refine r_dup2 F rfl rfl dX9_relation_47 ?_
        replace h := bind_so h
        obtain ⟨a48, h48, h⟩ := h
        refine r_iald F h48 dX9_relation_48 ?_
        refine r_iconst F rfl dX9_relation_49 ?_
        refine r_iadd F dX9_relation_50 ?_
        replace h := bind_so h
        obtain ⟨M51, h51, h⟩ := h
        refine r_iast F h51 dX9_relation_51 ?_
        refine r_aload_n (j := 1) F rfl rfl dX9_relation_52 ?_
        replace h := bind_so h
        obtain ⟨a53, h53, h⟩ := h
        refine r_getT (t := 2) rfl clok_9 F (by decide) h53 tw_1306 dX9_relation_53 ?_
        refine r_iload_n (j := 0) F rfl rfl dX9_relation_56 ?_
        refine r_iload_n (j := 2) F rfl rfl dX9_relation_57 ?_
        replace h := bind_so h
        obtain ⟨M58, h58, h⟩ := h
        refine r_iast F h58 dX9_relation_58 ?_
        refine r_aload_n (j := 1) F rfl rfl dX9_relation_59 ?_
        replace h := bind_so h
        obtain ⟨a60, h60, h⟩ := h
        refine r_getT (t := 2) rfl clok_9 F (by decide) h60 tw_1307 dX9_relation_60 ?_
        refine r_iload_n (j := 0) F rfl rfl dX9_relation_63 ?_
        refine r_iload_n (j := 3) F rfl rfl dX9_relation_64 ?_
        replace h := bind_so h
        obtain ⟨M65, h65, h⟩ := h
        refine r_iast F h65 dX9_relation_65 ?_
        refine r_aload_n (j := 1) F rfl rfl dX9_relation_66 ?_
        replace h := bind_so h
        obtain ⟨_, g67, h⟩ := h
        replace h := bind_so h
        obtain ⟨q67, h67, h⟩ := h
        refine r_callV (as := []) (rv := none) (kc := 0) (nc := 0) (tX9_clearWorld h67) clok_9 F (gK_so g67) tw_1494 tw_1496 tw_54 tw_1497 tw_122 ⟨by decide, by decide, show (parseMethodDescriptor yX9_clearWorld.desc).map (fun d => d.parameters.length) = some 0 by decide +kernel⟩ ⟨by decide, by decide⟩ (Nat.le_of_ble_eq_true rfl) dX9_relation_67 ?_
        refine r_iload_n (j := 0) F rfl rfl dX9_relation_70 ?_
        obtain rfl := Option.some.inj h
        exact r_iret F dX9_relation_71
      · replace h := ite_p h hc
        refine r_iconst F rfl dX9_relation_33 ?_
        obtain rfl := Option.some.inj h
        exact r_iret F dX9_relation_34
theorem tX9_facts {l0 : Int} {M : Mem} {q : Int × Mem} (h : mX9_facts l0 M = some q) : Ct 3 0 0 yX9_facts cX9_facts 1 (some FieldType.int) [vR l0] M (some (vI q.1)) q.2 := by
  unfold mX9_facts at h
  refine Ct.of (by decide) (Nat.le_of_ble_eq_true rfl) ?_
  intro E p l e s m args below meth c F
  refine r_sub [0] (ls' := [(0, vR l0)]) rfl ?_
  refine r_aload_n (j := 0) F rfl rfl dX9_facts_0 ?_
  refine r_iconst F rfl dX9_facts_1 ?_
  replace h := bind_so h
  obtain ⟨M2, h2, h⟩ := h
  refine r_put clok_9 F (by decide) rfl (by decide) (by decide) h2 tw_1297 dX9_facts_2 ?_
  refine r_aload_n (j := 0) F rfl rfl dX9_facts_5 ?_
  replace h := bind_so h
  obtain ⟨_, g6, h⟩ := h
  replace h := bind_so h
  obtain ⟨q6, h6, h⟩ := h
  refine r_callV (as := []) (rv := none) (kc := 0) (nc := 0) (tX9_bringSizes h6) clok_9 F (gK_so g6) tw_1506 tw_1508 tw_55 tw_1509 tw_122 ⟨by decide, by decide, show (parseMethodDescriptor yX9_bringSizes.desc).map (fun d => d.parameters.length) = some 0 by decide +kernel⟩ ⟨by decide, by decide⟩ (Nat.le_of_ble_eq_true rfl) dX9_facts_6 ?_
  refine r_aload_n (j := 0) F rfl rfl dX9_facts_9 ?_
  replace h := bind_so h
  obtain ⟨_, g10, h⟩ := h
  replace h := bind_so h
  obtain ⟨q10, h10, h⟩ := h
  refine r_callV (as := []) (rv := (some (vI q10.1))) (kc := 0) (nc := 0) (tX9_manyFacts h10) clok_9 F (gK_so g10) tw_1518 tw_1520 tw_58 tw_1521 tw_122 ⟨by decide, by decide, show (parseMethodDescriptor yX9_manyFacts.desc).map (fun d => d.parameters.length) = some 0 by decide +kernel⟩ ⟨by decide, by decide⟩ (Nat.le_of_ble_eq_true rfl) dX9_facts_10 ?_
  obtain rfl := Option.some.inj h
  exact r_iret F dX9_facts_13
theorem tX9_isRelation {l0 l1 : Int} {M : Mem} {q : Int × Mem} (h : mX9_isRelation l0 l1 M = some q) : Ct 1 0 0 yX9_isRelation cX9_isRelation 2 (some FieldType.boolean) [vR l0, vI l1] M (some (vI q.1)) q.2 := by
  unfold mX9_isRelation at h
  refine Ct.of (by decide) (Nat.le_of_ble_eq_true rfl) ?_
  intro E p l e s m args below meth c F
  refine r_sub [0, 1] (ls' := [(0, vR l0), (1, vI l1)]) rfl ?_
  refine r_iload_n (j := 1) F rfl rfl dX9_isRelation_0 ?_
  refine r_iconst F rfl dX9_isRelation_1 ?_
  refine r_aload_n (j := 0) F rfl rfl dX9_isRelation_2 ?_
  replace h := bind_so h
  obtain ⟨a3, h3, h⟩ := h
  refine r_getT (t := 2) rfl clok_9 F (by decide) h3 tw_1305 dX9_isRelation_3 ?_
  refine r_iconst F rfl dX9_isRelation_6 ?_
  replace h := bind_so h
  obtain ⟨a7, h7, h⟩ := h
  refine r_iald F h7 dX9_isRelation_7 ?_
  refine r_iconst F rfl dX9_isRelation_8 ?_
  refine r_isub F dX9_isRelation_9 ?_
  replace h := bind_so h
  obtain ⟨q10, h10, h⟩ := h
  refine r_callS (as := [vI l1, vI 0, vI (wI (a7 - 1))]) (rv := (some (vI q10.1))) (kc := 0) (nc := 0) (tX9_in h10) F tw_1491 tw_1492 tw_1493 tw_122 ⟨by decide, by decide, show (parseMethodDescriptor yX9_in.desc).map (fun d => d.parameters.length) = some 3 by decide +kernel⟩ ⟨by decide, by decide⟩ (Nat.le_of_ble_eq_true rfl) dX9_isRelation_10 ?_
  replace h := bind_so h
  obtain ⟨z, hz, h⟩ := h
  obtain ⟨hz1, rfl⟩ := ite_so hz
  obtain rfl := Option.some.inj h
  exact r_zret hz1 F dX9_isRelation_13
theorem tX9_toldFact {l0 l1 l2 l3 : Int} {M : Mem} {q : Int × Mem} (h : mX9_toldFact l0 l1 l2 l3 M = some q) : Ct 3 0 0 yX9_toldFact cX9_toldFact 4 (some FieldType.int) [vR l0, vI l1, vI l2, vI l3] M (some (vI q.1)) q.2 := by
  unfold mX9_toldFact at h
  refine Ct.of (by decide) (Nat.le_of_ble_eq_true rfl) ?_
  intro E p l e s m args below meth c F
  refine r_sub [0, 1, 2, 3] (ls' := [(0, vR l0), (1, vI l1), (2, vI l2), (3, vI l3)]) rfl ?_
  refine r_aload_n (j := 0) F rfl rfl dX9_toldFact_0 ?_
  replace h := bind_so h
  obtain ⟨_, g1, h⟩ := h
  replace h := bind_so h
  obtain ⟨q1, h1, h⟩ := h
  refine r_callV (as := []) (rv := none) (kc := 0) (nc := 0) (tX9_bringSizes h1) clok_9 F (gK_so g1) tw_1506 tw_1508 tw_55 tw_1509 tw_122 ⟨by decide, by decide, show (parseMethodDescriptor yX9_bringSizes.desc).map (fun d => d.parameters.length) = some 0 by decide +kernel⟩ ⟨by decide, by decide⟩ (Nat.le_of_ble_eq_true rfl) dX9_toldFact_1 ?_
  refine r_aload_n (j := 0) F rfl rfl dX9_toldFact_4 ?_
  refine r_iload_n (j := 1) F rfl rfl dX9_toldFact_5 ?_
  replace h := bind_so h
  obtain ⟨_, g6, h⟩ := h
  replace h := bind_so h
  obtain ⟨q6, h6, h⟩ := h
  refine r_callV (as := [vI l1]) (rv := (some (vI q6.1))) (kc := 0) (nc := 0) (tX9_isRelation h6) clok_9 F (gK_so g6) tw_1530 tw_1532 tw_60 tw_1533 tw_122 ⟨by decide, by decide, show (parseMethodDescriptor yX9_isRelation.desc).map (fun d => d.parameters.length) = some 1 by decide +kernel⟩ ⟨by decide, by decide⟩ (Nat.le_of_ble_eq_true rfl) dX9_toldFact_6 ?_
  refine r_if_eq (tgt := 22) F (by decide) dX9_toldFact_9 (fun hc => ?_) (fun hc => ?_)
  · replace h := ite_p h hc
    refine r_iconst F rfl dX9_toldFact_22 ?_
    obtain rfl := Option.some.inj h
    exact r_iret F dX9_toldFact_23
  · replace h := ite_n h hc
    refine r_aload_n (j := 0) F rfl rfl dX9_toldFact_12 ?_
    refine r_iload_n (j := 1) F rfl rfl dX9_toldFact_13 ?_
    refine r_iload_n (j := 2) F rfl rfl dX9_toldFact_14 ?_
    refine r_iload_n (j := 3) F rfl rfl dX9_toldFact_15 ?_
    replace h := bind_so h
    obtain ⟨_, g16, h⟩ := h
    replace h := bind_so h
    obtain ⟨q16, h16, h⟩ := h
    refine r_callV (as := [vI l1, vI l2, vI l3]) (rv := (some (vI q16.1))) (kc := 0) (nc := 0) (tX9_factAt h16) clok_9 F (gK_so g16) tw_1534 tw_1536 tw_61 tw_1537 tw_122 ⟨by decide, by decide, show (parseMethodDescriptor yX9_factAt.desc).map (fun d => d.parameters.length) = some 3 by decide +kernel⟩ ⟨by decide, by decide⟩ (Nat.le_of_ble_eq_true rfl) dX9_toldFact_16 ?_
    refine r_goto (tgt := 23) F (by decide) dX9_toldFact_19 ?_
    obtain rfl := Option.some.inj h
    exact r_iret F dX9_toldFact_23
theorem tX9_tell {l0 l1 l2 l3 l4 : Int} {M : Mem} {q : Int × Mem} (h : mX9_tell l0 l1 l2 l3 l4 M = some q) : Ct 4 0 0 yX9_tell cX9_tell 6 (some FieldType.boolean) [vR l0, vI l1, vI l2, vI l3, vI l4] M (some (vI q.1)) q.2 := by
  unfold mX9_tell at h
  refine Ct.of (by decide) (Nat.le_of_ble_eq_true rfl) ?_
  intro E p l e s m args below meth c F
  refine r_sub [0, 1, 2, 3, 4] (ls' := [(0, vR l0), (1, vI l1), (2, vI l2), (3, vI l3), (4, vI l4)]) rfl ?_
  refine r_aload_n (j := 0) F rfl rfl dX9_tell_0 ?_
  refine r_iconst F rfl dX9_tell_1 ?_
  replace h := bind_so h
  obtain ⟨M2, h2, h⟩ := h
  refine r_put clok_9 F (by decide) rfl (by decide) (by decide) h2 tw_1297 dX9_tell_2 ?_
  refine r_aload_n (j := 0) F rfl rfl dX9_tell_5 ?_
  refine r_iload_n (j := 1) F rfl rfl dX9_tell_6 ?_
  refine r_iload_n (j := 2) F rfl rfl dX9_tell_7 ?_
  refine r_iload_n (j := 3) F rfl rfl dX9_tell_8 ?_
  replace h := bind_so h
  obtain ⟨_, g9, h⟩ := h
  replace h := bind_so h
  obtain ⟨q9, h9, h⟩ := h
  refine r_callV (as := [vI l1, vI l2, vI l3]) (rv := (some (vI q9.1))) (kc := 0) (nc := 0) (tX9_toldFact h9) clok_9 F (gK_so g9) tw_1526 tw_1528 tw_59 tw_1529 tw_122 ⟨by decide, by decide, show (parseMethodDescriptor yX9_toldFact.desc).map (fun d => d.parameters.length) = some 3 by decide +kernel⟩ ⟨by decide, by decide⟩ (Nat.le_of_ble_eq_true rfl) dX9_tell_9 ?_
  refine r_istore (ls' := [(5, vI q9.1), (0, vR l0), (1, vI l1), (2, vI l2), (3, vI l3), (4, vI l4)]) F (by decide) rfl dX9_tell_12 ?_
  refine r_iload (j := 0) F rfl dX9_tell_14 ?_
  refine r_iconst F rfl dX9_tell_16 ?_
  refine r_icmp_eq (tgt := 32) F (by decide) dX9_tell_17 (fun hc => ?_) (fun hc => ?_)
  · replace h := ite_p h hc
    refine r_iconst F rfl dX9_tell_32 ?_
    obtain rfl := Option.some.inj h
    exact r_zret (Or.inl rfl) F dX9_tell_33
  · replace h := ite_n h hc
    refine r_aload_n (j := 1) F rfl rfl dX9_tell_20 ?_
    replace h := bind_so h
    obtain ⟨a21, h21, h⟩ := h
    refine r_getT (t := 2) rfl clok_9 F (by decide) h21 tw_1308 dX9_tell_21 ?_
    refine r_iload (j := 0) F rfl dX9_tell_24 ?_
    replace h := bind_so h
    obtain ⟨a26, h26, h⟩ := h
    refine r_zald F h26 dX9_tell_26 ?_
    refine r_iload (j := 5) F rfl dX9_tell_27 ?_
    refine r_icmp_ne (tgt := 34) F (by decide) dX9_tell_29 (fun hc => ?_) (fun hc => ?_)
    · replace h := ite_n h hc
      refine r_aload_n (j := 1) F rfl rfl dX9_tell_34 ?_
      replace h := bind_so h
      obtain ⟨a35, h35, h⟩ := h
      refine r_getT (t := 2) rfl clok_9 F (by decide) h35 tw_1308 dX9_tell_35 ?_
      refine r_iload (j := 0) F rfl dX9_tell_38 ?_
      refine r_iload (j := 5) F rfl dX9_tell_40 ?_
      replace h := bind_so h
      obtain ⟨M42, h42, h⟩ := h
      refine r_zast F h42 dX9_tell_42 ?_
      refine r_iconst F rfl dX9_tell_43 ?_
      obtain rfl := Option.some.inj h
      exact r_zret (Or.inr rfl) F dX9_tell_44
    · replace h := ite_p h hc
      refine r_iconst F rfl dX9_tell_32 ?_
      obtain rfl := Option.some.inj h
      exact r_zret (Or.inl rfl) F dX9_tell_33
theorem tX9_fact {l0 l1 l2 l3 : Int} {M : Mem} {q : Int × Mem} (h : mX9_fact l0 l1 l2 l3 M = some q) : Ct 4 0 0 yX9_fact cX9_fact 5 (some FieldType.int) [vR l0, vI l1, vI l2, vI l3] M (some (vI q.1)) q.2 := by
  unfold mX9_fact at h
  refine Ct.of (by decide) (Nat.le_of_ble_eq_true rfl) ?_
  intro E p l e s m args below meth c F
  refine r_sub [0, 1, 2, 3] (ls' := [(0, vR l0), (1, vI l1), (2, vI l2), (3, vI l3)]) rfl ?_
  refine r_aload_n (j := 0) F rfl rfl dX9_fact_0 ?_
  refine r_iconst F rfl dX9_fact_1 ?_
  replace h := bind_so h
  obtain ⟨M2, h2, h⟩ := h
  refine r_put clok_9 F (by decide) rfl (by decide) (by decide) h2 tw_1297 dX9_fact_2 ?_
  refine r_aload_n (j := 0) F rfl rfl dX9_fact_5 ?_
  refine r_iload_n (j := 1) F rfl rfl dX9_fact_6 ?_
  refine r_iload_n (j := 2) F rfl rfl dX9_fact_7 ?_
  refine r_iload_n (j := 3) F rfl rfl dX9_fact_8 ?_
  replace h := bind_so h
  obtain ⟨_, g9, h⟩ := h
  replace h := bind_so h
  obtain ⟨q9, h9, h⟩ := h
  refine r_callV (as := [vI l1, vI l2, vI l3]) (rv := (some (vI q9.1))) (kc := 0) (nc := 0) (tX9_toldFact h9) clok_9 F (gK_so g9) tw_1526 tw_1528 tw_59 tw_1529 tw_122 ⟨by decide, by decide, show (parseMethodDescriptor yX9_toldFact.desc).map (fun d => d.parameters.length) = some 3 by decide +kernel⟩ ⟨by decide, by decide⟩ (Nat.le_of_ble_eq_true rfl) dX9_fact_9 ?_
  refine r_istore (ls' := [(4, vI q9.1), (0, vR l0), (1, vI l1), (2, vI l2), (3, vI l3)]) F (by decide) rfl dX9_fact_12 ?_
  refine r_iload (j := 0) F rfl dX9_fact_14 ?_
  refine r_iconst F rfl dX9_fact_16 ?_
  refine r_icmp_ne (tgt := 24) F (by decide) dX9_fact_17 (fun hc => ?_) (fun hc => ?_)
  · replace h := ite_n h hc
    refine r_aload_n (j := 1) F rfl rfl dX9_fact_24 ?_
    replace h := bind_so h
    obtain ⟨a25, h25, h⟩ := h
    refine r_getT (t := 2) rfl clok_9 F (by decide) h25 tw_1308 dX9_fact_25 ?_
    refine r_iload (j := 0) F rfl dX9_fact_28 ?_
    replace h := bind_so h
    obtain ⟨a30, h30, h⟩ := h
    refine r_zald F h30 dX9_fact_30 ?_
    refine r_if_eq (tgt := 38) F (by decide) dX9_fact_31 (fun hc => ?_) (fun hc => ?_)
    · replace h := ite_p h hc
      refine r_iconst F rfl dX9_fact_38 ?_
      obtain rfl := Option.some.inj h
      exact r_iret F dX9_fact_39
    · replace h := ite_n h hc
      refine r_iconst F rfl dX9_fact_34 ?_
      refine r_goto (tgt := 39) F (by decide) dX9_fact_35 ?_
      obtain rfl := Option.some.inj h
      exact r_iret F dX9_fact_39
  · replace h := ite_p h hc
    refine r_iconst F rfl dX9_fact_20 ?_
    refine r_goto (tgt := 39) F (by decide) dX9_fact_21 ?_
    obtain rfl := Option.some.inj h
    exact r_iret F dX9_fact_39
theorem tX9_known_119 {E : En} {p : Program} {l : Launch} {e : Env} {s : State} {m : MethodId} {args : Array Value} {below : List Frame} {meth : Method} {c : Code} {q : Int × Mem} {l0 l5 s0 s1 s2 : Int} {M : Mem} (F : Fx E p s m args meth c cX9_known 6 yX9_known.cls (some FieldType.boolean) yX9_known.name) (h : mX9_known_119 l0 l5 s0 s1 s2 M = some q) : G E p l e (rmOf 2 0 0) s m args below meth c 6 (QZ E below args s (rmOf 2 0 0) (some (vI q.1)) q.2) 0 0 M 119 [(0, vR l0), (5, vI l5)] [vI s2, vI s1, vR s0] := by
  unfold mX9_known_119 at h
  replace h := bind_so h
  obtain ⟨M119, h119, h⟩ := h
  refine r_iast F h119 dX9_known_119 ?_
  refine r_aload_n (j := 0) F rfl rfl dX9_known_120 ?_
  replace h := bind_so h
  obtain ⟨a121, h121, h⟩ := h
  refine r_getT (t := 2) rfl clok_9 F (by decide) h121 tw_1320 dX9_known_121 ?_
  refine r_iload (j := 1) F rfl dX9_known_124 ?_
  refine r_aload_n (j := 0) F rfl rfl dX9_known_126 ?_
  replace h := bind_so h
  obtain ⟨a127, h127, h⟩ := h
  refine r_getT (t := 2) rfl clok_9 F (by decide) h127 tw_1302 dX9_known_127 ?_
  refine r_iconst F rfl dX9_known_130 ?_
  replace h := bind_so h
  obtain ⟨a131, h131, h⟩ := h
  refine r_iald F h131 dX9_known_131 ?_
  replace h := bind_so h
  obtain ⟨M132, h132, h⟩ := h
  refine r_iast F h132 dX9_known_132 ?_
  refine r_iconst F rfl dX9_known_133 ?_
  obtain rfl := Option.some.inj h
  exact r_zret (Or.inr rfl) F dX9_known_134
theorem tX9_known_101 {E : En} {p : Program} {l : Launch} {e : Env} {s : State} {m : MethodId} {args : Array Value} {below : List Frame} {meth : Method} {c : Code} {q : Int × Mem} {l0 l4 l5 s0 s1 s2 s3 : Int} {M : Mem} (F : Fx E p s m args meth c cX9_known 6 yX9_known.cls (some FieldType.boolean) yX9_known.name) (h : mX9_known_101 l0 l4 l5 s0 s1 s2 s3 M = some q) : G E p l e (rmOf 2 0 0) s m args below meth c 6 (QZ E below args s (rmOf 2 0 0) (some (vI q.1)) q.2) 0 0 M 101 [(0, vR l0), (4, vI l4), (5, vI l5)] [vI s3, vI s2, vI s1, vR s0] := by
  unfold mX9_known_101 at h
  refine r_iadd F dX9_known_101 ?_
  replace h := bind_so h
  obtain ⟨M102, h102, h⟩ := h
  refine r_iast F h102 dX9_known_102 ?_
  refine r_aload_n (j := 0) F rfl rfl dX9_known_103 ?_
  replace h := bind_so h
  obtain ⟨a104, h104, h⟩ := h
  refine r_getT (t := 2) rfl clok_9 F (by decide) h104 tw_1319 dX9_known_104 ?_
  refine r_iload (j := 2) F rfl dX9_known_107 ?_
  refine r_iload (j := 1) F rfl dX9_known_109 ?_
  refine r_if_eq (tgt := 118) F (by decide) dX9_known_111 (fun hc => ?_) (fun hc => ?_)
  · replace h := ite_p h hc
    refine r_iconst F rfl dX9_known_118 ?_
    refine r_sub [0, 2] (ls' := [(0, vR l0), (5, vI l5)]) rfl ?_
    exact tX9_known_119 F h
  · replace h := ite_n h hc
    refine r_iconst F rfl dX9_known_114 ?_
    refine r_goto (tgt := 119) F (by decide) dX9_known_115 ?_
    refine r_sub [0, 2] (ls' := [(0, vR l0), (5, vI l5)]) rfl ?_
    exact tX9_known_119 F h
theorem tX9_known_54 {E : En} {p : Program} {l : Launch} {e : Env} {s : State} {m : MethodId} {args : Array Value} {below : List Frame} {meth : Method} {c : Code} {q : Int × Mem} {l0 l1 l2 l3 l4 : Int} {M : Mem} (F : Fx E p s m args meth c cX9_known 6 yX9_known.cls (some FieldType.boolean) yX9_known.name) (h : mX9_known_54 l0 l1 l2 l3 l4 M = some q) : G E p l e (rmOf 2 0 0) s m args below meth c 6 (QZ E below args s (rmOf 2 0 0) (some (vI q.1)) q.2) 0 0 M 54 [(0, vR l0), (1, vI l1), (2, vI l2), (3, vI l3), (4, vI l4)] [] := by
  unfold mX9_known_54 at h
  refine r_aload_n (j := 0) F rfl rfl dX9_known_54 ?_
  replace h := bind_so h
  obtain ⟨a55, h55, h⟩ := h
  refine r_getT (t := 2) rfl clok_9 F (by decide) h55 tw_1317 dX9_known_55 ?_
  refine r_iconst F rfl dX9_known_58 ?_
  replace h := bind_so h
  obtain ⟨a59, h59, h⟩ := h
  refine r_iald F h59 dX9_known_59 ?_
  refine r_istore (ls' := [(5, vI a59), (0, vR l0), (1, vI l1), (2, vI l2), (3, vI l3), (4, vI l4)]) F (by decide) rfl dX9_known_60 ?_
  refine r_aload_n (j := 1) F rfl rfl dX9_known_62 ?_
  replace h := bind_so h
  obtain ⟨a63, h63, h⟩ := h
  refine r_getT (t := 2) rfl clok_9 F (by decide) h63 tw_1317 dX9_known_63 ?_
  refine r_iconst F rfl dX9_known_66 ?_
  refine r_dup2 F rfl rfl dX9_known_67 ?_
  replace h := bind_so h
  obtain ⟨a68, h68, h⟩ := h
  refine r_iald F h68 dX9_known_68 ?_
  refine r_iconst F rfl dX9_known_69 ?_
  refine r_iadd F dX9_known_70 ?_
  replace h := bind_so h
  obtain ⟨M71, h71, h⟩ := h
  refine r_iast F h71 dX9_known_71 ?_
  refine r_aload_n (j := 1) F rfl rfl dX9_known_72 ?_
  replace h := bind_so h
  obtain ⟨a73, h73, h⟩ := h
  refine r_getT (t := 2) rfl clok_9 F (by decide) h73 tw_1318 dX9_known_73 ?_
  refine r_iload (j := 0) F rfl dX9_known_76 ?_
  refine r_bipush F rfl (by decide) dX9_known_78 ?_
  refine r_iload_n (j := 2) F rfl rfl dX9_known_80 ?_
  refine r_imul F dX9_known_81 ?_
  refine r_iconst F rfl dX9_known_82 ?_
  refine r_iload_n (j := 3) F rfl rfl dX9_known_83 ?_
  refine r_imul F dX9_known_84 ?_
  refine r_iadd F dX9_known_85 ?_
  refine r_aload_n (j := 1) F rfl rfl dX9_known_86 ?_
  replace h := bind_so h
  obtain ⟨a87, h87, h⟩ := h
  refine r_getT (t := 2) rfl clok_9 F (by decide) h87 tw_1307 dX9_known_87 ?_
  refine r_iload_n (j := 2) F rfl rfl dX9_known_90 ?_
  replace h := bind_so h
  obtain ⟨a91, h91, h⟩ := h
  refine r_iald F h91 dX9_known_91 ?_
  refine r_iconst F rfl dX9_known_92 ?_
  refine r_icmp_ne (tgt := 100) F (by decide) dX9_known_93 (fun hc => ?_) (fun hc => ?_)
  · replace h := ite_n h hc
    refine r_iload_n (j := 4) F rfl rfl dX9_known_100 ?_
    refine r_sub [1, 5, 0] (ls' := [(0, vR l0), (4, vI l4), (5, vI a59)]) rfl ?_
    exact tX9_known_101 F h
  · replace h := ite_p h hc
    refine r_iconst F rfl dX9_known_96 ?_
    refine r_goto (tgt := 101) F (by decide) dX9_known_97 ?_
    refine r_sub [1, 5, 0] (ls' := [(0, vR l0), (4, vI l4), (5, vI a59)]) rfl ?_
    exact tX9_known_101 F h
theorem tX9_known {l0 l1 l2 l3 l4 : Int} {M : Mem} {q : Int × Mem} (h : mX9_known l0 l1 l2 l3 l4 M = some q) : Ct 2 0 0 yX9_known cX9_known 6 (some FieldType.boolean) [vR l0, vI l1, vI l2, vI l3, vI l4] M (some (vI q.1)) q.2 := by
  unfold mX9_known at h
  refine Ct.of (by decide) (Nat.le_of_ble_eq_true rfl) ?_
  intro E p l e s m args below meth c F
  refine r_sub [0, 1, 2, 3, 4] (ls' := [(0, vR l0), (1, vI l1), (2, vI l2), (3, vI l3), (4, vI l4)]) rfl ?_
  refine r_aload_n (j := 0) F rfl rfl dX9_known_0 ?_
  refine r_iconst F rfl dX9_known_1 ?_
  replace h := bind_so h
  obtain ⟨M2, h2, h⟩ := h
  refine r_put clok_9 F (by decide) rfl (by decide) (by decide) h2 tw_1297 dX9_known_2 ?_
  refine r_aload_n (j := 0) F rfl rfl dX9_known_5 ?_
  replace h := bind_so h
  obtain ⟨a6, h6, h⟩ := h
  refine r_getT (t := 2) rfl clok_9 F (by decide) h6 tw_1317 dX9_known_6 ?_
  refine r_iconst F rfl dX9_known_9 ?_
  replace h := bind_so h
  obtain ⟨a10, h10, h⟩ := h
  refine r_iald F h10 dX9_known_10 ?_
  refine r_bipush F rfl (by decide) dX9_known_11 ?_
  refine r_icmp_eq (tgt := 52) F (by decide) dX9_known_13 (fun hc => ?_) (fun hc => ?_)
  · replace h := ite_p h hc
    refine r_iconst F rfl dX9_known_52 ?_
    obtain rfl := Option.some.inj h
    exact r_zret (Or.inl rfl) F dX9_known_53
  · replace h := ite_n h hc
    refine r_aload_n (j := 0) F rfl rfl dX9_known_16 ?_
    refine r_iload_n (j := 1) F rfl rfl dX9_known_17 ?_
    replace h := bind_so h
    obtain ⟨_, g18, h⟩ := h
    replace h := bind_so h
    obtain ⟨q18, h18, h⟩ := h
    refine r_callV (as := [vI l1]) (rv := (some (vI q18.1))) (kc := 0) (nc := 0) (tX9_isRelation h18) clok_9 F (gK_so g18) tw_1530 tw_1532 tw_60 tw_1533 tw_122 ⟨by decide, by decide, show (parseMethodDescriptor yX9_isRelation.desc).map (fun d => d.parameters.length) = some 1 by decide +kernel⟩ ⟨by decide, by decide⟩ (Nat.le_of_ble_eq_true rfl) dX9_known_18 ?_
    refine r_if_eq (tgt := 52) F (by decide) dX9_known_21 (fun hc => ?_) (fun hc => ?_)
    · replace h := ite_p h hc
      refine r_iconst F rfl dX9_known_52 ?_
      obtain rfl := Option.some.inj h
      exact r_zret (Or.inl rfl) F dX9_known_53
    · replace h := ite_n h hc
      refine r_iload_n (j := 2) F rfl rfl dX9_known_24 ?_
      refine r_iconst F rfl dX9_known_25 ?_
      refine r_iconst F rfl dX9_known_26 ?_
      replace h := bind_so h
      obtain ⟨q27, h27, h⟩ := h
      refine r_callS (as := [vI l2, vI 0, vI 2]) (rv := (some (vI q27.1))) (kc := 0) (nc := 0) (tX9_in h27) F tw_1491 tw_1492 tw_1493 tw_122 ⟨by decide, by decide, show (parseMethodDescriptor yX9_in.desc).map (fun d => d.parameters.length) = some 3 by decide +kernel⟩ ⟨by decide, by decide⟩ (Nat.le_of_ble_eq_true rfl) dX9_known_27 ?_
      refine r_if_eq (tgt := 52) F (by decide) dX9_known_30 (fun hc => ?_) (fun hc => ?_)
      · replace h := ite_p h hc
        refine r_iconst F rfl dX9_known_52 ?_
        obtain rfl := Option.some.inj h
        exact r_zret (Or.inl rfl) F dX9_known_53
      · replace h := ite_n h hc
        refine r_aload_n (j := 0) F rfl rfl dX9_known_33 ?_
        replace h := bind_so h
        obtain ⟨a34, h34, h⟩ := h
        refine r_getT (t := 2) rfl clok_9 F (by decide) h34 tw_1307 dX9_known_34 ?_
        refine r_iload_n (j := 1) F rfl rfl dX9_known_37 ?_
        replace h := bind_so h
        obtain ⟨a38, h38, h⟩ := h
        refine r_iald F h38 dX9_known_38 ?_
        refine r_iconst F rfl dX9_known_39 ?_
        refine r_icmp_eq (tgt := 54) F (by decide) dX9_known_40 (fun hc => ?_) (fun hc => ?_)
        · replace h := ite_p h hc
          refine r_sub [0, 1, 2, 3, 4] (ls' := [(0, vR l0), (1, vI l1), (2, vI l2), (3, vI l3), (4, vI l4)]) rfl ?_
          exact tX9_known_54 F h
        · replace h := ite_n h hc
          refine r_iload_n (j := 3) F rfl rfl dX9_known_43 ?_
          refine r_iconst F rfl dX9_known_44 ?_
          refine r_iconst F rfl dX9_known_45 ?_
          replace h := bind_so h
          obtain ⟨q46, h46, h⟩ := h
          refine r_callS (as := [vI l3, vI 0, vI 2]) (rv := (some (vI q46.1))) (kc := 0) (nc := 0) (tX9_in h46) F tw_1491 tw_1492 tw_1493 tw_122 ⟨by decide, by decide, show (parseMethodDescriptor yX9_in.desc).map (fun d => d.parameters.length) = some 3 by decide +kernel⟩ ⟨by decide, by decide⟩ (Nat.le_of_ble_eq_true rfl) dX9_known_46 ?_
          refine r_if_ne (tgt := 54) F (by decide) dX9_known_49 (fun hc => ?_) (fun hc => ?_)
          · replace h := ite_n h hc
            refine r_sub [0, 1, 2, 3, 4] (ls' := [(0, vR l0), (1, vI l1), (2, vI l2), (3, vI l3), (4, vI l4)]) rfl ?_
            exact tX9_known_54 F h
          · replace h := ite_p h hc
            refine r_iconst F rfl dX9_known_52 ?_
            obtain rfl := Option.some.inj h
            exact r_zret (Or.inl rfl) F dX9_known_53
theorem tbX9_keep_25 {E : En} {p : Program} {l : Launch} {e : Env} {s : State} {m : MethodId} {args : Array Value} {below : List Frame} {meth : Method} {c : Code} {q : Int × Mem} {k25 : Int → Int → Int → Mem → Option (Int × Mem)} (hk25 : ∀ {l0 l1 l2 : Int} {M : Mem}, k25 l0 l1 l2 M = some q → G E p l e (rmOf 1 0 0) s m args below meth c 3 (QZ E below args s (rmOf 1 0 0) (some (vI q.1)) q.2) 0 0 M 25 [(0, vR l0), (1, vI l1), (2, vI l2)] []) {l0 l1 l2 : Int} {M : Mem} (F : Fx E p s m args meth c cX9_keep 3 yX9_keep.cls (some FieldType.boolean) yX9_keep.name) (h : bX9_keep_25 k25 l0 l1 l2 M = some q) : G E p l e (rmOf 1 0 0) s m args below meth c 3 (QZ E below args s (rmOf 1 0 0) (some (vI q.1)) q.2) 0 0 M 25 [(0, vR l0), (1, vI l1), (2, vI l2)] [] := by
  unfold bX9_keep_25 at h
  refine r_iload_n (j := 2) F rfl rfl dX9_keep_25 ?_
  refine r_bipush F rfl (by decide) dX9_keep_26 ?_
  refine r_icmp_ge (tgt := 54) F (by decide) dX9_keep_28 (fun hc => ?_) (fun hc => ?_)
  · replace h := ite_p h hc
    refine r_iconst F rfl dX9_keep_54 ?_
    obtain rfl := Option.some.inj h
    exact r_zret (Or.inr rfl) F dX9_keep_55
  · replace h := ite_n h hc
    refine r_aload_n (j := 0) F rfl rfl dX9_keep_31 ?_
    replace h := bind_so h
    obtain ⟨a32, h32, h⟩ := h
    refine r_getT (t := 2) rfl clok_9 F (by decide) h32 tw_1321 dX9_keep_32 ?_
    refine r_bipush F rfl (by decide) dX9_keep_35 ?_
    refine r_iload_n (j := 1) F rfl rfl dX9_keep_37 ?_
    refine r_imul F dX9_keep_38 ?_
    refine r_iload_n (j := 2) F rfl rfl dX9_keep_39 ?_
    refine r_iadd F dX9_keep_40 ?_
    refine r_aload_n (j := 0) F rfl rfl dX9_keep_41 ?_
    replace h := bind_so h
    obtain ⟨a42, h42, h⟩ := h
    refine r_getT (t := 2) rfl clok_9 F (by decide) h42 tw_1308 dX9_keep_42 ?_
    refine r_iload_n (j := 2) F rfl rfl dX9_keep_45 ?_
    replace h := bind_so h
    obtain ⟨a46, h46, h⟩ := h
    refine r_zald F h46 dX9_keep_46 ?_
    replace h := bind_so h
    obtain ⟨M47, h47, h⟩ := h
    refine r_zast F h47 dX9_keep_47 ?_
    refine r_iinc (j := 2) (ls' := [(2, vI (wI (l2 + 1))), (0, vR l0), (1, vI l1)]) F rfl (by decide) rfl dX9_keep_48 ?_
    refine r_goto (tgt := 25) F (by decide) dX9_keep_51 ?_
    refine r_sub [1, 2, 0] (ls' := [(0, vR l0), (1, vI l1), (2, vI (wI (l2 + 1)))]) rfl ?_
    exact hk25 h
theorem tX9_keep_25 {E : En} {p : Program} {l : Launch} {e : Env} {s : State} {m : MethodId} {args : Array Value} {below : List Frame} {meth : Method} {c : Code} {q : Int × Mem} (F : Fx E p s m args meth c cX9_keep 3 yX9_keep.cls (some FieldType.boolean) yX9_keep.name) : ∀ {fu : Nat} {l0 l1 l2 : Int} {M : Mem}, mX9_keep_25 fu l0 l1 l2 M = some q → G E p l e (rmOf 1 0 0) s m args below meth c 3 (QZ E below args s (rmOf 1 0 0) (some (vI q.1)) q.2) 0 0 M 25 [(0, vR l0), (1, vI l1), (2, vI l2)] [] := by
  intro fu
  induction fu with
  | zero => intro l0 l1 l2 M h; exact nomatch (show (none : Option (Int × Mem)) = some q from h)
  | succ fu ih => intro l0 l1 l2 M h; exact tbX9_keep_25  (fun h => ih h) F h
theorem tX9_keep {l0 l1 : Int} {M : Mem} {q : Int × Mem} (h : mX9_keep l0 l1 M = some q) : Ct 1 0 0 yX9_keep cX9_keep 3 (some FieldType.boolean) [vR l0, vI l1] M (some (vI q.1)) q.2 := by
  unfold mX9_keep at h
  refine Ct.of (by decide) (Nat.le_of_ble_eq_true rfl) ?_
  intro E p l e s m args below meth c F
  refine r_sub [0, 1] (ls' := [(0, vR l0), (1, vI l1)]) rfl ?_
  refine r_aload_n (j := 0) F rfl rfl dX9_keep_0 ?_
  refine r_iconst F rfl dX9_keep_1 ?_
  replace h := bind_so h
  obtain ⟨M2, h2, h⟩ := h
  refine r_put clok_9 F (by decide) rfl (by decide) (by decide) h2 tw_1297 dX9_keep_2 ?_
  refine r_iload_n (j := 1) F rfl rfl dX9_keep_5 ?_
  refine r_iconst F rfl dX9_keep_6 ?_
  refine r_iconst F rfl dX9_keep_7 ?_
  replace h := bind_so h
  obtain ⟨q8, h8, h⟩ := h
  refine r_callS (as := [vI l1, vI 0, vI 3]) (rv := (some (vI q8.1))) (kc := 0) (nc := 0) (tX9_in h8) F tw_1491 tw_1492 tw_1493 tw_122 ⟨by decide, by decide, show (parseMethodDescriptor yX9_in.desc).map (fun d => d.parameters.length) = some 3 by decide +kernel⟩ ⟨by decide, by decide⟩ (Nat.le_of_ble_eq_true rfl) dX9_keep_8 ?_
  refine r_if_ne (tgt := 16) F (by decide) dX9_keep_11 (fun hc => ?_) (fun hc => ?_)
  · replace h := ite_n h hc
    refine r_aload_n (j := 0) F rfl rfl dX9_keep_16 ?_
    replace h := bind_so h
    obtain ⟨a17, h17, h⟩ := h
    refine r_getT (t := 2) rfl clok_9 F (by decide) h17 tw_1322 dX9_keep_17 ?_
    refine r_iload_n (j := 1) F rfl rfl dX9_keep_20 ?_
    refine r_iconst F rfl dX9_keep_21 ?_
    replace h := bind_so h
    obtain ⟨M22, h22, h⟩ := h
    refine r_zast F h22 dX9_keep_22 ?_
    refine r_iconst F rfl dX9_keep_23 ?_
    refine r_istore_n (ls' := [(2, vI 0), (0, vR l0), (1, vI l1)]) F rfl (by decide) rfl dX9_keep_24 ?_
    refine r_sub [1, 2, 0] (ls' := [(0, vR l0), (1, vI l1), (2, vI 0)]) rfl ?_
    exact tX9_keep_25 F h
  · replace h := ite_p h hc
    refine r_iconst F rfl dX9_keep_14 ?_
    obtain rfl := Option.some.inj h
    exact r_zret (Or.inl rfl) F dX9_keep_15
theorem tX9_canTell {l0 : Int} {M : Mem} {q : Int × Mem} (h : mX9_canTell l0 M = some q) : Ct 3 0 0 yX9_canTell cX9_canTell 1 (some FieldType.boolean) [vR l0] M (some (vI q.1)) q.2 := by
  unfold mX9_canTell at h
  refine Ct.of (by decide) (Nat.le_of_ble_eq_true rfl) ?_
  intro E p l e s m args below meth c F
  refine r_sub [0] (ls' := [(0, vR l0)]) rfl ?_
  refine r_aload_n (j := 0) F rfl rfl dX9_canTell_0 ?_
  replace h := bind_so h
  obtain ⟨_, g1, h⟩ := h
  replace h := bind_so h
  obtain ⟨q1, h1, h⟩ := h
  refine r_callV (as := []) (rv := none) (kc := 0) (nc := 0) (tX9_bringSizes h1) clok_9 F (gK_so g1) tw_1506 tw_1508 tw_55 tw_1509 tw_122 ⟨by decide, by decide, show (parseMethodDescriptor yX9_bringSizes.desc).map (fun d => d.parameters.length) = some 0 by decide +kernel⟩ ⟨by decide, by decide⟩ (Nat.le_of_ble_eq_true rfl) dX9_canTell_1 ?_
  refine r_aload_n (j := 0) F rfl rfl dX9_canTell_4 ?_
  replace h := bind_so h
  obtain ⟨_, g5, h⟩ := h
  replace h := bind_so h
  obtain ⟨q5, h5, h⟩ := h
  refine r_callV (as := []) (rv := (some (vI q5.1))) (kc := 0) (nc := 0) (tX9_manyFacts h5) clok_9 F (gK_so g5) tw_1518 tw_1520 tw_58 tw_1521 tw_122 ⟨by decide, by decide, show (parseMethodDescriptor yX9_manyFacts.desc).map (fun d => d.parameters.length) = some 0 by decide +kernel⟩ ⟨by decide, by decide⟩ (Nat.le_of_ble_eq_true rfl) dX9_canTell_5 ?_
  refine r_bipush F rfl (by decide) dX9_canTell_8 ?_
  refine r_icmp_gt (tgt := 17) F (by decide) dX9_canTell_10 (fun hc => ?_) (fun hc => ?_)
  · replace h := ite_p h hc
    refine r_iconst F rfl dX9_canTell_17 ?_
    obtain rfl := Option.some.inj h
    exact r_zret (Or.inl rfl) F dX9_canTell_18
  · replace h := ite_n h hc
    refine r_iconst F rfl dX9_canTell_13 ?_
    refine r_goto (tgt := 18) F (by decide) dX9_canTell_14 ?_
    obtain rfl := Option.some.inj h
    exact r_zret (Or.inr rfl) F dX9_canTell_18
theorem tX9_numberOfWorld_31 {E : En} {p : Program} {l : Launch} {e : Env} {s : State} {m : MethodId} {args : Array Value} {below : List Frame} {meth : Method} {c : Code} {q : Int × Mem} {k9 : Int → Int → Int → Int → Mem → Option (Int × Mem)} (hk9 : ∀ {l0 l1 l2 l3 : Int} {M : Mem}, k9 l0 l1 l2 l3 M = some q → G E p l e (rmOf 1 0 0) s m args below meth c 4 (QZ E below args s (rmOf 1 0 0) (some (vI q.1)) q.2) 0 0 M 9 [(0, vR l0), (1, vI l1), (2, vI l2), (3, vI l3)] []) {l0 l1 l3 s0 s1 : Int} {M : Mem} (F : Fx E p s m args meth c cX9_numberOfWorld 4 yX9_numberOfWorld.cls (some FieldType.int) yX9_numberOfWorld.name) (h : mX9_numberOfWorld_31 k9 l0 l1 l3 s0 s1 M = some q) : G E p l e (rmOf 1 0 0) s m args below meth c 4 (QZ E below args s (rmOf 1 0 0) (some (vI q.1)) q.2) 0 0 M 31 [(0, vR l0), (1, vI l1), (3, vI l3)] [vI s1, vI s0] := by
  unfold mX9_numberOfWorld_31 at h
  refine r_iadd F dX9_numberOfWorld_31 ?_
  refine r_istore_n (ls' := [(2, vI (wI (s0 + s1))), (0, vR l0), (1, vI l1), (3, vI l3)]) F rfl (by decide) rfl dX9_numberOfWorld_32 ?_
  refine r_iinc (j := 3) (ls' := [(3, vI (wI (l3 + 1))), (2, vI (wI (s0 + s1))), (0, vR l0), (1, vI l1)]) F rfl (by decide) rfl dX9_numberOfWorld_33 ?_
  refine r_goto (tgt := 9) F (by decide) dX9_numberOfWorld_36 ?_
  refine r_sub [2, 3, 1, 0] (ls' := [(0, vR l0), (1, vI l1), (2, vI (wI (s0 + s1))), (3, vI (wI (l3 + 1)))]) rfl ?_
  exact hk9 h
theorem tbX9_numberOfWorld_9 {E : En} {p : Program} {l : Launch} {e : Env} {s : State} {m : MethodId} {args : Array Value} {below : List Frame} {meth : Method} {c : Code} {q : Int × Mem} {k9 : Int → Int → Int → Int → Mem → Option (Int × Mem)} (hk9 : ∀ {l0 l1 l2 l3 : Int} {M : Mem}, k9 l0 l1 l2 l3 M = some q → G E p l e (rmOf 1 0 0) s m args below meth c 4 (QZ E below args s (rmOf 1 0 0) (some (vI q.1)) q.2) 0 0 M 9 [(0, vR l0), (1, vI l1), (2, vI l2), (3, vI l3)] []) {l0 l1 l2 l3 : Int} {M : Mem} (F : Fx E p s m args meth c cX9_numberOfWorld 4 yX9_numberOfWorld.cls (some FieldType.int) yX9_numberOfWorld.name) (h : bX9_numberOfWorld_9 k9 l0 l1 l2 l3 M = some q) : G E p l e (rmOf 1 0 0) s m args below meth c 4 (QZ E below args s (rmOf 1 0 0) (some (vI q.1)) q.2) 0 0 M 9 [(0, vR l0), (1, vI l1), (2, vI l2), (3, vI l3)] [] := by
  unfold bX9_numberOfWorld_9 at h
  refine r_iload_n (j := 3) F rfl rfl dX9_numberOfWorld_9 ?_
  refine r_iload_n (j := 1) F rfl rfl dX9_numberOfWorld_10 ?_
  refine r_icmp_ge (tgt := 39) F (by decide) dX9_numberOfWorld_11 (fun hc => ?_) (fun hc => ?_)
  · replace h := ite_p h hc
    refine r_iload_n (j := 2) F rfl rfl dX9_numberOfWorld_39 ?_
    obtain rfl := Option.some.inj h
    exact r_iret F dX9_numberOfWorld_40
  · replace h := ite_n h hc
    refine r_iconst F rfl dX9_numberOfWorld_14 ?_
    refine r_iload_n (j := 2) F rfl rfl dX9_numberOfWorld_15 ?_
    refine r_imul F dX9_numberOfWorld_16 ?_
    refine r_aload_n (j := 0) F rfl rfl dX9_numberOfWorld_17 ?_
    replace h := bind_so h
    obtain ⟨a18, h18, h⟩ := h
    refine r_getT (t := 2) rfl clok_9 F (by decide) h18 tw_1308 dX9_numberOfWorld_18 ?_
    refine r_iload_n (j := 3) F rfl rfl dX9_numberOfWorld_21 ?_
    replace h := bind_so h
    obtain ⟨a22, h22, h⟩ := h
    refine r_zald F h22 dX9_numberOfWorld_22 ?_
    refine r_if_eq (tgt := 30) F (by decide) dX9_numberOfWorld_23 (fun hc => ?_) (fun hc => ?_)
    · replace h := ite_p h hc
      refine r_iconst F rfl dX9_numberOfWorld_30 ?_
      refine r_sub [0, 1, 3] (ls' := [(0, vR l0), (1, vI l1), (3, vI l3)]) rfl ?_
      exact tX9_numberOfWorld_31 (fun h => hk9 h) F h
    · replace h := ite_n h hc
      refine r_iconst F rfl dX9_numberOfWorld_26 ?_
      refine r_goto (tgt := 31) F (by decide) dX9_numberOfWorld_27 ?_
      refine r_sub [0, 1, 3] (ls' := [(0, vR l0), (1, vI l1), (3, vI l3)]) rfl ?_
      exact tX9_numberOfWorld_31 (fun h => hk9 h) F h
theorem tX9_numberOfWorld_9 {E : En} {p : Program} {l : Launch} {e : Env} {s : State} {m : MethodId} {args : Array Value} {below : List Frame} {meth : Method} {c : Code} {q : Int × Mem} (F : Fx E p s m args meth c cX9_numberOfWorld 4 yX9_numberOfWorld.cls (some FieldType.int) yX9_numberOfWorld.name) : ∀ {fu : Nat} {l0 l1 l2 l3 : Int} {M : Mem}, mX9_numberOfWorld_9 fu l0 l1 l2 l3 M = some q → G E p l e (rmOf 1 0 0) s m args below meth c 4 (QZ E below args s (rmOf 1 0 0) (some (vI q.1)) q.2) 0 0 M 9 [(0, vR l0), (1, vI l1), (2, vI l2), (3, vI l3)] [] := by
  intro fu
  induction fu with
  | zero => intro l0 l1 l2 l3 M h; exact nomatch (show (none : Option (Int × Mem)) = some q from h)
  | succ fu ih => intro l0 l1 l2 l3 M h; exact tbX9_numberOfWorld_9  (fun h => ih h) F h
theorem tX9_numberOfWorld {l0 : Int} {M : Mem} {q : Int × Mem} (h : mX9_numberOfWorld l0 M = some q) : Ct 1 0 0 yX9_numberOfWorld cX9_numberOfWorld 4 (some FieldType.int) [vR l0] M (some (vI q.1)) q.2 := by
  unfold mX9_numberOfWorld at h
  refine Ct.of (by decide) (Nat.le_of_ble_eq_true rfl) ?_
  intro E p l e s m args below meth c F
  refine r_sub [0] (ls' := [(0, vR l0)]) rfl ?_
  refine r_aload_n (j := 0) F rfl rfl dX9_numberOfWorld_0 ?_
  replace h := bind_so h
  obtain ⟨_, g1, h⟩ := h
  replace h := bind_so h
  obtain ⟨q1, h1, h⟩ := h
  refine r_callV (as := []) (rv := (some (vI q1.1))) (kc := 0) (nc := 0) (tX9_manyFacts h1) clok_9 F (gK_so g1) tw_1518 tw_1520 tw_58 tw_1521 tw_122 ⟨by decide, by decide, show (parseMethodDescriptor yX9_manyFacts.desc).map (fun d => d.parameters.length) = some 0 by decide +kernel⟩ ⟨by decide, by decide⟩ (Nat.le_of_ble_eq_true rfl) dX9_numberOfWorld_1 ?_
  refine r_istore_n (ls' := [(1, vI q1.1), (0, vR l0)]) F rfl (by decide) rfl dX9_numberOfWorld_4 ?_
  refine r_iconst F rfl dX9_numberOfWorld_5 ?_
  refine r_istore_n (ls' := [(2, vI 0), (1, vI q1.1), (0, vR l0)]) F rfl (by decide) rfl dX9_numberOfWorld_6 ?_
  refine r_iconst F rfl dX9_numberOfWorld_7 ?_
  refine r_istore_n (ls' := [(3, vI 0), (2, vI 0), (1, vI q1.1), (0, vR l0)]) F rfl (by decide) rfl dX9_numberOfWorld_8 ?_
  refine r_sub [3, 2, 1, 0] (ls' := [(0, vR l0), (1, vI q1.1), (2, vI 0), (3, vI 0)]) rfl ?_
  exact tX9_numberOfWorld_9 F h
theorem tX9_inOrder_32 {E : En} {p : Program} {l : Launch} {e : Env} {s : State} {m : MethodId} {args : Array Value} {below : List Frame} {meth : Method} {c : Code} {q : Int × Mem} {l1 l2 s0 : Int} {M : Mem} (F : Fx E p s m args meth c cX9_inOrder 4 yX9_inOrder.cls (some FieldType.int) yX9_inOrder.name) (h : mX9_inOrder_32 l1 l2 s0 M = some q) : G E p l e (rmOf 0 0 0) s m args below meth c 4 (QZ E below args s (rmOf 0 0 0) (some (vI q.1)) q.2) 0 0 M 32 [(1, vI l1), (2, vI l2)] [vI s0] := by
  unfold mX9_inOrder_32 at h
  refine r_istore_n (ls' := [(3, vI s0), (1, vI l1), (2, vI l2)]) F rfl (by decide) rfl dX9_inOrder_32 ?_
  refine r_iload_n (j := 1) F rfl rfl dX9_inOrder_33 ?_
  refine r_if_ne (tgt := 41) F (by decide) dX9_inOrder_34 (fun hc => ?_) (fun hc => ?_)
  · replace h := ite_n h hc
    refine r_iload_n (j := 1) F rfl rfl dX9_inOrder_41 ?_
    refine r_iconst F rfl dX9_inOrder_42 ?_
    refine r_icmp_ne (tgt := 50) F (by decide) dX9_inOrder_43 (fun hc => ?_) (fun hc => ?_)
    · replace h := ite_n h hc
      refine r_iconst F rfl dX9_inOrder_50 ?_
      refine r_iload_n (j := 2) F rfl rfl dX9_inOrder_51 ?_
      refine r_isub F dX9_inOrder_52 ?_
      refine r_iload_n (j := 0) F rfl rfl dX9_inOrder_53 ?_
      refine r_isub F dX9_inOrder_54 ?_
      obtain rfl := Option.some.inj h
      exact r_iret F dX9_inOrder_55
    · replace h := ite_p h hc
      refine r_iload_n (j := 0) F rfl rfl dX9_inOrder_46 ?_
      refine r_goto (tgt := 55) F (by decide) dX9_inOrder_47 ?_
      obtain rfl := Option.some.inj h
      exact r_iret F dX9_inOrder_55
  · replace h := ite_p h hc
    refine r_iload_n (j := 2) F rfl rfl dX9_inOrder_37 ?_
    refine r_goto (tgt := 55) F (by decide) dX9_inOrder_38 ?_
    obtain rfl := Option.some.inj h
    exact r_iret F dX9_inOrder_55
theorem tX9_inOrder {l0 l1 : Int} {M : Mem} {q : Int × Mem} (h : mX9_inOrder l0 l1 M = some q) : Ct 0 0 0 yX9_inOrder cX9_inOrder 4 (some FieldType.int) [vI l0, vI l1] M (some (vI q.1)) q.2 := by
  unfold mX9_inOrder at h
  refine Ct.of (by decide) (Nat.le_of_ble_eq_true rfl) ?_
  intro E p l e s m args below meth c F
  refine r_sub [0, 1] (ls' := [(0, vI l0), (1, vI l1)]) rfl ?_
  refine r_iload_n (j := 0) F rfl rfl dX9_inOrder_0 ?_
  refine r_iconst F rfl dX9_inOrder_1 ?_
  replace h := bind_so h
  obtain ⟨a2, h2, h⟩ := h
  refine r_idivq F h2 dX9_inOrder_2 ?_
  refine r_istore_n (ls' := [(2, vI a2), (0, vI l0), (1, vI l1)]) F rfl (by decide) rfl dX9_inOrder_3 ?_
  refine r_iload_n (j := 1) F rfl rfl dX9_inOrder_4 ?_
  refine r_iconst F rfl dX9_inOrder_5 ?_
  replace h := bind_so h
  obtain ⟨a6, h6, h⟩ := h
  refine r_iremq F h6 dX9_inOrder_6 ?_
  refine r_if_ne (tgt := 22) F (by decide) dX9_inOrder_7 (fun hc => ?_) (fun hc => ?_)
  · replace h := ite_n h hc
    refine r_iload_n (j := 0) F rfl rfl dX9_inOrder_22 ?_
    refine r_iconst F rfl dX9_inOrder_23 ?_
    refine r_icmp_ne (tgt := 31) F (by decide) dX9_inOrder_24 (fun hc => ?_) (fun hc => ?_)
    · replace h := ite_n h hc
      refine r_iconst F rfl dX9_inOrder_31 ?_
      refine r_sub [2, 0] (ls' := [(1, vI l1), (2, vI a2)]) rfl ?_
      exact tX9_inOrder_32 F h
    · replace h := ite_p h hc
      refine r_iconst F rfl dX9_inOrder_27 ?_
      refine r_goto (tgt := 32) F (by decide) dX9_inOrder_28 ?_
      refine r_sub [2, 0] (ls' := [(1, vI l1), (2, vI a2)]) rfl ?_
      exact tX9_inOrder_32 F h
  · replace h := ite_p h hc
    refine r_iload_n (j := 0) F rfl rfl dX9_inOrder_10 ?_
    refine r_if_ne (tgt := 18) F (by decide) dX9_inOrder_11 (fun hc => ?_) (fun hc => ?_)
    · replace h := ite_n h hc
      refine r_iconst F rfl dX9_inOrder_18 ?_
      refine r_goto (tgt := 32) F (by decide) dX9_inOrder_19 ?_
      refine r_sub [2, 0] (ls' := [(1, vI l1), (2, vI a2)]) rfl ?_
      exact tX9_inOrder_32 F h
    · replace h := ite_p h hc
      refine r_iconst F rfl dX9_inOrder_14 ?_
      refine r_goto (tgt := 32) F (by decide) dX9_inOrder_15 ?_
      refine r_sub [2, 0] (ls' := [(1, vI l1), (2, vI a2)]) rfl ?_
      exact tX9_inOrder_32 F h
theorem tX9_isOrder_35 {E : En} {p : Program} {l : Launch} {e : Env} {s : State} {m : MethodId} {args : Array Value} {below : List Frame} {meth : Method} {c : Code} {q : Int × Mem} {k2 : Int → Int → Int → Mem → Option (Int × Mem)} (hk2 : ∀ {l0 l1 l2 : Int} {M : Mem}, k2 l0 l1 l2 M = some q → G E p l e (rmOf 1 0 0) s m args below meth c 3 (QZ E below args s (rmOf 1 0 0) (some (vI q.1)) q.2) 0 0 M 2 [(0, vI l0), (1, vI l1), (2, vI l2)] []) {l0 l1 l2 : Int} {M : Mem} (F : Fx E p s m args meth c cX9_isOrder 3 yX9_isOrder.cls (some FieldType.boolean) yX9_isOrder.name) (h : mX9_isOrder_35 k2 l0 l1 l2 M = some q) : G E p l e (rmOf 1 0 0) s m args below meth c 3 (QZ E below args s (rmOf 1 0 0) (some (vI q.1)) q.2) 0 0 M 35 [(0, vI l0), (1, vI l1), (2, vI l2)] [] := by
  unfold mX9_isOrder_35 at h
  refine r_iinc (j := 2) (ls' := [(2, vI (wI (l2 + 1))), (0, vI l0), (1, vI l1)]) F rfl (by decide) rfl dX9_isOrder_35 ?_
  refine r_goto (tgt := 2) F (by decide) dX9_isOrder_38 ?_
  refine r_sub [1, 2, 0] (ls' := [(0, vI l0), (1, vI l1), (2, vI (wI (l2 + 1)))]) rfl ?_
  exact hk2 h
theorem tbX9_isOrder_2 {E : En} {p : Program} {l : Launch} {e : Env} {s : State} {m : MethodId} {args : Array Value} {below : List Frame} {meth : Method} {c : Code} {q : Int × Mem} {k2 : Int → Int → Int → Mem → Option (Int × Mem)} (hk2 : ∀ {l0 l1 l2 : Int} {M : Mem}, k2 l0 l1 l2 M = some q → G E p l e (rmOf 1 0 0) s m args below meth c 3 (QZ E below args s (rmOf 1 0 0) (some (vI q.1)) q.2) 0 0 M 2 [(0, vI l0), (1, vI l1), (2, vI l2)] []) {l0 l1 l2 : Int} {M : Mem} (F : Fx E p s m args meth c cX9_isOrder 3 yX9_isOrder.cls (some FieldType.boolean) yX9_isOrder.name) (h : bX9_isOrder_2 k2 l0 l1 l2 M = some q) : G E p l e (rmOf 1 0 0) s m args below meth c 3 (QZ E below args s (rmOf 1 0 0) (some (vI q.1)) q.2) 0 0 M 2 [(0, vI l0), (1, vI l1), (2, vI l2)] [] := by
  unfold bX9_isOrder_2 at h
  refine r_iload_n (j := 2) F rfl rfl dX9_isOrder_2 ?_
  refine r_iconst F rfl dX9_isOrder_3 ?_
  refine r_icmp_ge (tgt := 41) F (by decide) dX9_isOrder_4 (fun hc => ?_) (fun hc => ?_)
  · replace h := ite_p h hc
    refine r_iconst F rfl dX9_isOrder_41 ?_
    obtain rfl := Option.some.inj h
    exact r_zret (Or.inr rfl) F dX9_isOrder_42
  · replace h := ite_n h hc
    refine r_iload_n (j := 2) F rfl rfl dX9_isOrder_7 ?_
    refine r_iload_n (j := 1) F rfl rfl dX9_isOrder_8 ?_
    refine r_icmp_ge (tgt := 24) F (by decide) dX9_isOrder_9 (fun hc => ?_) (fun hc => ?_)
    · replace h := ite_p h hc
      refine r_iload_n (j := 0) F rfl rfl dX9_isOrder_24 ?_
      refine r_iload_n (j := 2) F rfl rfl dX9_isOrder_25 ?_
      replace h := bind_so h
      obtain ⟨q26, h26, h⟩ := h
      refine r_callS (as := [vI l0, vI l2]) (rv := (some (vI q26.1))) (kc := 0) (nc := 0) (tX9_inOrder h26) F tw_1569 tw_1570 tw_1571 tw_122 ⟨by decide, by decide, show (parseMethodDescriptor yX9_inOrder.desc).map (fun d => d.parameters.length) = some 2 by decide +kernel⟩ ⟨by decide, by decide⟩ (Nat.le_of_ble_eq_true rfl) dX9_isOrder_26 ?_
      refine r_iload_n (j := 2) F rfl rfl dX9_isOrder_29 ?_
      refine r_icmp_eq (tgt := 35) F (by decide) dX9_isOrder_30 (fun hc => ?_) (fun hc => ?_)
      · replace h := ite_p h hc
        refine r_sub [0, 1, 2] (ls' := [(0, vI l0), (1, vI l1), (2, vI l2)]) rfl ?_
        exact tX9_isOrder_35 (fun h => hk2 h) F h
      · replace h := ite_n h hc
        refine r_iconst F rfl dX9_isOrder_33 ?_
        obtain rfl := Option.some.inj h
        exact r_zret (Or.inl rfl) F dX9_isOrder_34
    · replace h := ite_n h hc
      refine r_iload_n (j := 0) F rfl rfl dX9_isOrder_12 ?_
      refine r_iload_n (j := 2) F rfl rfl dX9_isOrder_13 ?_
      replace h := bind_so h
      obtain ⟨q14, h14, h⟩ := h
      refine r_callS (as := [vI l0, vI l2]) (rv := (some (vI q14.1))) (kc := 0) (nc := 0) (tX9_inOrder h14) F tw_1569 tw_1570 tw_1571 tw_122 ⟨by decide, by decide, show (parseMethodDescriptor yX9_inOrder.desc).map (fun d => d.parameters.length) = some 2 by decide +kernel⟩ ⟨by decide, by decide⟩ (Nat.le_of_ble_eq_true rfl) dX9_isOrder_14 ?_
      refine r_iload_n (j := 1) F rfl rfl dX9_isOrder_17 ?_
      refine r_icmp_lt (tgt := 35) F (by decide) dX9_isOrder_18 (fun hc => ?_) (fun hc => ?_)
      · replace h := ite_p h hc
        refine r_sub [0, 1, 2] (ls' := [(0, vI l0), (1, vI l1), (2, vI l2)]) rfl ?_
        exact tX9_isOrder_35 (fun h => hk2 h) F h
      · replace h := ite_n h hc
        refine r_goto (tgt := 33) F (by decide) dX9_isOrder_21 ?_
        refine r_iconst F rfl dX9_isOrder_33 ?_
        obtain rfl := Option.some.inj h
        exact r_zret (Or.inl rfl) F dX9_isOrder_34
theorem tX9_isOrder_2 {E : En} {p : Program} {l : Launch} {e : Env} {s : State} {m : MethodId} {args : Array Value} {below : List Frame} {meth : Method} {c : Code} {q : Int × Mem} (F : Fx E p s m args meth c cX9_isOrder 3 yX9_isOrder.cls (some FieldType.boolean) yX9_isOrder.name) : ∀ {fu : Nat} {l0 l1 l2 : Int} {M : Mem}, mX9_isOrder_2 fu l0 l1 l2 M = some q → G E p l e (rmOf 1 0 0) s m args below meth c 3 (QZ E below args s (rmOf 1 0 0) (some (vI q.1)) q.2) 0 0 M 2 [(0, vI l0), (1, vI l1), (2, vI l2)] [] := by
  intro fu
  induction fu with
  | zero => intro l0 l1 l2 M h; exact nomatch (show (none : Option (Int × Mem)) = some q from h)
  | succ fu ih => intro l0 l1 l2 M h; exact tbX9_isOrder_2  (fun h => ih h) F h
theorem tX9_isOrder {l0 l1 : Int} {M : Mem} {q : Int × Mem} (h : mX9_isOrder l0 l1 M = some q) : Ct 1 0 0 yX9_isOrder cX9_isOrder 3 (some FieldType.boolean) [vI l0, vI l1] M (some (vI q.1)) q.2 := by
  unfold mX9_isOrder at h
  refine Ct.of (by decide) (Nat.le_of_ble_eq_true rfl) ?_
  intro E p l e s m args below meth c F
  refine r_sub [0, 1] (ls' := [(0, vI l0), (1, vI l1)]) rfl ?_
  refine r_iconst F rfl dX9_isOrder_0 ?_
  refine r_istore_n (ls' := [(2, vI 0), (0, vI l0), (1, vI l1)]) F rfl (by decide) rfl dX9_isOrder_1 ?_
  refine r_sub [1, 2, 0] (ls' := [(0, vI l0), (1, vI l1), (2, vI 0)]) rfl ?_
  exact tX9_isOrder_2 F h
theorem tX9_takeOrders {l0 l1 : Int} {M : Mem} {q : Int × Mem} (h : mX9_takeOrders l0 l1 M = some q) : Ct 2 0 0 yX9_takeOrders cX9_takeOrders 2 (some FieldType.boolean) [vR l0, vI l1] M (some (vI q.1)) q.2 := by
  unfold mX9_takeOrders at h
  refine Ct.of (by decide) (Nat.le_of_ble_eq_true rfl) ?_
  intro E p l e s m args below meth c F
  refine r_sub [0, 1] (ls' := [(0, vR l0), (1, vI l1)]) rfl ?_
  refine r_aload_n (j := 0) F rfl rfl dX9_takeOrders_0 ?_
  replace h := bind_so h
  obtain ⟨a1, h1, h⟩ := h
  refine r_getT (t := 2) rfl clok_9 F (by decide) h1 tw_1348 dX9_takeOrders_1 ?_
  refine r_iconst F rfl dX9_takeOrders_4 ?_
  refine r_iload_n (j := 1) F rfl rfl dX9_takeOrders_5 ?_
  refine r_bipush F rfl (by decide) dX9_takeOrders_6 ?_
  replace h := bind_so h
  obtain ⟨a8, h8, h⟩ := h
  refine r_idivq F h8 dX9_takeOrders_8 ?_
  replace h := bind_so h
  obtain ⟨M9, h9, h⟩ := h
  refine r_iast F h9 dX9_takeOrders_9 ?_
  refine r_aload_n (j := 0) F rfl rfl dX9_takeOrders_10 ?_
  replace h := bind_so h
  obtain ⟨a11, h11, h⟩ := h
  refine r_getT (t := 2) rfl clok_9 F (by decide) h11 tw_1348 dX9_takeOrders_11 ?_
  refine r_iconst F rfl dX9_takeOrders_14 ?_
  refine r_iload_n (j := 1) F rfl rfl dX9_takeOrders_15 ?_
  refine r_bipush F rfl (by decide) dX9_takeOrders_16 ?_
  replace h := bind_so h
  obtain ⟨a18, h18, h⟩ := h
  refine r_idivq F h18 dX9_takeOrders_18 ?_
  refine r_bipush F rfl (by decide) dX9_takeOrders_19 ?_
  replace h := bind_so h
  obtain ⟨a21, h21, h⟩ := h
  refine r_iremq F h21 dX9_takeOrders_21 ?_
  replace h := bind_so h
  obtain ⟨M22, h22, h⟩ := h
  refine r_iast F h22 dX9_takeOrders_22 ?_
  refine r_aload_n (j := 0) F rfl rfl dX9_takeOrders_23 ?_
  replace h := bind_so h
  obtain ⟨a24, h24, h⟩ := h
  refine r_getT (t := 2) rfl clok_9 F (by decide) h24 tw_1348 dX9_takeOrders_24 ?_
  refine r_iconst F rfl dX9_takeOrders_27 ?_
  refine r_iload_n (j := 1) F rfl rfl dX9_takeOrders_28 ?_
  refine r_bipush F rfl (by decide) dX9_takeOrders_29 ?_
  replace h := bind_so h
  obtain ⟨a31, h31, h⟩ := h
  refine r_iremq F h31 dX9_takeOrders_31 ?_
  replace h := bind_so h
  obtain ⟨M32, h32, h⟩ := h
  refine r_iast F h32 dX9_takeOrders_32 ?_
  refine r_aload_n (j := 0) F rfl rfl dX9_takeOrders_33 ?_
  replace h := bind_so h
  obtain ⟨a34, h34, h⟩ := h
  refine r_getT (t := 2) rfl clok_9 F (by decide) h34 tw_1348 dX9_takeOrders_34 ?_
  refine r_iconst F rfl dX9_takeOrders_37 ?_
  replace h := bind_so h
  obtain ⟨a38, h38, h⟩ := h
  refine r_iald F h38 dX9_takeOrders_38 ?_
  refine r_aload_n (j := 0) F rfl rfl dX9_takeOrders_39 ?_
  replace h := bind_so h
  obtain ⟨a40, h40, h⟩ := h
  refine r_getT (t := 2) rfl clok_9 F (by decide) h40 tw_1323 dX9_takeOrders_40 ?_
  refine r_iconst F rfl dX9_takeOrders_43 ?_
  replace h := bind_so h
  obtain ⟨a44, h44, h⟩ := h
  refine r_iald F h44 dX9_takeOrders_44 ?_
  replace h := bind_so h
  obtain ⟨q45, h45, h⟩ := h
  refine r_callS (as := [vI a38, vI a44]) (rv := (some (vI q45.1))) (kc := 0) (nc := 0) (tX9_isOrder h45) F tw_1566 tw_1567 tw_1568 tw_122 ⟨by decide, by decide, show (parseMethodDescriptor yX9_isOrder.desc).map (fun d => d.parameters.length) = some 2 by decide +kernel⟩ ⟨by decide, by decide⟩ (Nat.le_of_ble_eq_true rfl) dX9_takeOrders_45 ?_
  refine r_if_eq (tgt := 91) F (by decide) dX9_takeOrders_48 (fun hc => ?_) (fun hc => ?_)
  · replace h := ite_p h hc
    refine r_iconst F rfl dX9_takeOrders_91 ?_
    obtain rfl := Option.some.inj h
    exact r_zret (Or.inl rfl) F dX9_takeOrders_92
  · replace h := ite_n h hc
    refine r_aload_n (j := 0) F rfl rfl dX9_takeOrders_51 ?_
    replace h := bind_so h
    obtain ⟨a52, h52, h⟩ := h
    refine r_getT (t := 2) rfl clok_9 F (by decide) h52 tw_1348 dX9_takeOrders_52 ?_
    refine r_iconst F rfl dX9_takeOrders_55 ?_
    replace h := bind_so h
    obtain ⟨a56, h56, h⟩ := h
    refine r_iald F h56 dX9_takeOrders_56 ?_
    refine r_aload_n (j := 0) F rfl rfl dX9_takeOrders_57 ?_
    replace h := bind_so h
    obtain ⟨a58, h58, h⟩ := h
    refine r_getT (t := 2) rfl clok_9 F (by decide) h58 tw_1323 dX9_takeOrders_58 ?_
    refine r_iconst F rfl dX9_takeOrders_61 ?_
    replace h := bind_so h
    obtain ⟨a62, h62, h⟩ := h
    refine r_iald F h62 dX9_takeOrders_62 ?_
    replace h := bind_so h
    obtain ⟨q63, h63, h⟩ := h
    refine r_callS (as := [vI a56, vI a62]) (rv := (some (vI q63.1))) (kc := 0) (nc := 0) (tX9_isOrder h63) F tw_1566 tw_1567 tw_1568 tw_122 ⟨by decide, by decide, show (parseMethodDescriptor yX9_isOrder.desc).map (fun d => d.parameters.length) = some 2 by decide +kernel⟩ ⟨by decide, by decide⟩ (Nat.le_of_ble_eq_true rfl) dX9_takeOrders_63 ?_
    refine r_if_eq (tgt := 91) F (by decide) dX9_takeOrders_66 (fun hc => ?_) (fun hc => ?_)
    · replace h := ite_p h hc
      refine r_iconst F rfl dX9_takeOrders_91 ?_
      obtain rfl := Option.some.inj h
      exact r_zret (Or.inl rfl) F dX9_takeOrders_92
    · replace h := ite_n h hc
      refine r_aload_n (j := 0) F rfl rfl dX9_takeOrders_69 ?_
      replace h := bind_so h
      obtain ⟨a70, h70, h⟩ := h
      refine r_getT (t := 2) rfl clok_9 F (by decide) h70 tw_1348 dX9_takeOrders_70 ?_
      refine r_iconst F rfl dX9_takeOrders_73 ?_
      replace h := bind_so h
      obtain ⟨a74, h74, h⟩ := h
      refine r_iald F h74 dX9_takeOrders_74 ?_
      refine r_aload_n (j := 0) F rfl rfl dX9_takeOrders_75 ?_
      replace h := bind_so h
      obtain ⟨a76, h76, h⟩ := h
      refine r_getT (t := 2) rfl clok_9 F (by decide) h76 tw_1323 dX9_takeOrders_76 ?_
      refine r_iconst F rfl dX9_takeOrders_79 ?_
      replace h := bind_so h
      obtain ⟨a80, h80, h⟩ := h
      refine r_iald F h80 dX9_takeOrders_80 ?_
      replace h := bind_so h
      obtain ⟨q81, h81, h⟩ := h
      refine r_callS (as := [vI a74, vI a80]) (rv := (some (vI q81.1))) (kc := 0) (nc := 0) (tX9_isOrder h81) F tw_1566 tw_1567 tw_1568 tw_122 ⟨by decide, by decide, show (parseMethodDescriptor yX9_isOrder.desc).map (fun d => d.parameters.length) = some 2 by decide +kernel⟩ ⟨by decide, by decide⟩ (Nat.le_of_ble_eq_true rfl) dX9_takeOrders_81 ?_
      refine r_if_eq (tgt := 91) F (by decide) dX9_takeOrders_84 (fun hc => ?_) (fun hc => ?_)
      · replace h := ite_p h hc
        refine r_iconst F rfl dX9_takeOrders_91 ?_
        obtain rfl := Option.some.inj h
        exact r_zret (Or.inl rfl) F dX9_takeOrders_92
      · replace h := ite_n h hc
        refine r_iconst F rfl dX9_takeOrders_87 ?_
        refine r_goto (tgt := 92) F (by decide) dX9_takeOrders_88 ?_
        obtain rfl := Option.some.inj h
        exact r_zret (Or.inr rfl) F dX9_takeOrders_92
theorem tX9_renamed {l0 l1 l2 : Int} {M : Mem} {q : Int × Mem} (h : mX9_renamed l0 l1 l2 M = some q) : Ct 1 0 0 yX9_renamed cX9_renamed 3 (some FieldType.int) [vR l0, vI l1, vI l2] M (some (vI q.1)) q.2 := by
  unfold mX9_renamed at h
  refine Ct.of (by decide) (Nat.le_of_ble_eq_true rfl) ?_
  intro E p l e s m args below meth c F
  refine r_sub [0, 1, 2] (ls' := [(0, vR l0), (1, vI l1), (2, vI l2)]) rfl ?_
  refine r_iload_n (j := 1) F rfl rfl dX9_renamed_0 ?_
  refine r_iconst F rfl dX9_renamed_1 ?_
  refine r_icmp_ne (tgt := 9) F (by decide) dX9_renamed_2 (fun hc => ?_) (fun hc => ?_)
  · replace h := ite_n h hc
    refine r_aload_n (j := 0) F rfl rfl dX9_renamed_9 ?_
    replace h := bind_so h
    obtain ⟨a10, h10, h⟩ := h
    refine r_getT (t := 2) rfl clok_9 F (by decide) h10 tw_1348 dX9_renamed_10 ?_
    refine r_iload_n (j := 1) F rfl rfl dX9_renamed_13 ?_
    replace h := bind_so h
    obtain ⟨a14, h14, h⟩ := h
    refine r_iald F h14 dX9_renamed_14 ?_
    refine r_iload_n (j := 2) F rfl rfl dX9_renamed_15 ?_
    replace h := bind_so h
    obtain ⟨q16, h16, h⟩ := h
    refine r_callS (as := [vI a14, vI l2]) (rv := (some (vI q16.1))) (kc := 0) (nc := 0) (tX9_inOrder h16) F tw_1569 tw_1570 tw_1571 tw_122 ⟨by decide, by decide, show (parseMethodDescriptor yX9_inOrder.desc).map (fun d => d.parameters.length) = some 2 by decide +kernel⟩ ⟨by decide, by decide⟩ (Nat.le_of_ble_eq_true rfl) dX9_renamed_16 ?_
    obtain rfl := Option.some.inj h
    exact r_iret F dX9_renamed_19
  · replace h := ite_p h hc
    refine r_iconst F rfl dX9_renamed_5 ?_
    refine r_goto (tgt := 19) F (by decide) dX9_renamed_6 ?_
    obtain rfl := Option.some.inj h
    exact r_iret F dX9_renamed_19
theorem tX9_imageOf_127 {E : En} {p : Program} {l : Launch} {e : Env} {s : State} {m : MethodId} {args : Array Value} {below : List Frame} {meth : Method} {c : Code} {q : Int × Mem} {k9 : Int → Int → Int → Int → Mem → Option (Int × Mem)} {k34 : Int → Int → Int → Int → Int → Int → Mem → Option (Int × Mem)} (hk9 : ∀ {l0 l1 l2 l3 : Int} {M : Mem}, k9 l0 l1 l2 l3 M = some q → G E p l e (rmOf 2 0 0) s m args below meth c 7 (QZ E below args s (rmOf 2 0 0) (some (vI q.1)) q.2) 0 0 M 9 [(0, vR l0), (1, vI l1), (2, vI l2), (3, vI l3)] []) (hk34 : ∀ {l0 l1 l2 l3 l4 l5 : Int} {M : Mem}, k34 l0 l1 l2 l3 l4 l5 M = some q → G E p l e (rmOf 2 0 0) s m args below meth c 7 (QZ E below args s (rmOf 2 0 0) (some (vI q.1)) q.2) 0 0 M 34 [(0, vR l0), (1, vI l1), (2, vI l2), (3, vI l3), (4, vI l4), (5, vI l5)] []) {l0 l1 l3 l4 l5 s0 s1 : Int} {M : Mem} (F : Fx E p s m args meth c cX9_imageOf 7 yX9_imageOf.cls (some FieldType.int) yX9_imageOf.name) (h : mX9_imageOf_127 k9 k34 l0 l1 l3 l4 l5 s0 s1 M = some q) : G E p l e (rmOf 2 0 0) s m args below meth c 7 (QZ E below args s (rmOf 2 0 0) (some (vI q.1)) q.2) 0 0 M 127 [(0, vR l0), (1, vI l1), (3, vI l3), (4, vI l4), (5, vI l5)] [vI s1, vI s0] := by
  unfold mX9_imageOf_127 at h
  refine r_ior F dX9_imageOf_127 ?_
  refine r_istore_n (ls' := [(2, vI (ior s0 s1)), (0, vR l0), (1, vI l1), (3, vI l3), (4, vI l4), (5, vI l5)]) F rfl (by decide) rfl dX9_imageOf_128 ?_
  refine r_iinc (j := 5) (ls' := [(5, vI (wI (l5 + 1))), (2, vI (ior s0 s1)), (0, vR l0), (1, vI l1), (3, vI l3), (4, vI l4)]) F rfl (by decide) rfl dX9_imageOf_129 ?_
  refine r_goto (tgt := 34) F (by decide) dX9_imageOf_132 ?_
  refine r_sub [2, 3, 1, 4, 5, 0] (ls' := [(0, vR l0), (1, vI l1), (2, vI (ior s0 s1)), (3, vI l3), (4, vI l4), (5, vI (wI (l5 + 1)))]) rfl ?_
  exact hk34 h
theorem tbX9_imageOf_34 {E : En} {p : Program} {l : Launch} {e : Env} {s : State} {m : MethodId} {args : Array Value} {below : List Frame} {meth : Method} {c : Code} {q : Int × Mem} {k9 : Int → Int → Int → Int → Mem → Option (Int × Mem)} (hk9 : ∀ {l0 l1 l2 l3 : Int} {M : Mem}, k9 l0 l1 l2 l3 M = some q → G E p l e (rmOf 2 0 0) s m args below meth c 7 (QZ E below args s (rmOf 2 0 0) (some (vI q.1)) q.2) 0 0 M 9 [(0, vR l0), (1, vI l1), (2, vI l2), (3, vI l3)] []) {k34 : Int → Int → Int → Int → Int → Int → Mem → Option (Int × Mem)} (hk34 : ∀ {l0 l1 l2 l3 l4 l5 : Int} {M : Mem}, k34 l0 l1 l2 l3 l4 l5 M = some q → G E p l e (rmOf 2 0 0) s m args below meth c 7 (QZ E below args s (rmOf 2 0 0) (some (vI q.1)) q.2) 0 0 M 34 [(0, vR l0), (1, vI l1), (2, vI l2), (3, vI l3), (4, vI l4), (5, vI l5)] []) {l0 l1 l2 l3 l4 l5 : Int} {M : Mem} (F : Fx E p s m args meth c cX9_imageOf 7 yX9_imageOf.cls (some FieldType.int) yX9_imageOf.name) (h : bX9_imageOf_34 k9 k34 l0 l1 l2 l3 l4 l5 M = some q) : G E p l e (rmOf 2 0 0) s m args below meth c 7 (QZ E below args s (rmOf 2 0 0) (some (vI q.1)) q.2) 0 0 M 34 [(0, vR l0), (1, vI l1), (2, vI l2), (3, vI l3), (4, vI l4), (5, vI l5)] [] := by
  unfold bX9_imageOf_34 at h
  refine r_iload (j := 5) F rfl dX9_imageOf_34 ?_
  refine r_aload_n (j := 0) F rfl rfl dX9_imageOf_36 ?_
  replace h := bind_so h
  obtain ⟨a37, h37, h⟩ := h
  refine r_getT (t := 2) rfl clok_9 F (by decide) h37 tw_1324 dX9_imageOf_37 ?_
  refine r_iload_n (j := 3) F rfl rfl dX9_imageOf_40 ?_
  refine r_iconst F rfl dX9_imageOf_41 ?_
  refine r_iadd F dX9_imageOf_42 ?_
  replace h := bind_so h
  obtain ⟨a43, h43, h⟩ := h
  refine r_iald F h43 dX9_imageOf_43 ?_
  refine r_aload_n (j := 0) F rfl rfl dX9_imageOf_44 ?_
  replace h := bind_so h
  obtain ⟨a45, h45, h⟩ := h
  refine r_getT (t := 2) rfl clok_9 F (by decide) h45 tw_1324 dX9_imageOf_45 ?_
  refine r_iload_n (j := 3) F rfl rfl dX9_imageOf_48 ?_
  replace h := bind_so h
  obtain ⟨a49, h49, h⟩ := h
  refine r_iald F h49 dX9_imageOf_49 ?_
  refine r_isub F dX9_imageOf_50 ?_
  refine r_icmp_ge (tgt := 135) F (by decide) dX9_imageOf_51 (fun hc => ?_) (fun hc => ?_)
  · replace h := ite_p h hc
    refine r_iinc (j := 3) (ls' := [(3, vI (wI (l3 + 1))), (0, vR l0), (1, vI l1), (2, vI l2), (4, vI l4), (5, vI l5)]) F rfl (by decide) rfl dX9_imageOf_135 ?_
    refine r_goto (tgt := 9) F (by decide) dX9_imageOf_138 ?_
    refine r_sub [1, 2, 3, 0] (ls' := [(0, vR l0), (1, vI l1), (2, vI l2), (3, vI (wI (l3 + 1)))]) rfl ?_
    exact hk9 h
  · replace h := ite_n h hc
    refine r_aload_n (j := 0) F rfl rfl dX9_imageOf_54 ?_
    replace h := bind_so h
    obtain ⟨a55, h55, h⟩ := h
    refine r_getT (t := 2) rfl clok_9 F (by decide) h55 tw_1324 dX9_imageOf_55 ?_
    refine r_iload_n (j := 3) F rfl rfl dX9_imageOf_58 ?_
    replace h := bind_so h
    obtain ⟨a59, h59, h⟩ := h
    refine r_iald F h59 dX9_imageOf_59 ?_
    refine r_iload (j := 4) F rfl dX9_imageOf_60 ?_
    refine r_aload_n (j := 0) F rfl rfl dX9_imageOf_62 ?_
    refine r_aload_n (j := 0) F rfl rfl dX9_imageOf_63 ?_
    replace h := bind_so h
    obtain ⟨a64, h64, h⟩ := h
    refine r_getT (t := 2) rfl clok_9 F (by decide) h64 tw_1306 dX9_imageOf_64 ?_
    refine r_iload_n (j := 3) F rfl rfl dX9_imageOf_67 ?_
    replace h := bind_so h
    obtain ⟨a68, h68, h⟩ := h
    refine r_iald F h68 dX9_imageOf_68 ?_
    refine r_iload (j := 5) F rfl dX9_imageOf_69 ?_
    refine r_iload (j := 4) F rfl dX9_imageOf_71 ?_
    replace h := bind_so h
    obtain ⟨a73, h73, h⟩ := h
    refine r_idivq F h73 dX9_imageOf_73 ?_
    replace h := bind_so h
    obtain ⟨_, g74, h⟩ := h
    replace h := bind_so h
    obtain ⟨q74, h74, h⟩ := h
    refine r_callV (as := [vI a68, vI a73]) (rv := (some (vI q74.1))) (kc := 0) (nc := 0) (tX9_renamed h74) clok_9 F (gK_so g74) tw_1576 tw_1578 tw_66 tw_1579 tw_122 ⟨by decide, by decide, show (parseMethodDescriptor yX9_renamed.desc).map (fun d => d.parameters.length) = some 2 by decide +kernel⟩ ⟨by decide, by decide⟩ (Nat.le_of_ble_eq_true rfl) dX9_imageOf_74 ?_
    refine r_imul F dX9_imageOf_77 ?_
    refine r_iadd F dX9_imageOf_78 ?_
    refine r_aload_n (j := 0) F rfl rfl dX9_imageOf_79 ?_
    refine r_aload_n (j := 0) F rfl rfl dX9_imageOf_80 ?_
    replace h := bind_so h
    obtain ⟨a81, h81, h⟩ := h
    refine r_getT (t := 2) rfl clok_9 F (by decide) h81 tw_1307 dX9_imageOf_81 ?_
    refine r_iload_n (j := 3) F rfl rfl dX9_imageOf_84 ?_
    replace h := bind_so h
    obtain ⟨a85, h85, h⟩ := h
    refine r_iald F h85 dX9_imageOf_85 ?_
    refine r_iload (j := 5) F rfl dX9_imageOf_86 ?_
    refine r_iload (j := 4) F rfl dX9_imageOf_88 ?_
    replace h := bind_so h
    obtain ⟨a90, h90, h⟩ := h
    refine r_iremq F h90 dX9_imageOf_90 ?_
    replace h := bind_so h
    obtain ⟨_, g91, h⟩ := h
    replace h := bind_so h
    obtain ⟨q91, h91, h⟩ := h
    refine r_callV (as := [vI a85, vI a90]) (rv := (some (vI q91.1))) (kc := 0) (nc := 0) (tX9_renamed h91) clok_9 F (gK_so g91) tw_1576 tw_1578 tw_66 tw_1579 tw_122 ⟨by decide, by decide, show (parseMethodDescriptor yX9_renamed.desc).map (fun d => d.parameters.length) = some 2 by decide +kernel⟩ ⟨by decide, by decide⟩ (Nat.le_of_ble_eq_true rfl) dX9_imageOf_91 ?_
    refine r_iadd F dX9_imageOf_94 ?_
    replace h := bind_so h
    obtain ⟨b95, e95, h⟩ := h
    refine r_eq (y := b95) (Option.some.inj e95) ?_
    refine r_istore (ls' := [(6, vI b95), (0, vR l0), (1, vI l1), (2, vI l2), (3, vI l3), (4, vI l4), (5, vI l5)]) F (by decide) rfl dX9_imageOf_95 ?_
    refine r_iload_n (j := 3) F rfl rfl dX9_imageOf_97 ?_
    refine r_aload_n (j := 1) F rfl rfl dX9_imageOf_98 ?_
    replace h := bind_so h
    obtain ⟨a99, h99, h⟩ := h
    refine r_getT (t := 2) rfl clok_9 F (by decide) h99 tw_1325 dX9_imageOf_99 ?_
    refine r_aload_n (j := 1) F rfl rfl dX9_imageOf_102 ?_
    replace h := bind_so h
    obtain ⟨a103, h103, h⟩ := h
    refine r_getT (t := 2) rfl clok_9 F (by decide) h103 tw_1324 dX9_imageOf_103 ?_
    refine r_iload_n (j := 4) F rfl rfl dX9_imageOf_106 ?_
    replace h := bind_so h
    obtain ⟨a107, h107, h⟩ := h
    refine r_iald F h107 dX9_imageOf_107 ?_
    refine r_iload (j := 6) F rfl dX9_imageOf_108 ?_
    refine r_iadd F dX9_imageOf_110 ?_
    replace h := bind_so h
    obtain ⟨a111, h111, h⟩ := h
    refine r_zald F h111 dX9_imageOf_111 ?_
    refine r_if_eq (tgt := 126) F (by decide) dX9_imageOf_112 (fun hc => ?_) (fun hc => ?_)
    · replace h := ite_p h hc
      refine r_iconst F rfl dX9_imageOf_126 ?_
      refine r_sub [1, 2, 4, 5, 6] (ls' := [(0, vR l0), (1, vI l1), (3, vI l3), (4, vI l4), (5, vI l5)]) rfl ?_
      exact tX9_imageOf_127 (fun h => hk9 h) (fun h => hk34 h) F h
    · replace h := ite_n h hc
      refine r_iconst F rfl dX9_imageOf_115 ?_
      refine r_iload_n (j := 2) F rfl rfl dX9_imageOf_116 ?_
      refine r_iconst F rfl dX9_imageOf_117 ?_
      refine r_isub F dX9_imageOf_118 ?_
      refine r_iload (j := 0) F rfl dX9_imageOf_119 ?_
      refine r_isub F dX9_imageOf_121 ?_
      refine r_ishl F dX9_imageOf_122 ?_
      refine r_goto (tgt := 127) F (by decide) dX9_imageOf_123 ?_
      refine r_sub [1, 2, 4, 5, 6] (ls' := [(0, vR l0), (1, vI l1), (3, vI l3), (4, vI l4), (5, vI l5)]) rfl ?_
      exact tX9_imageOf_127 (fun h => hk9 h) (fun h => hk34 h) F h
theorem tX9_imageOf_34 {E : En} {p : Program} {l : Launch} {e : Env} {s : State} {m : MethodId} {args : Array Value} {below : List Frame} {meth : Method} {c : Code} {q : Int × Mem} {k9 : Int → Int → Int → Int → Mem → Option (Int × Mem)} (hk9 : ∀ {l0 l1 l2 l3 : Int} {M : Mem}, k9 l0 l1 l2 l3 M = some q → G E p l e (rmOf 2 0 0) s m args below meth c 7 (QZ E below args s (rmOf 2 0 0) (some (vI q.1)) q.2) 0 0 M 9 [(0, vR l0), (1, vI l1), (2, vI l2), (3, vI l3)] []) (F : Fx E p s m args meth c cX9_imageOf 7 yX9_imageOf.cls (some FieldType.int) yX9_imageOf.name) : ∀ {fu : Nat} {l0 l1 l2 l3 l4 l5 : Int} {M : Mem}, mX9_imageOf_34 k9 fu l0 l1 l2 l3 l4 l5 M = some q → G E p l e (rmOf 2 0 0) s m args below meth c 7 (QZ E below args s (rmOf 2 0 0) (some (vI q.1)) q.2) 0 0 M 34 [(0, vR l0), (1, vI l1), (2, vI l2), (3, vI l3), (4, vI l4), (5, vI l5)] [] := by
  intro fu
  induction fu with
  | zero => intro l0 l1 l2 l3 l4 l5 M h; exact nomatch (show (none : Option (Int × Mem)) = some q from h)
  | succ fu ih => intro l0 l1 l2 l3 l4 l5 M h; exact tbX9_imageOf_34 (fun h => hk9 h) (fun h => ih h) F h
theorem tbX9_imageOf_9 {E : En} {p : Program} {l : Launch} {e : Env} {s : State} {m : MethodId} {args : Array Value} {below : List Frame} {meth : Method} {c : Code} {q : Int × Mem} {k9 : Int → Int → Int → Int → Mem → Option (Int × Mem)} (hk9 : ∀ {l0 l1 l2 l3 : Int} {M : Mem}, k9 l0 l1 l2 l3 M = some q → G E p l e (rmOf 2 0 0) s m args below meth c 7 (QZ E below args s (rmOf 2 0 0) (some (vI q.1)) q.2) 0 0 M 9 [(0, vR l0), (1, vI l1), (2, vI l2), (3, vI l3)] []) {l0 l1 l2 l3 : Int} {M : Mem} (F : Fx E p s m args meth c cX9_imageOf 7 yX9_imageOf.cls (some FieldType.int) yX9_imageOf.name) (h : bX9_imageOf_9 k9 l0 l1 l2 l3 M = some q) : G E p l e (rmOf 2 0 0) s m args below meth c 7 (QZ E below args s (rmOf 2 0 0) (some (vI q.1)) q.2) 0 0 M 9 [(0, vR l0), (1, vI l1), (2, vI l2), (3, vI l3)] [] := by
  unfold bX9_imageOf_9 at h
  refine r_iload_n (j := 3) F rfl rfl dX9_imageOf_9 ?_
  refine r_aload_n (j := 0) F rfl rfl dX9_imageOf_10 ?_
  replace h := bind_so h
  obtain ⟨a11, h11, h⟩ := h
  refine r_getT (t := 2) rfl clok_9 F (by decide) h11 tw_1305 dX9_imageOf_11 ?_
  refine r_iconst F rfl dX9_imageOf_14 ?_
  replace h := bind_so h
  obtain ⟨a15, h15, h⟩ := h
  refine r_iald F h15 dX9_imageOf_15 ?_
  refine r_icmp_ge (tgt := 141) F (by decide) dX9_imageOf_16 (fun hc => ?_) (fun hc => ?_)
  · replace h := ite_p h hc
    refine r_iload_n (j := 2) F rfl rfl dX9_imageOf_141 ?_
    obtain rfl := Option.some.inj h
    exact r_iret F dX9_imageOf_142
  · replace h := ite_n h hc
    refine r_aload_n (j := 0) F rfl rfl dX9_imageOf_19 ?_
    refine r_aload_n (j := 0) F rfl rfl dX9_imageOf_20 ?_
    replace h := bind_so h
    obtain ⟨a21, h21, h⟩ := h
    refine r_getT (t := 2) rfl clok_9 F (by decide) h21 tw_1307 dX9_imageOf_21 ?_
    refine r_iload_n (j := 3) F rfl rfl dX9_imageOf_24 ?_
    replace h := bind_so h
    obtain ⟨a25, h25, h⟩ := h
    refine r_iald F h25 dX9_imageOf_25 ?_
    replace h := bind_so h
    obtain ⟨_, g26, h⟩ := h
    replace h := bind_so h
    obtain ⟨q26, h26, h⟩ := h
    refine r_callV (as := [vI a25]) (rv := (some (vI q26.1))) (kc := 0) (nc := 0) (tX9_sizeOf h26) clok_9 F (gK_so g26) tw_1514 tw_1516 tw_57 tw_1517 tw_122 ⟨by decide, by decide, show (parseMethodDescriptor yX9_sizeOf.desc).map (fun d => d.parameters.length) = some 1 by decide +kernel⟩ ⟨by decide, by decide⟩ (Nat.le_of_ble_eq_true rfl) dX9_imageOf_26 ?_
    refine r_istore (ls' := [(4, vI q26.1), (0, vR l0), (1, vI l1), (2, vI l2), (3, vI l3)]) F (by decide) rfl dX9_imageOf_29 ?_
    refine r_iconst F rfl dX9_imageOf_31 ?_
    refine r_istore (ls' := [(5, vI 0), (4, vI q26.1), (0, vR l0), (1, vI l1), (2, vI l2), (3, vI l3)]) F (by decide) rfl dX9_imageOf_32 ?_
    refine r_sub [2, 3, 4, 5, 1, 0] (ls' := [(0, vR l0), (1, vI l1), (2, vI l2), (3, vI l3), (4, vI q26.1), (5, vI 0)]) rfl ?_
    exact tX9_imageOf_34 (fun h => hk9 h) F h
theorem tX9_imageOf_9 {E : En} {p : Program} {l : Launch} {e : Env} {s : State} {m : MethodId} {args : Array Value} {below : List Frame} {meth : Method} {c : Code} {q : Int × Mem} (F : Fx E p s m args meth c cX9_imageOf 7 yX9_imageOf.cls (some FieldType.int) yX9_imageOf.name) : ∀ {fu : Nat} {l0 l1 l2 l3 : Int} {M : Mem}, mX9_imageOf_9 fu l0 l1 l2 l3 M = some q → G E p l e (rmOf 2 0 0) s m args below meth c 7 (QZ E below args s (rmOf 2 0 0) (some (vI q.1)) q.2) 0 0 M 9 [(0, vR l0), (1, vI l1), (2, vI l2), (3, vI l3)] [] := by
  intro fu
  induction fu with
  | zero => intro l0 l1 l2 l3 M h; exact nomatch (show (none : Option (Int × Mem)) = some q from h)
  | succ fu ih => intro l0 l1 l2 l3 M h; exact tbX9_imageOf_9  (fun h => ih h) F h
theorem tX9_imageOf {l0 : Int} {M : Mem} {q : Int × Mem} (h : mX9_imageOf l0 M = some q) : Ct 2 0 0 yX9_imageOf cX9_imageOf 7 (some FieldType.int) [vR l0] M (some (vI q.1)) q.2 := by
  unfold mX9_imageOf at h
  refine Ct.of (by decide) (Nat.le_of_ble_eq_true rfl) ?_
  intro E p l e s m args below meth c F
  refine r_sub [0] (ls' := [(0, vR l0)]) rfl ?_
  refine r_aload_n (j := 0) F rfl rfl dX9_imageOf_0 ?_
  replace h := bind_so h
  obtain ⟨_, g1, h⟩ := h
  replace h := bind_so h
  obtain ⟨q1, h1, h⟩ := h
  refine r_callV (as := []) (rv := (some (vI q1.1))) (kc := 0) (nc := 0) (tX9_manyFacts h1) clok_9 F (gK_so g1) tw_1518 tw_1520 tw_58 tw_1521 tw_122 ⟨by decide, by decide, show (parseMethodDescriptor yX9_manyFacts.desc).map (fun d => d.parameters.length) = some 0 by decide +kernel⟩ ⟨by decide, by decide⟩ (Nat.le_of_ble_eq_true rfl) dX9_imageOf_1 ?_
  refine r_istore_n (ls' := [(1, vI q1.1), (0, vR l0)]) F rfl (by decide) rfl dX9_imageOf_4 ?_
  refine r_iconst F rfl dX9_imageOf_5 ?_
  refine r_istore_n (ls' := [(2, vI 0), (1, vI q1.1), (0, vR l0)]) F rfl (by decide) rfl dX9_imageOf_6 ?_
  refine r_iconst F rfl dX9_imageOf_7 ?_
  refine r_istore_n (ls' := [(3, vI 0), (2, vI 0), (1, vI q1.1), (0, vR l0)]) F rfl (by decide) rfl dX9_imageOf_8 ?_
  refine r_sub [3, 2, 1, 0] (ls' := [(0, vR l0), (1, vI q1.1), (2, vI 0), (3, vI 0)]) rfl ?_
  exact tX9_imageOf_9 F h
theorem tbX9_ones_4 {E : En} {p : Program} {l : Launch} {e : Env} {s : State} {m : MethodId} {args : Array Value} {below : List Frame} {meth : Method} {c : Code} {q : Int × Mem} {k4 : Int → Int → Int → Mem → Option (Int × Mem)} (hk4 : ∀ {l0 l1 l2 : Int} {M : Mem}, k4 l0 l1 l2 M = some q → G E p l e (rmOf 0 0 0) s m args below meth c 3 (QZ E below args s (rmOf 0 0 0) (some (vI q.1)) q.2) 0 0 M 4 [(0, vI l0), (1, vI l1), (2, vI l2)] []) {l0 l1 l2 : Int} {M : Mem} (F : Fx E p s m args meth c cX9_ones 3 yX9_ones.cls (some FieldType.int) yX9_ones.name) (h : bX9_ones_4 k4 l0 l1 l2 M = some q) : G E p l e (rmOf 0 0 0) s m args below meth c 3 (QZ E below args s (rmOf 0 0 0) (some (vI q.1)) q.2) 0 0 M 4 [(0, vI l0), (1, vI l1), (2, vI l2)] [] := by
  unfold bX9_ones_4 at h
  refine r_iload_n (j := 2) F rfl rfl dX9_ones_4 ?_
  refine r_bipush F rfl (by decide) dX9_ones_5 ?_
  refine r_icmp_ge (tgt := 24) F (by decide) dX9_ones_7 (fun hc => ?_) (fun hc => ?_)
  · replace h := ite_p h hc
    refine r_iload_n (j := 1) F rfl rfl dX9_ones_24 ?_
    obtain rfl := Option.some.inj h
    exact r_iret F dX9_ones_25
  · replace h := ite_n h hc
    refine r_iload_n (j := 1) F rfl rfl dX9_ones_10 ?_
    refine r_iload_n (j := 0) F rfl rfl dX9_ones_11 ?_
    refine r_iload_n (j := 2) F rfl rfl dX9_ones_12 ?_
    refine r_ishr F dX9_ones_13 ?_
    refine r_iconst F rfl dX9_ones_14 ?_
    refine r_iand F dX9_ones_15 ?_
    refine r_iadd F dX9_ones_16 ?_
    replace h := bind_so h
    obtain ⟨b17, e17, h⟩ := h
    refine r_eq (y := b17) (Option.some.inj e17) ?_
    refine r_istore_n (ls' := [(1, vI b17), (0, vI l0), (2, vI l2)]) F rfl (by decide) rfl dX9_ones_17 ?_
    refine r_iinc (j := 2) (ls' := [(2, vI (wI (l2 + 1))), (1, vI b17), (0, vI l0)]) F rfl (by decide) rfl dX9_ones_18 ?_
    refine r_goto (tgt := 4) F (by decide) dX9_ones_21 ?_
    refine r_sub [2, 1, 0] (ls' := [(0, vI l0), (1, vI b17), (2, vI (wI (l2 + 1)))]) rfl ?_
    exact hk4 h
theorem tX9_ones_4 {E : En} {p : Program} {l : Launch} {e : Env} {s : State} {m : MethodId} {args : Array Value} {below : List Frame} {meth : Method} {c : Code} {q : Int × Mem} (F : Fx E p s m args meth c cX9_ones 3 yX9_ones.cls (some FieldType.int) yX9_ones.name) : ∀ {fu : Nat} {l0 l1 l2 : Int} {M : Mem}, mX9_ones_4 fu l0 l1 l2 M = some q → G E p l e (rmOf 0 0 0) s m args below meth c 3 (QZ E below args s (rmOf 0 0 0) (some (vI q.1)) q.2) 0 0 M 4 [(0, vI l0), (1, vI l1), (2, vI l2)] [] := by
  intro fu
  induction fu with
  | zero => intro l0 l1 l2 M h; exact nomatch (show (none : Option (Int × Mem)) = some q from h)
  | succ fu ih => intro l0 l1 l2 M h; exact tbX9_ones_4  (fun h => ih h) F h
theorem tX9_ones {l0 : Int} {M : Mem} {q : Int × Mem} (h : mX9_ones l0 M = some q) : Ct 0 0 0 yX9_ones cX9_ones 3 (some FieldType.int) [vI l0] M (some (vI q.1)) q.2 := by
  unfold mX9_ones at h
  refine Ct.of (by decide) (Nat.le_of_ble_eq_true rfl) ?_
  intro E p l e s m args below meth c F
  refine r_sub [0] (ls' := [(0, vI l0)]) rfl ?_
  refine r_iconst F rfl dX9_ones_0 ?_
  refine r_istore_n (ls' := [(1, vI 0), (0, vI l0)]) F rfl (by decide) rfl dX9_ones_1 ?_
  refine r_iconst F rfl dX9_ones_2 ?_
  refine r_istore_n (ls' := [(2, vI 0), (1, vI 0), (0, vI l0)]) F rfl (by decide) rfl dX9_ones_3 ?_
  refine r_sub [2, 1, 0] (ls' := [(0, vI l0), (1, vI 0), (2, vI 0)]) rfl ?_
  exact tX9_ones_4 F h
theorem tX9_apart_123 {E : En} {p : Program} {l : Launch} {e : Env} {s : State} {m : MethodId} {args : Array Value} {below : List Frame} {meth : Method} {c : Code} {q : Int × Mem} {k79 : Int → Int → Int → Int → Mem → Option (Int × Mem)} (hk79 : ∀ {l0 l3 l4 l5 : Int} {M : Mem}, k79 l0 l3 l4 l5 M = some q → G E p l e (rmOf 4 0 0) s m args below meth c 7 (QZ E below args s (rmOf 4 0 0) (some (vI q.1)) q.2) 0 0 M 79 [(0, vR l0), (3, vI l3), (4, vI l4), (5, vI l5)] []) {l0 l3 l4 l5 : Int} {M : Mem} (F : Fx E p s m args meth c cX9_apart 7 yX9_apart.cls (some FieldType.int) yX9_apart.name) (h : mX9_apart_123 k79 l0 l3 l4 l5 M = some q) : G E p l e (rmOf 4 0 0) s m args below meth c 7 (QZ E below args s (rmOf 4 0 0) (some (vI q.1)) q.2) 0 0 M 123 [(0, vR l0), (3, vI l3), (4, vI l4), (5, vI l5)] [] := by
  unfold mX9_apart_123 at h
  refine r_iinc (j := 3) (ls' := [(5, vI (wI (l5 + 1))), (0, vR l0), (3, vI l3), (4, vI l4)]) F rfl (by decide) rfl dX9_apart_123 ?_
  refine r_goto (tgt := 79) F (by decide) dX9_apart_126 ?_
  refine r_sub [1, 2, 3, 0] (ls' := [(0, vR l0), (3, vI l3), (4, vI l4), (5, vI (wI (l5 + 1)))]) rfl ?_
  exact hk79 h
theorem tX9_apart_121 {E : En} {p : Program} {l : Launch} {e : Env} {s : State} {m : MethodId} {args : Array Value} {below : List Frame} {meth : Method} {c : Code} {q : Int × Mem} {k79 : Int → Int → Int → Int → Mem → Option (Int × Mem)} (hk79 : ∀ {l0 l3 l4 l5 : Int} {M : Mem}, k79 l0 l3 l4 l5 M = some q → G E p l e (rmOf 4 0 0) s m args below meth c 7 (QZ E below args s (rmOf 4 0 0) (some (vI q.1)) q.2) 0 0 M 79 [(0, vR l0), (3, vI l3), (4, vI l4), (5, vI l5)] []) {l0 l3 l5 s0 : Int} {M : Mem} (F : Fx E p s m args meth c cX9_apart 7 yX9_apart.cls (some FieldType.int) yX9_apart.name) (h : mX9_apart_121 k79 l0 l3 l5 s0 M = some q) : G E p l e (rmOf 4 0 0) s m args below meth c 7 (QZ E below args s (rmOf 4 0 0) (some (vI q.1)) q.2) 0 0 M 121 [(0, vR l0), (3, vI l3), (5, vI l5)] [vI s0] := by
  unfold mX9_apart_121 at h
  refine r_istore (ls' := [(4, vI s0), (0, vR l0), (3, vI l3), (5, vI l5)]) F (by decide) rfl dX9_apart_121 ?_
  refine r_sub [1, 2, 0, 3] (ls' := [(0, vR l0), (3, vI l3), (4, vI s0), (5, vI l5)]) rfl ?_
  exact tX9_apart_123 (fun h => hk79 h) F h
theorem tbX9_apart_79 {E : En} {p : Program} {l : Launch} {e : Env} {s : State} {m : MethodId} {args : Array Value} {below : List Frame} {meth : Method} {c : Code} {q : Int × Mem} {k79 : Int → Int → Int → Int → Mem → Option (Int × Mem)} (hk79 : ∀ {l0 l3 l4 l5 : Int} {M : Mem}, k79 l0 l3 l4 l5 M = some q → G E p l e (rmOf 4 0 0) s m args below meth c 7 (QZ E below args s (rmOf 4 0 0) (some (vI q.1)) q.2) 0 0 M 79 [(0, vR l0), (3, vI l3), (4, vI l4), (5, vI l5)] []) {l0 l3 l4 l5 : Int} {M : Mem} (F : Fx E p s m args meth c cX9_apart 7 yX9_apart.cls (some FieldType.int) yX9_apart.name) (h : bX9_apart_79 k79 l0 l3 l4 l5 M = some q) : G E p l e (rmOf 4 0 0) s m args below meth c 7 (QZ E below args s (rmOf 4 0 0) (some (vI q.1)) q.2) 0 0 M 79 [(0, vR l0), (3, vI l3), (4, vI l4), (5, vI l5)] [] := by
  unfold bX9_apart_79 at h
  refine r_iload (j := 3) F rfl dX9_apart_79 ?_
  refine r_sipush F rfl (by decide) dX9_apart_81 ?_
  refine r_icmp_ge (tgt := 129) F (by decide) dX9_apart_84 (fun hc => ?_) (fun hc => ?_)
  · replace h := ite_p h hc
    refine r_iload (j := 2) F rfl dX9_apart_129 ?_
    obtain rfl := Option.some.inj h
    exact r_iret F dX9_apart_131
  · replace h := ite_n h hc
    refine r_aload_n (j := 0) F rfl rfl dX9_apart_87 ?_
    refine r_iload (j := 3) F rfl dX9_apart_88 ?_
    replace h := bind_so h
    obtain ⟨_, g90, h⟩ := h
    replace h := bind_so h
    obtain ⟨q90, h90, h⟩ := h
    refine r_callV (as := [vI l5]) (rv := (some (vI q90.1))) (kc := 0) (nc := 0) (tX9_takeOrders h90) clok_9 F (gK_so g90) tw_1562 tw_1564 tw_64 tw_1565 tw_122 ⟨by decide, by decide, show (parseMethodDescriptor yX9_takeOrders.desc).map (fun d => d.parameters.length) = some 1 by decide +kernel⟩ ⟨by decide, by decide⟩ (Nat.le_of_ble_eq_true rfl) dX9_apart_90 ?_
    refine r_if_eq (tgt := 123) F (by decide) dX9_apart_93 (fun hc => ?_) (fun hc => ?_)
    · replace h := ite_p h hc
      refine r_sub [0, 1, 2, 3] (ls' := [(0, vR l0), (3, vI l3), (4, vI l4), (5, vI l5)]) rfl ?_
      exact tX9_apart_123 (fun h => hk79 h) F h
    · replace h := ite_n h hc
      refine r_aload_n (j := 0) F rfl rfl dX9_apart_96 ?_
      replace h := bind_so h
      obtain ⟨_, g97, h⟩ := h
      replace h := bind_so h
      obtain ⟨q97, h97, h⟩ := h
      refine r_callV (as := []) (rv := (some (vI q97.1))) (kc := 0) (nc := 0) (tX9_imageOf h97) clok_9 F (gK_so g97) tw_1572 tw_1574 tw_65 tw_1575 tw_122 ⟨by decide, by decide, show (parseMethodDescriptor yX9_imageOf.desc).map (fun d => d.parameters.length) = some 0 by decide +kernel⟩ ⟨by decide, by decide⟩ (Nat.le_of_ble_eq_true rfl) dX9_apart_97 ?_
      refine r_iload_n (j := 1) F rfl rfl dX9_apart_100 ?_
      refine r_ixor F dX9_apart_101 ?_
      replace h := bind_so h
      obtain ⟨q102, h102, h⟩ := h
      refine r_callS (as := [vI (ixor q97.1 l3)]) (rv := (some (vI q102.1))) (kc := 0) (nc := 0) (tX9_ones h102) F tw_1580 tw_1581 tw_1582 tw_122 ⟨by decide, by decide, show (parseMethodDescriptor yX9_ones.desc).map (fun d => d.parameters.length) = some 1 by decide +kernel⟩ ⟨by decide, by decide⟩ (Nat.le_of_ble_eq_true rfl) dX9_apart_102 ?_
      refine r_istore (ls' := [(6, vI q102.1), (0, vR l0), (3, vI l3), (4, vI l4), (5, vI l5)]) F (by decide) rfl dX9_apart_105 ?_
      refine r_iload (j := 0) F rfl dX9_apart_107 ?_
      refine r_iload (j := 3) F rfl dX9_apart_109 ?_
      refine r_icmp_ge (tgt := 119) F (by decide) dX9_apart_111 (fun hc => ?_) (fun hc => ?_)
      · replace h := ite_p h hc
        refine r_iload (j := 3) F rfl dX9_apart_119 ?_
        refine r_sub [1, 2, 4] (ls' := [(0, vR l0), (3, vI l3), (5, vI l5)]) rfl ?_
        exact tX9_apart_121 (fun h => hk79 h) F h
      · replace h := ite_n h hc
        refine r_iload (j := 0) F rfl dX9_apart_114 ?_
        refine r_goto (tgt := 121) F (by decide) dX9_apart_116 ?_
        refine r_sub [1, 2, 4] (ls' := [(0, vR l0), (3, vI l3), (5, vI l5)]) rfl ?_
        exact tX9_apart_121 (fun h => hk79 h) F h
theorem tX9_apart_79 {E : En} {p : Program} {l : Launch} {e : Env} {s : State} {m : MethodId} {args : Array Value} {below : List Frame} {meth : Method} {c : Code} {q : Int × Mem} (F : Fx E p s m args meth c cX9_apart 7 yX9_apart.cls (some FieldType.int) yX9_apart.name) : ∀ {fu : Nat} {l0 l3 l4 l5 : Int} {M : Mem}, mX9_apart_79 fu l0 l3 l4 l5 M = some q → G E p l e (rmOf 4 0 0) s m args below meth c 7 (QZ E below args s (rmOf 4 0 0) (some (vI q.1)) q.2) 0 0 M 79 [(0, vR l0), (3, vI l3), (4, vI l4), (5, vI l5)] [] := by
  intro fu
  induction fu with
  | zero => intro l0 l3 l4 l5 M h; exact nomatch (show (none : Option (Int × Mem)) = some q from h)
  | succ fu ih => intro l0 l3 l4 l5 M h; exact tbX9_apart_79  (fun h => ih h) F h
theorem tbX9_apart_39 {E : En} {p : Program} {l : Launch} {e : Env} {s : State} {m : MethodId} {args : Array Value} {below : List Frame} {meth : Method} {c : Code} {q : Int × Mem} {k39 : Int → Int → Int → Int → Mem → Option (Int × Mem)} (hk39 : ∀ {l0 l1 l2 l3 : Int} {M : Mem}, k39 l0 l1 l2 l3 M = some q → G E p l e (rmOf 4 0 0) s m args below meth c 7 (QZ E below args s (rmOf 4 0 0) (some (vI q.1)) q.2) 0 0 M 39 [(0, vR l0), (1, vI l1), (2, vI l2), (3, vI l3)] []) {l0 l1 l2 l3 : Int} {M : Mem} (F : Fx E p s m args meth c cX9_apart 7 yX9_apart.cls (some FieldType.int) yX9_apart.name) (h : bX9_apart_39 k39 l0 l1 l2 l3 M = some q) : G E p l e (rmOf 4 0 0) s m args below meth c 7 (QZ E below args s (rmOf 4 0 0) (some (vI q.1)) q.2) 0 0 M 39 [(0, vR l0), (1, vI l1), (2, vI l2), (3, vI l3)] [] := by
  unfold bX9_apart_39 at h
  refine r_iload_n (j := 3) F rfl rfl dX9_apart_39 ?_
  refine r_iload_n (j := 2) F rfl rfl dX9_apart_40 ?_
  refine r_icmp_ge (tgt := 67) F (by decide) dX9_apart_41 (fun hc => ?_) (fun hc => ?_)
  · replace h := ite_p h hc
    refine r_aload_n (j := 0) F rfl rfl dX9_apart_67 ?_
    replace h := bind_so h
    obtain ⟨_, g68, h⟩ := h
    replace h := bind_so h
    obtain ⟨q68, h68, h⟩ := h
    refine r_callV (as := []) (rv := (some (vI q68.1))) (kc := 0) (nc := 0) (tX9_numberOfWorld h68) clok_9 F (gK_so g68) tw_1558 tw_1560 tw_63 tw_1561 tw_122 ⟨by decide, by decide, show (parseMethodDescriptor yX9_numberOfWorld.desc).map (fun d => d.parameters.length) = some 0 by decide +kernel⟩ ⟨by decide, by decide⟩ (Nat.le_of_ble_eq_true rfl) dX9_apart_68 ?_
    refine r_istore_n (ls' := [(3, vI q68.1), (0, vR l0), (1, vI l1), (2, vI l2)]) F rfl (by decide) rfl dX9_apart_71 ?_
    refine r_bipush F rfl (by decide) dX9_apart_72 ?_
    refine r_istore (ls' := [(4, vI 36), (3, vI q68.1), (0, vR l0), (1, vI l1), (2, vI l2)]) F (by decide) rfl dX9_apart_74 ?_
    refine r_iconst F rfl dX9_apart_76 ?_
    refine r_istore (ls' := [(5, vI 0), (4, vI 36), (3, vI q68.1), (0, vR l0), (1, vI l1), (2, vI l2)]) F (by decide) rfl dX9_apart_77 ?_
    refine r_sub [3, 2, 1, 0] (ls' := [(0, vR l0), (3, vI q68.1), (4, vI 36), (5, vI 0)]) rfl ?_
    exact tX9_apart_79 F h
  · replace h := ite_n h hc
    refine r_aload_n (j := 0) F rfl rfl dX9_apart_44 ?_
    replace h := bind_so h
    obtain ⟨a45, h45, h⟩ := h
    refine r_getT (t := 2) rfl clok_9 F (by decide) h45 tw_1325 dX9_apart_45 ?_
    refine r_iload_n (j := 3) F rfl rfl dX9_apart_48 ?_
    refine r_aload_n (j := 0) F rfl rfl dX9_apart_49 ?_
    replace h := bind_so h
    obtain ⟨a50, h50, h⟩ := h
    refine r_getT (t := 2) rfl clok_9 F (by decide) h50 tw_1321 dX9_apart_50 ?_
    refine r_bipush F rfl (by decide) dX9_apart_53 ?_
    refine r_iload_n (j := 1) F rfl rfl dX9_apart_55 ?_
    refine r_imul F dX9_apart_56 ?_
    refine r_iload_n (j := 3) F rfl rfl dX9_apart_57 ?_
    refine r_iadd F dX9_apart_58 ?_
    replace h := bind_so h
    obtain ⟨a59, h59, h⟩ := h
    refine r_zald F h59 dX9_apart_59 ?_
    replace h := bind_so h
    obtain ⟨M60, h60, h⟩ := h
    refine r_zast F h60 dX9_apart_60 ?_
    refine r_iinc (j := 3) (ls' := [(3, vI (wI (l3 + 1))), (0, vR l0), (1, vI l1), (2, vI l2)]) F rfl (by decide) rfl dX9_apart_61 ?_
    refine r_goto (tgt := 39) F (by decide) dX9_apart_64 ?_
    refine r_sub [1, 2, 3, 0] (ls' := [(0, vR l0), (1, vI l1), (2, vI l2), (3, vI (wI (l3 + 1)))]) rfl ?_
    exact hk39 h
theorem tX9_apart_39 {E : En} {p : Program} {l : Launch} {e : Env} {s : State} {m : MethodId} {args : Array Value} {below : List Frame} {meth : Method} {c : Code} {q : Int × Mem} (F : Fx E p s m args meth c cX9_apart 7 yX9_apart.cls (some FieldType.int) yX9_apart.name) : ∀ {fu : Nat} {l0 l1 l2 l3 : Int} {M : Mem}, mX9_apart_39 fu l0 l1 l2 l3 M = some q → G E p l e (rmOf 4 0 0) s m args below meth c 7 (QZ E below args s (rmOf 4 0 0) (some (vI q.1)) q.2) 0 0 M 39 [(0, vR l0), (1, vI l1), (2, vI l2), (3, vI l3)] [] := by
  intro fu
  induction fu with
  | zero => intro l0 l1 l2 l3 M h; exact nomatch (show (none : Option (Int × Mem)) = some q from h)
  | succ fu ih => intro l0 l1 l2 l3 M h; exact tbX9_apart_39  (fun h => ih h) F h
theorem tX9_apart {l0 l1 : Int} {M : Mem} {q : Int × Mem} (h : mX9_apart l0 l1 M = some q) : Ct 4 0 0 yX9_apart cX9_apart 7 (some FieldType.int) [vR l0, vI l1] M (some (vI q.1)) q.2 := by
  unfold mX9_apart at h
  refine Ct.of (by decide) (Nat.le_of_ble_eq_true rfl) ?_
  intro E p l e s m args below meth c F
  refine r_sub [0, 1] (ls' := [(0, vR l0), (1, vI l1)]) rfl ?_
  refine r_aload_n (j := 0) F rfl rfl dX9_apart_0 ?_
  refine r_iconst F rfl dX9_apart_1 ?_
  replace h := bind_so h
  obtain ⟨M2, h2, h⟩ := h
  refine r_put clok_9 F (by decide) rfl (by decide) (by decide) h2 tw_1297 dX9_apart_2 ?_
  refine r_iload_n (j := 1) F rfl rfl dX9_apart_5 ?_
  refine r_iconst F rfl dX9_apart_6 ?_
  refine r_iconst F rfl dX9_apart_7 ?_
  replace h := bind_so h
  obtain ⟨q8, h8, h⟩ := h
  refine r_callS (as := [vI l1, vI 0, vI 3]) (rv := (some (vI q8.1))) (kc := 0) (nc := 0) (tX9_in h8) F tw_1491 tw_1492 tw_1493 tw_122 ⟨by decide, by decide, show (parseMethodDescriptor yX9_in.desc).map (fun d => d.parameters.length) = some 3 by decide +kernel⟩ ⟨by decide, by decide⟩ (Nat.le_of_ble_eq_true rfl) dX9_apart_8 ?_
  refine r_if_eq (tgt := 30) F (by decide) dX9_apart_11 (fun hc => ?_) (fun hc => ?_)
  · replace h := ite_p h hc
    refine r_iconst F rfl dX9_apart_30 ?_
    obtain rfl := Option.some.inj h
    exact r_iret F dX9_apart_31
  · replace h := ite_n h hc
    refine r_aload_n (j := 0) F rfl rfl dX9_apart_14 ?_
    replace h := bind_so h
    obtain ⟨a15, h15, h⟩ := h
    refine r_getT (t := 2) rfl clok_9 F (by decide) h15 tw_1322 dX9_apart_15 ?_
    refine r_iload_n (j := 1) F rfl rfl dX9_apart_18 ?_
    replace h := bind_so h
    obtain ⟨a19, h19, h⟩ := h
    refine r_zald F h19 dX9_apart_19 ?_
    refine r_if_eq (tgt := 30) F (by decide) dX9_apart_20 (fun hc => ?_) (fun hc => ?_)
    · replace h := ite_p h hc
      refine r_iconst F rfl dX9_apart_30 ?_
      obtain rfl := Option.some.inj h
      exact r_iret F dX9_apart_31
    · replace h := ite_n h hc
      refine r_aload_n (j := 0) F rfl rfl dX9_apart_23 ?_
      replace h := bind_so h
      obtain ⟨_, g24, h⟩ := h
      replace h := bind_so h
      obtain ⟨q24, h24, h⟩ := h
      refine r_callV (as := []) (rv := (some (vI q24.1))) (kc := 0) (nc := 0) (tX9_canTell h24) clok_9 F (gK_so g24) tw_1554 tw_1556 tw_62 tw_1557 tw_122 ⟨by decide, by decide, show (parseMethodDescriptor yX9_canTell.desc).map (fun d => d.parameters.length) = some 0 by decide +kernel⟩ ⟨by decide, by decide⟩ (Nat.le_of_ble_eq_true rfl) dX9_apart_24 ?_
      refine r_if_ne (tgt := 32) F (by decide) dX9_apart_27 (fun hc => ?_) (fun hc => ?_)
      · replace h := ite_n h hc
        refine r_aload_n (j := 0) F rfl rfl dX9_apart_32 ?_
        replace h := bind_so h
        obtain ⟨_, g33, h⟩ := h
        replace h := bind_so h
        obtain ⟨q33, h33, h⟩ := h
        refine r_callV (as := []) (rv := (some (vI q33.1))) (kc := 0) (nc := 0) (tX9_manyFacts h33) clok_9 F (gK_so g33) tw_1518 tw_1520 tw_58 tw_1521 tw_122 ⟨by decide, by decide, show (parseMethodDescriptor yX9_manyFacts.desc).map (fun d => d.parameters.length) = some 0 by decide +kernel⟩ ⟨by decide, by decide⟩ (Nat.le_of_ble_eq_true rfl) dX9_apart_33 ?_
        refine r_istore_n (ls' := [(2, vI q33.1), (0, vR l0), (1, vI l1)]) F rfl (by decide) rfl dX9_apart_36 ?_
        refine r_iconst F rfl dX9_apart_37 ?_
        refine r_istore_n (ls' := [(3, vI 0), (2, vI q33.1), (0, vR l0), (1, vI l1)]) F rfl (by decide) rfl dX9_apart_38 ?_
        refine r_sub [2, 3, 1, 0] (ls' := [(0, vR l0), (1, vI l1), (2, vI q33.1), (3, vI 0)]) rfl ?_
        exact tX9_apart_39 F h
      · replace h := ite_p h hc
        refine r_iconst F rfl dX9_apart_30 ?_
        obtain rfl := Option.some.inj h
        exact r_iret F dX9_apart_31
