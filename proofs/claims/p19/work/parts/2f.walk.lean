theorem tbX4_findLeastSizes_93 {E : En} {p : Program} {l : Launch} {e : Env} {s : State} {m : MethodId} {args : Array Value} {below : List Frame} {meth : Method} {c : Code} {q : Int × Mem} {k93 : Int → Int → Mem → Option (Int × Mem)} (hk93 : ∀ {l0 l2 : Int} {M : Mem}, k93 l0 l2 M = some q → G E p l e (rmOf 101 0 0) s m args below meth c 5 (QZ E below args s (rmOf 101 0 0) none q.2) 0 0 M 93 [(0, vR l0), (2, vI l2)] []) {l0 l2 : Int} {M : Mem} (F : Fx E p s m args meth c cX4_findLeastSizes 5 yX4_findLeastSizes.cls none yX4_findLeastSizes.name) (h : bX4_findLeastSizes_93 k93 l0 l2 M = some q) : G E p l e (rmOf 101 0 0) s m args below meth c 5 (QZ E below args s (rmOf 101 0 0) none q.2) 0 0 M 93 [(0, vR l0), (2, vI l2)] [] := by
  unfold bX4_findLeastSizes_93 at h
  refine r_iload_n (j := 1) F rfl rfl dX4_findLeastSizes_93 ?_
  refine r_iconst F rfl dX4_findLeastSizes_94 ?_
  refine r_icmp_ge (tgt := 111) F (by decide) dX4_findLeastSizes_95 (fun hc => ?_) (fun hc => ?_)
  · replace h := ite_p h hc
    obtain rfl := Option.some.inj h
    exact r_vret F dX4_findLeastSizes_111
  · replace h := ite_n h hc
    refine r_aload_n (j := 0) F rfl rfl dX4_findLeastSizes_98 ?_
    replace h := bind_so h
    obtain ⟨a99, h99, h⟩ := h
    refine r_getT (t := 2) rfl clok_4 F (by decide) h99 tw_377 dX4_findLeastSizes_99 ?_
    refine r_iload_n (j := 1) F rfl rfl dX4_findLeastSizes_102 ?_
    refine r_iconst F rfl dX4_findLeastSizes_103 ?_
    replace h := bind_so h
    obtain ⟨M104, h104, h⟩ := h
    refine r_iast F h104 dX4_findLeastSizes_104 ?_
    refine r_iinc (j := 1) (ls' := [(2, vI (wI (l2 + 1))), (0, vR l0)]) F rfl (by decide) rfl dX4_findLeastSizes_105 ?_
    refine r_goto (tgt := 93) F (by decide) dX4_findLeastSizes_108 ?_
    refine r_sub [1, 0] (ls' := [(0, vR l0), (2, vI (wI (l2 + 1)))]) rfl ?_
    exact hk93 h
theorem tX4_findLeastSizes_93 {E : En} {p : Program} {l : Launch} {e : Env} {s : State} {m : MethodId} {args : Array Value} {below : List Frame} {meth : Method} {c : Code} {q : Int × Mem} (F : Fx E p s m args meth c cX4_findLeastSizes 5 yX4_findLeastSizes.cls none yX4_findLeastSizes.name) : ∀ {fu : Nat} {l0 l2 : Int} {M : Mem}, mX4_findLeastSizes_93 fu l0 l2 M = some q → G E p l e (rmOf 101 0 0) s m args below meth c 5 (QZ E below args s (rmOf 101 0 0) none q.2) 0 0 M 93 [(0, vR l0), (2, vI l2)] [] := by
  intro fu
  induction fu with
  | zero => intro l0 l2 M h; exact nomatch (show (none : Option (Int × Mem)) = some q from h)
  | succ fu ih => intro l0 l2 M h; exact tbX4_findLeastSizes_93  (fun h => ih h) F h
theorem tbX4_findLeastSizes_32 {E : En} {p : Program} {l : Launch} {e : Env} {s : State} {m : MethodId} {args : Array Value} {below : List Frame} {meth : Method} {c : Code} {q : Int × Mem} {k16 : Int → Int → Int → Mem → Option (Int × Mem)} {k24 : Int → Int → Int → Int → Mem → Option (Int × Mem)} (hk16 : ∀ {l0 l1 l2 : Int} {M : Mem}, k16 l0 l1 l2 M = some q → G E p l e (rmOf 101 0 0) s m args below meth c 5 (QZ E below args s (rmOf 101 0 0) none q.2) 0 0 M 16 [(0, vR l0), (1, vI l1), (2, vI l2)] []) (hk24 : ∀ {l0 l1 l2 l3 : Int} {M : Mem}, k24 l0 l1 l2 l3 M = some q → G E p l e (rmOf 101 0 0) s m args below meth c 5 (QZ E below args s (rmOf 101 0 0) none q.2) 0 0 M 24 [(0, vR l0), (1, vI l1), (2, vI l2), (3, vI l3)] []) {k32 : Int → Int → Int → Int → Int → Mem → Option (Int × Mem)} (hk32 : ∀ {l0 l1 l2 l3 l4 : Int} {M : Mem}, k32 l0 l1 l2 l3 l4 M = some q → G E p l e (rmOf 101 0 0) s m args below meth c 5 (QZ E below args s (rmOf 101 0 0) none q.2) 0 0 M 32 [(0, vR l0), (1, vI l1), (2, vI l2), (3, vI l3), (4, vI l4)] []) {l0 l1 l2 l3 l4 : Int} {M : Mem} (F : Fx E p s m args meth c cX4_findLeastSizes 5 yX4_findLeastSizes.cls none yX4_findLeastSizes.name) (h : bX4_findLeastSizes_32 k16 k24 k32 l0 l1 l2 l3 l4 M = some q) : G E p l e (rmOf 101 0 0) s m args below meth c 5 (QZ E below args s (rmOf 101 0 0) none q.2) 0 0 M 32 [(0, vR l0), (1, vI l1), (2, vI l2), (3, vI l3), (4, vI l4)] [] := by
  unfold bX4_findLeastSizes_32 at h
  refine r_iload (j := 4) F rfl dX4_findLeastSizes_32 ?_
  refine r_iconst F rfl dX4_findLeastSizes_34 ?_
  refine r_icmp_gt (tgt := 79) F (by decide) dX4_findLeastSizes_35 (fun hc => ?_) (fun hc => ?_)
  · replace h := ite_p h hc
    refine r_iinc (j := 3) (ls' := [(3, vI (wI (l3 + 1))), (0, vR l0), (1, vI l1), (2, vI l2), (4, vI l4)]) F rfl (by decide) rfl dX4_findLeastSizes_79 ?_
    refine r_goto (tgt := 24) F (by decide) dX4_findLeastSizes_82 ?_
    refine r_sub [1, 2, 3, 0] (ls' := [(0, vR l0), (1, vI l1), (2, vI l2), (3, vI (wI (l3 + 1)))]) rfl ?_
    exact hk24 h
  · replace h := ite_n h hc
    refine r_aload_n (j := 0) F rfl rfl dX4_findLeastSizes_38 ?_
    refine r_iload_n (j := 3) F rfl rfl dX4_findLeastSizes_39 ?_
    refine r_iload (j := 4) F rfl dX4_findLeastSizes_40 ?_
    refine r_iload_n (j := 2) F rfl rfl dX4_findLeastSizes_42 ?_
    refine r_iload_n (j := 3) F rfl rfl dX4_findLeastSizes_43 ?_
    refine r_isub F dX4_findLeastSizes_44 ?_
    refine r_iload (j := 4) F rfl dX4_findLeastSizes_45 ?_
    refine r_isub F dX4_findLeastSizes_47 ?_
    refine r_iload_n (j := 1) F rfl rfl dX4_findLeastSizes_48 ?_
    replace h := bind_so h
    obtain ⟨_, g49, h⟩ := h
    replace h := bind_so h
    obtain ⟨q49, h49, h⟩ := h
    refine r_callV (as := [vI l3, vI l4, vI (wI ((wI (l2 - l3)) - l4)), vI l1]) (rv := (some (vI q49.1))) (kc := 0) (nc := 0) (tX4_fits h49) clok_4 F (gK_so g49) tw_1121 tw_1123 tw_48 tw_1124 tw_113 ⟨by decide, by decide, show (parseMethodDescriptor yX4_fits.desc).map (fun d => d.parameters.length) = some 4 by decide +kernel⟩ ⟨by decide, by decide⟩ (Nat.le_of_ble_eq_true rfl) dX4_findLeastSizes_49 ?_
    refine r_if_eq (tgt := 73) F (by decide) dX4_findLeastSizes_52 (fun hc => ?_) (fun hc => ?_)
    · replace h := ite_p h hc
      refine r_iinc (j := 4) (ls' := [(4, vI (wI (l4 + 1))), (0, vR l0), (1, vI l1), (2, vI l2), (3, vI l3)]) F rfl (by decide) rfl dX4_findLeastSizes_73 ?_
      refine r_goto (tgt := 32) F (by decide) dX4_findLeastSizes_76 ?_
      refine r_sub [1, 2, 3, 4, 0] (ls' := [(0, vR l0), (1, vI l1), (2, vI l2), (3, vI l3), (4, vI (wI (l4 + 1)))]) rfl ?_
      exact hk32 h
    · replace h := ite_n h hc
      refine r_aload_n (j := 0) F rfl rfl dX4_findLeastSizes_55 ?_
      replace h := bind_so h
      obtain ⟨a56, h56, h⟩ := h
      refine r_getT (t := 2) rfl clok_4 F (by decide) h56 tw_376 dX4_findLeastSizes_56 ?_
      replace h := bind_so h
      obtain ⟨a59, h59, h⟩ := h
      refine r_getT (t := 2) rfl clok_3 F (by decide) h59 tw_159 dX4_findLeastSizes_59 ?_
      refine r_iconst F rfl dX4_findLeastSizes_62 ?_
      refine r_aload_n (j := 0) F rfl rfl dX4_findLeastSizes_63 ?_
      replace h := bind_so h
      obtain ⟨a64, h64, h⟩ := h
      refine r_getT (t := 2) rfl clok_4 F (by decide) h64 tw_377 dX4_findLeastSizes_64 ?_
      refine r_iconst F rfl dX4_findLeastSizes_67 ?_
      refine r_iconst F rfl dX4_findLeastSizes_68 ?_
      replace h := bind_so h
      obtain ⟨M69, h69, h⟩ := h
      refine r_copyi F h69 tw_1126 tw_931 tw_930 tw_128 ⟨by decide, by decide⟩ (Nat.le_of_ble_eq_true rfl) dX4_findLeastSizes_69 ?_
      obtain rfl := Option.some.inj h
      exact r_vret F dX4_findLeastSizes_72
theorem tX4_findLeastSizes_32 {E : En} {p : Program} {l : Launch} {e : Env} {s : State} {m : MethodId} {args : Array Value} {below : List Frame} {meth : Method} {c : Code} {q : Int × Mem} {k16 : Int → Int → Int → Mem → Option (Int × Mem)} {k24 : Int → Int → Int → Int → Mem → Option (Int × Mem)} (hk16 : ∀ {l0 l1 l2 : Int} {M : Mem}, k16 l0 l1 l2 M = some q → G E p l e (rmOf 101 0 0) s m args below meth c 5 (QZ E below args s (rmOf 101 0 0) none q.2) 0 0 M 16 [(0, vR l0), (1, vI l1), (2, vI l2)] []) (hk24 : ∀ {l0 l1 l2 l3 : Int} {M : Mem}, k24 l0 l1 l2 l3 M = some q → G E p l e (rmOf 101 0 0) s m args below meth c 5 (QZ E below args s (rmOf 101 0 0) none q.2) 0 0 M 24 [(0, vR l0), (1, vI l1), (2, vI l2), (3, vI l3)] []) (F : Fx E p s m args meth c cX4_findLeastSizes 5 yX4_findLeastSizes.cls none yX4_findLeastSizes.name) : ∀ {fu : Nat} {l0 l1 l2 l3 l4 : Int} {M : Mem}, mX4_findLeastSizes_32 k16 k24 fu l0 l1 l2 l3 l4 M = some q → G E p l e (rmOf 101 0 0) s m args below meth c 5 (QZ E below args s (rmOf 101 0 0) none q.2) 0 0 M 32 [(0, vR l0), (1, vI l1), (2, vI l2), (3, vI l3), (4, vI l4)] [] := by
  intro fu
  induction fu with
  | zero => intro l0 l1 l2 l3 l4 M h; exact nomatch (show (none : Option (Int × Mem)) = some q from h)
  | succ fu ih => intro l0 l1 l2 l3 l4 M h; exact tbX4_findLeastSizes_32 (fun h => hk16 h) (fun h => hk24 h) (fun h => ih h) F h
theorem tbX4_findLeastSizes_24 {E : En} {p : Program} {l : Launch} {e : Env} {s : State} {m : MethodId} {args : Array Value} {below : List Frame} {meth : Method} {c : Code} {q : Int × Mem} {k16 : Int → Int → Int → Mem → Option (Int × Mem)} (hk16 : ∀ {l0 l1 l2 : Int} {M : Mem}, k16 l0 l1 l2 M = some q → G E p l e (rmOf 101 0 0) s m args below meth c 5 (QZ E below args s (rmOf 101 0 0) none q.2) 0 0 M 16 [(0, vR l0), (1, vI l1), (2, vI l2)] []) {k24 : Int → Int → Int → Int → Mem → Option (Int × Mem)} (hk24 : ∀ {l0 l1 l2 l3 : Int} {M : Mem}, k24 l0 l1 l2 l3 M = some q → G E p l e (rmOf 101 0 0) s m args below meth c 5 (QZ E below args s (rmOf 101 0 0) none q.2) 0 0 M 24 [(0, vR l0), (1, vI l1), (2, vI l2), (3, vI l3)] []) {l0 l1 l2 l3 : Int} {M : Mem} (F : Fx E p s m args meth c cX4_findLeastSizes 5 yX4_findLeastSizes.cls none yX4_findLeastSizes.name) (h : bX4_findLeastSizes_24 k16 k24 l0 l1 l2 l3 M = some q) : G E p l e (rmOf 101 0 0) s m args below meth c 5 (QZ E below args s (rmOf 101 0 0) none q.2) 0 0 M 24 [(0, vR l0), (1, vI l1), (2, vI l2), (3, vI l3)] [] := by
  unfold bX4_findLeastSizes_24 at h
  refine r_iload_n (j := 3) F rfl rfl dX4_findLeastSizes_24 ?_
  refine r_iconst F rfl dX4_findLeastSizes_25 ?_
  refine r_icmp_gt (tgt := 85) F (by decide) dX4_findLeastSizes_26 (fun hc => ?_) (fun hc => ?_)
  · replace h := ite_p h hc
    refine r_iinc (j := 2) (ls' := [(2, vI (wI (l2 + 1))), (0, vR l0), (1, vI l1), (3, vI l3)]) F rfl (by decide) rfl dX4_findLeastSizes_85 ?_
    refine r_goto (tgt := 16) F (by decide) dX4_findLeastSizes_88 ?_
    refine r_sub [1, 2, 0] (ls' := [(0, vR l0), (1, vI l1), (2, vI (wI (l2 + 1)))]) rfl ?_
    exact hk16 h
  · replace h := ite_n h hc
    refine r_iconst F rfl dX4_findLeastSizes_29 ?_
    refine r_istore (ls' := [(4, vI 1), (0, vR l0), (1, vI l1), (2, vI l2), (3, vI l3)]) F (by decide) rfl dX4_findLeastSizes_30 ?_
    refine r_sub [1, 2, 3, 4, 0] (ls' := [(0, vR l0), (1, vI l1), (2, vI l2), (3, vI l3), (4, vI 1)]) rfl ?_
    exact tX4_findLeastSizes_32 (fun h => hk16 h) (fun h => hk24 h) F h
theorem tX4_findLeastSizes_24 {E : En} {p : Program} {l : Launch} {e : Env} {s : State} {m : MethodId} {args : Array Value} {below : List Frame} {meth : Method} {c : Code} {q : Int × Mem} {k16 : Int → Int → Int → Mem → Option (Int × Mem)} (hk16 : ∀ {l0 l1 l2 : Int} {M : Mem}, k16 l0 l1 l2 M = some q → G E p l e (rmOf 101 0 0) s m args below meth c 5 (QZ E below args s (rmOf 101 0 0) none q.2) 0 0 M 16 [(0, vR l0), (1, vI l1), (2, vI l2)] []) (F : Fx E p s m args meth c cX4_findLeastSizes 5 yX4_findLeastSizes.cls none yX4_findLeastSizes.name) : ∀ {fu : Nat} {l0 l1 l2 l3 : Int} {M : Mem}, mX4_findLeastSizes_24 k16 fu l0 l1 l2 l3 M = some q → G E p l e (rmOf 101 0 0) s m args below meth c 5 (QZ E below args s (rmOf 101 0 0) none q.2) 0 0 M 24 [(0, vR l0), (1, vI l1), (2, vI l2), (3, vI l3)] [] := by
  intro fu
  induction fu with
  | zero => intro l0 l1 l2 l3 M h; exact nomatch (show (none : Option (Int × Mem)) = some q from h)
  | succ fu ih => intro l0 l1 l2 l3 M h; exact tbX4_findLeastSizes_24 (fun h => hk16 h) (fun h => ih h) F h
theorem tbX4_findLeastSizes_16 {E : En} {p : Program} {l : Launch} {e : Env} {s : State} {m : MethodId} {args : Array Value} {below : List Frame} {meth : Method} {c : Code} {q : Int × Mem} {k16 : Int → Int → Int → Mem → Option (Int × Mem)} (hk16 : ∀ {l0 l1 l2 : Int} {M : Mem}, k16 l0 l1 l2 M = some q → G E p l e (rmOf 101 0 0) s m args below meth c 5 (QZ E below args s (rmOf 101 0 0) none q.2) 0 0 M 16 [(0, vR l0), (1, vI l1), (2, vI l2)] []) {l0 l1 l2 : Int} {M : Mem} (F : Fx E p s m args meth c cX4_findLeastSizes 5 yX4_findLeastSizes.cls none yX4_findLeastSizes.name) (h : bX4_findLeastSizes_16 k16 l0 l1 l2 M = some q) : G E p l e (rmOf 101 0 0) s m args below meth c 5 (QZ E below args s (rmOf 101 0 0) none q.2) 0 0 M 16 [(0, vR l0), (1, vI l1), (2, vI l2)] [] := by
  unfold bX4_findLeastSizes_16 at h
  refine r_iload_n (j := 2) F rfl rfl dX4_findLeastSizes_16 ?_
  refine r_bipush F rfl (by decide) dX4_findLeastSizes_17 ?_
  refine r_icmp_gt (tgt := 91) F (by decide) dX4_findLeastSizes_19 (fun hc => ?_) (fun hc => ?_)
  · replace h := ite_p h hc
    refine r_iconst F rfl dX4_findLeastSizes_91 ?_
    refine r_istore_n (ls' := [(2, vI 0), (0, vR l0), (1, vI l1)]) F rfl (by decide) rfl dX4_findLeastSizes_92 ?_
    refine r_sub [1, 0] (ls' := [(0, vR l0), (2, vI 0)]) rfl ?_
    exact tX4_findLeastSizes_93 F h
  · replace h := ite_n h hc
    refine r_iconst F rfl dX4_findLeastSizes_22 ?_
    refine r_istore_n (ls' := [(3, vI 1), (0, vR l0), (1, vI l1), (2, vI l2)]) F rfl (by decide) rfl dX4_findLeastSizes_23 ?_
    refine r_sub [1, 2, 3, 0] (ls' := [(0, vR l0), (1, vI l1), (2, vI l2), (3, vI 1)]) rfl ?_
    exact tX4_findLeastSizes_24 (fun h => hk16 h) F h
theorem tX4_findLeastSizes_16 {E : En} {p : Program} {l : Launch} {e : Env} {s : State} {m : MethodId} {args : Array Value} {below : List Frame} {meth : Method} {c : Code} {q : Int × Mem} (F : Fx E p s m args meth c cX4_findLeastSizes 5 yX4_findLeastSizes.cls none yX4_findLeastSizes.name) : ∀ {fu : Nat} {l0 l1 l2 : Int} {M : Mem}, mX4_findLeastSizes_16 fu l0 l1 l2 M = some q → G E p l e (rmOf 101 0 0) s m args below meth c 5 (QZ E below args s (rmOf 101 0 0) none q.2) 0 0 M 16 [(0, vR l0), (1, vI l1), (2, vI l2)] [] := by
  intro fu
  induction fu with
  | zero => intro l0 l1 l2 M h; exact nomatch (show (none : Option (Int × Mem)) = some q from h)
  | succ fu ih => intro l0 l1 l2 M h; exact tbX4_findLeastSizes_16  (fun h => ih h) F h
theorem tX4_findLeastSizes {l0 l1 : Int} {M : Mem} {q : Int × Mem} (h : mX4_findLeastSizes l0 l1 M = some q) : Ct 101 0 0 yX4_findLeastSizes cX4_findLeastSizes 5 none [vR l0, vI l1] M none q.2 := by
  unfold mX4_findLeastSizes at h
  refine Ct.of (by decide) (Nat.le_of_ble_eq_true rfl) ?_
  intro E p l e s m args below meth c F
  refine r_sub [0, 1] (ls' := [(0, vR l0), (1, vI l1)]) rfl ?_
  refine r_aload_n (j := 0) F rfl rfl dX4_findLeastSizes_0 ?_
  replace h := bind_so h
  obtain ⟨a1, h1, h⟩ := h
  refine r_getT (t := 2) rfl clok_4 F (by decide) h1 tw_376 dX4_findLeastSizes_1 ?_
  refine r_aload_n (j := 0) F rfl rfl dX4_findLeastSizes_4 ?_
  replace h := bind_so h
  obtain ⟨a5, h5, h⟩ := h
  refine r_getT (t := 2) rfl clok_4 F (by decide) h5 tw_366 dX4_findLeastSizes_5 ?_
  replace h := bind_so h
  obtain ⟨a8, h8, h⟩ := h
  refine r_getT (t := 2) rfl clok_6 F (by decide) h8 tw_209 dX4_findLeastSizes_8 ?_
  replace h := bind_so h
  obtain ⟨_, g11, h⟩ := h
  replace h := bind_so h
  obtain ⟨q11, h11, h⟩ := h
  refine r_callV (as := [vR a8]) (rv := none) (kc := 0) (nc := 0) (tX3_copy h11) clok_3 F (gK_so g11) tw_1116 tw_1117 tw_1118 tw_1119 tw_115 ⟨by decide, by decide, show (parseMethodDescriptor yX3_copy.desc).map (fun d => d.parameters.length) = some 1 by decide +kernel⟩ ⟨by decide, by decide⟩ (Nat.le_of_ble_eq_true rfl) dX4_findLeastSizes_11 ?_
  refine r_iconst F rfl dX4_findLeastSizes_14 ?_
  refine r_istore_n (ls' := [(2, vI 3), (0, vR l0), (1, vI l1)]) F rfl (by decide) rfl dX4_findLeastSizes_15 ?_
  refine r_sub [1, 2, 0] (ls' := [(0, vR l0), (1, vI l1), (2, vI 3)]) rfl ?_
  exact tX4_findLeastSizes_16 F h
theorem tX4_leastSize_26 {E : En} {p : Program} {l : Launch} {e : Env} {s : State} {m : MethodId} {args : Array Value} {below : List Frame} {meth : Method} {c : Code} {q : Int × Mem} {l0 l1 : Int} {M : Mem} (F : Fx E p s m args meth c cX4_leastSize 3 yX4_leastSize.cls (some FieldType.int) yX4_leastSize.name) (h : mX4_leastSize_26 l0 l1 M = some q) : G E p l e (rmOf 102 0 0) s m args below meth c 3 (QZ E below args s (rmOf 102 0 0) (some (vI q.1)) q.2) 0 0 M 26 [(0, vR l0), (1, vI l1)] [] := by
  unfold mX4_leastSize_26 at h
  refine r_aload_n (j := 0) F rfl rfl dX4_leastSize_26 ?_
  replace h := bind_so h
  obtain ⟨a27, h27, h⟩ := h
  refine r_getT (t := 2) rfl clok_4 F (by decide) h27 tw_377 dX4_leastSize_27 ?_
  refine r_iload_n (j := 1) F rfl rfl dX4_leastSize_30 ?_
  replace h := bind_so h
  obtain ⟨a31, h31, h⟩ := h
  refine r_iald F h31 dX4_leastSize_31 ?_
  obtain rfl := Option.some.inj h
  exact r_iret F dX4_leastSize_32
theorem tX4_leastSize {l0 l1 : Int} {M : Mem} {q : Int × Mem} (h : mX4_leastSize l0 l1 M = some q) : Ct 102 0 0 yX4_leastSize cX4_leastSize 3 (some FieldType.int) [vR l0, vI l1] M (some (vI q.1)) q.2 := by
  unfold mX4_leastSize at h
  refine Ct.of (by decide) (Nat.le_of_ble_eq_true rfl) ?_
  intro E p l e s m args below meth c F
  refine r_sub [0, 1] (ls' := [(0, vR l0), (1, vI l1)]) rfl ?_
  refine r_aload_n (j := 0) F rfl rfl dX4_leastSize_0 ?_
  replace h := bind_so h
  obtain ⟨a1, h1, h⟩ := h
  refine r_getT (t := 2) rfl clok_4 F (by decide) h1 tw_366 dX4_leastSize_1 ?_
  replace h := bind_so h
  obtain ⟨_, g4, h⟩ := h
  replace h := bind_so h
  obtain ⟨q4, h4, h⟩ := h
  refine r_callV (as := []) (rv := (some (vI q4.1))) (kc := 0) (nc := 0) (tX6_viewedStories h4) clok_6 F (gK_so g4) tw_1008 tw_1009 tw_1010 tw_1011 tw_114 ⟨by decide, by decide, show (parseMethodDescriptor yX6_viewedStories.desc).map (fun d => d.parameters.length) = some 0 by decide +kernel⟩ ⟨by decide, by decide⟩ (Nat.le_of_ble_eq_true rfl) dX4_leastSize_4 ?_
  refine r_istore_n (ls' := [(2, vI q4.1), (0, vR l0), (1, vI l1)]) F rfl (by decide) rfl dX4_leastSize_7 ?_
  refine r_aload_n (j := 1) F rfl rfl dX4_leastSize_8 ?_
  replace h := bind_so h
  obtain ⟨a9, h9, h⟩ := h
  refine r_getT (t := 0) rfl clok_4 F (by decide) h9 tw_378 dX4_leastSize_9 ?_
  refine r_iload_n (j := 0) F rfl rfl dX4_leastSize_12 ?_
  refine r_icmp_eq (tgt := 26) F (by decide) dX4_leastSize_13 (fun hc => ?_) (fun hc => ?_)
  · replace h := ite_p h hc
    refine r_sub [1, 2] (ls' := [(0, vR l0), (1, vI l1)]) rfl ?_
    exact tX4_leastSize_26 F h
  · replace h := ite_n h hc
    refine r_aload_n (j := 1) F rfl rfl dX4_leastSize_16 ?_
    refine r_iload_n (j := 0) F rfl rfl dX4_leastSize_17 ?_
    replace h := bind_so h
    obtain ⟨_, g18, h⟩ := h
    replace h := bind_so h
    obtain ⟨q18, h18, h⟩ := h
    refine r_callV (as := [vI q4.1]) (rv := none) (kc := 0) (nc := 0) (tX4_findLeastSizes h18) clok_4 F (gK_so g18) tw_1112 tw_1114 tw_47 tw_1115 tw_113 ⟨by decide, by decide, show (parseMethodDescriptor yX4_findLeastSizes.desc).map (fun d => d.parameters.length) = some 1 by decide +kernel⟩ ⟨by decide, by decide⟩ (Nat.le_of_ble_eq_true rfl) dX4_leastSize_18 ?_
    refine r_aload_n (j := 1) F rfl rfl dX4_leastSize_21 ?_
    refine r_iload_n (j := 0) F rfl rfl dX4_leastSize_22 ?_
    replace h := bind_so h
    obtain ⟨M23, h23, h⟩ := h
    refine r_put clok_4 F (by decide) rfl (by decide) (by decide) h23 tw_378 dX4_leastSize_23 ?_
    refine r_sub [1, 2] (ls' := [(0, vR l0), (1, vI l1)]) rfl ?_
    exact tX4_leastSize_26 F h
theorem tbX7_isNothing_2 {E : En} {p : Program} {l : Launch} {e : Env} {s : State} {m : MethodId} {args : Array Value} {below : List Frame} {meth : Method} {c : Code} {q : Int × Mem} {k2 : Int → Int → Mem → Option (Int × Mem)} (hk2 : ∀ {l0 l1 : Int} {M : Mem}, k2 l0 l1 M = some q → G E p l e (rmOf 0 0 0) s m args below meth c 2 (QZ E below args s (rmOf 0 0 0) (some (vI q.1)) q.2) 0 0 M 2 [(0, vR l0), (1, vI l1)] []) {l0 l1 : Int} {M : Mem} (F : Fx E p s m args meth c cX7_isNothing 2 yX7_isNothing.cls (some FieldType.boolean) yX7_isNothing.name) (h : bX7_isNothing_2 k2 l0 l1 M = some q) : G E p l e (rmOf 0 0 0) s m args below meth c 2 (QZ E below args s (rmOf 0 0 0) (some (vI q.1)) q.2) 0 0 M 2 [(0, vR l0), (1, vI l1)] [] := by
  unfold bX7_isNothing_2 at h
  refine r_iload_n (j := 1) F rfl rfl dX7_isNothing_2 ?_
  refine r_aload_n (j := 0) F rfl rfl dX7_isNothing_3 ?_
  replace h := bind_so h
  obtain ⟨a4, h4, h⟩ := h
  refine r_getT (t := 0) rfl clok_7 F (by decide) h4 tw_327 dX7_isNothing_4 ?_
  refine r_icmp_ge (tgt := 29) F (by decide) dX7_isNothing_7 (fun hc => ?_) (fun hc => ?_)
  · replace h := ite_p h hc
    refine r_iconst F rfl dX7_isNothing_29 ?_
    obtain rfl := Option.some.inj h
    exact r_zret (Or.inr rfl) F dX7_isNothing_30
  · replace h := ite_n h hc
    refine r_aload_n (j := 0) F rfl rfl dX7_isNothing_10 ?_
    replace h := bind_so h
    obtain ⟨a11, h11, h⟩ := h
    refine r_getT (t := 2) rfl clok_7 F (by decide) h11 tw_325 dX7_isNothing_11 ?_
    refine r_iload_n (j := 1) F rfl rfl dX7_isNothing_14 ?_
    replace h := bind_so h
    obtain ⟨a15, h15, h⟩ := h
    refine r_lald F h15 dX7_isNothing_15 ?_
    refine r_lconst F dX7_isNothing_16 ?_
    refine r_eq (y := 0) rfl ?_
    refine r_lcmp F dX7_isNothing_17 ?_
    refine r_if_eq (tgt := 23) F (by decide) dX7_isNothing_18 (fun hc => ?_) (fun hc => ?_)
    · replace h := ite_p h hc
      refine r_iinc (j := 1) (ls' := [(1, vI (wI (l1 + 1))), (0, vR l0)]) F rfl (by decide) rfl dX7_isNothing_23 ?_
      refine r_goto (tgt := 2) F (by decide) dX7_isNothing_26 ?_
      refine r_sub [1, 0] (ls' := [(0, vR l0), (1, vI (wI (l1 + 1)))]) rfl ?_
      exact hk2 h
    · replace h := ite_n h hc
      refine r_iconst F rfl dX7_isNothing_21 ?_
      obtain rfl := Option.some.inj h
      exact r_zret (Or.inl rfl) F dX7_isNothing_22
theorem tX7_isNothing_2 {E : En} {p : Program} {l : Launch} {e : Env} {s : State} {m : MethodId} {args : Array Value} {below : List Frame} {meth : Method} {c : Code} {q : Int × Mem} (F : Fx E p s m args meth c cX7_isNothing 2 yX7_isNothing.cls (some FieldType.boolean) yX7_isNothing.name) : ∀ {fu : Nat} {l0 l1 : Int} {M : Mem}, mX7_isNothing_2 fu l0 l1 M = some q → G E p l e (rmOf 0 0 0) s m args below meth c 2 (QZ E below args s (rmOf 0 0 0) (some (vI q.1)) q.2) 0 0 M 2 [(0, vR l0), (1, vI l1)] [] := by
  intro fu
  induction fu with
  | zero => intro l0 l1 M h; exact nomatch (show (none : Option (Int × Mem)) = some q from h)
  | succ fu ih => intro l0 l1 M h; exact tbX7_isNothing_2  (fun h => ih h) F h
theorem tX7_isNothing {l0 : Int} {M : Mem} {q : Int × Mem} (h : mX7_isNothing l0 M = some q) : Ct 0 0 0 yX7_isNothing cX7_isNothing 2 (some FieldType.boolean) [vR l0] M (some (vI q.1)) q.2 := by
  unfold mX7_isNothing at h
  refine Ct.of (by decide) (Nat.le_of_ble_eq_true rfl) ?_
  intro E p l e s m args below meth c F
  refine r_sub [0] (ls' := [(0, vR l0)]) rfl ?_
  refine r_iconst F rfl dX7_isNothing_0 ?_
  refine r_istore_n (ls' := [(1, vI 0), (0, vR l0)]) F rfl (by decide) rfl dX7_isNothing_1 ?_
  refine r_sub [1, 0] (ls' := [(0, vR l0), (1, vI 0)]) rfl ?_
  exact tX7_isNothing_2 F h
theorem tX4_isBefore_35 {E : En} {p : Program} {l : Launch} {e : Env} {s : State} {m : MethodId} {args : Array Value} {below : List Frame} {meth : Method} {c : Code} {q : Int × Mem} {M : Mem} (F : Fx E p s m args meth c cX4_isBefore 5 yX4_isBefore.cls (some FieldType.boolean) yX4_isBefore.name) (h : mX4_isBefore_35  M = some q) : G E p l e (rmOf 1 0 0) s m args below meth c 5 (QZ E below args s (rmOf 1 0 0) (some (vI q.1)) q.2) 0 0 M 35 [] [] := by
  unfold mX4_isBefore_35 at h
  refine r_iconst F rfl dX4_isBefore_35 ?_
  refine r_goto (tgt := 40) F (by decide) dX4_isBefore_36 ?_
  obtain rfl := Option.some.inj h
  exact r_zret (Or.inr rfl) F dX4_isBefore_40
theorem tX4_isBefore {l0 l1 : Int} {M : Mem} {q : Int × Mem} (h : mX4_isBefore l0 l1 M = some q) : Ct 1 0 0 yX4_isBefore cX4_isBefore 5 (some FieldType.boolean) [vI l0, vI l1] M (some (vI q.1)) q.2 := by
  unfold mX4_isBefore at h
  refine Ct.of (by decide) (Nat.le_of_ble_eq_true rfl) ?_
  intro E p l e s m args below meth c F
  refine r_sub [0, 1] (ls' := [(0, vI l0), (1, vI l1)]) rfl ?_
  refine r_iload_n (j := 0) F rfl rfl dX4_isBefore_0 ?_
  replace h := bind_so h
  obtain ⟨q1, h1, h⟩ := h
  refine r_callS (as := [vI l0]) (rv := (some (vI q1.1))) (kc := 0) (nc := 0) (tJ6_bitCount_0f7a4 h1) F tw_1146 tw_627 tw_628 tw_123 ⟨by decide, by decide, show (parseMethodDescriptor yJ6_bitCount_0f7a4.desc).map (fun d => d.parameters.length) = some 1 by decide +kernel⟩ ⟨by decide, by decide⟩ (Nat.le_of_ble_eq_true rfl) dX4_isBefore_1 ?_
  refine r_iload_n (j := 1) F rfl rfl dX4_isBefore_4 ?_
  replace h := bind_so h
  obtain ⟨q5, h5, h⟩ := h
  refine r_callS (as := [vI l1]) (rv := (some (vI q5.1))) (kc := 0) (nc := 0) (tJ6_bitCount_0f7a4 h5) F tw_1146 tw_627 tw_628 tw_123 ⟨by decide, by decide, show (parseMethodDescriptor yJ6_bitCount_0f7a4.desc).map (fun d => d.parameters.length) = some 1 by decide +kernel⟩ ⟨by decide, by decide⟩ (Nat.le_of_ble_eq_true rfl) dX4_isBefore_5 ?_
  refine r_isub F dX4_isBefore_8 ?_
  refine r_istore_n (ls' := [(2, vI (wI (q1.1 - q5.1))), (0, vI l0), (1, vI l1)]) F rfl (by decide) rfl dX4_isBefore_9 ?_
  refine r_iload_n (j := 1) F rfl rfl dX4_isBefore_10 ?_
  refine r_iload_n (j := 2) F rfl rfl dX4_isBefore_11 ?_
  refine r_ixor F dX4_isBefore_12 ?_
  refine r_istore_n (ls' := [(3, vI (ixor l0 l1)), (2, vI (wI (q1.1 - q5.1))), (0, vI l0), (1, vI l1)]) F rfl (by decide) rfl dX4_isBefore_13 ?_
  refine r_iload_n (j := 0) F rfl rfl dX4_isBefore_14 ?_
  refine r_iload_n (j := 0) F rfl rfl dX4_isBefore_15 ?_
  refine r_ineg F dX4_isBefore_16 ?_
  refine r_iand F dX4_isBefore_17 ?_
  replace h := bind_so h
  obtain ⟨b18, e18, h⟩ := h
  refine r_eq (y := b18) (Option.some.inj e18) ?_
  refine r_istore (ls' := [(4, vI b18), (3, vI (ixor l0 l1)), (2, vI (wI (q1.1 - q5.1))), (0, vI l0), (1, vI l1)]) F (by decide) rfl dX4_isBefore_18 ?_
  refine r_iload_n (j := 2) F rfl rfl dX4_isBefore_20 ?_
  refine r_if_lt (tgt := 35) F (by decide) dX4_isBefore_21 (fun hc => ?_) (fun hc => ?_)
  · replace h := ite_p h hc
    refine r_sub [] (ls' := []) rfl ?_
    exact tX4_isBefore_35 F h
  · replace h := ite_n h hc
    refine r_iload_n (j := 2) F rfl rfl dX4_isBefore_24 ?_
    refine r_if_ne (tgt := 39) F (by decide) dX4_isBefore_25 (fun hc => ?_) (fun hc => ?_)
    · replace h := ite_n h hc
      refine r_iconst F rfl dX4_isBefore_39 ?_
      obtain rfl := Option.some.inj h
      exact r_zret (Or.inl rfl) F dX4_isBefore_40
    · replace h := ite_p h hc
      refine r_iload_n (j := 3) F rfl rfl dX4_isBefore_28 ?_
      refine r_iload (j := 0) F rfl dX4_isBefore_29 ?_
      refine r_iand F dX4_isBefore_31 ?_
      refine r_if_eq (tgt := 39) F (by decide) dX4_isBefore_32 (fun hc => ?_) (fun hc => ?_)
      · replace h := ite_p h hc
        refine r_iconst F rfl dX4_isBefore_39 ?_
        obtain rfl := Option.some.inj h
        exact r_zret (Or.inl rfl) F dX4_isBefore_40
      · replace h := ite_n h hc
        refine r_sub [] (ls' := []) rfl ?_
        exact tX4_isBefore_35 F h
theorem tX4_leavesNothing_54 {E : En} {p : Program} {l : Launch} {e : Env} {s : State} {m : MethodId} {args : Array Value} {below : List Frame} {meth : Method} {c : Code} {q : Int × Mem} {k2 : Int → Int → Int → Int → Mem → Option (Int × Mem)} {k21 : Int → Int → Int → Int → Int → Int → Mem → Option (Int × Mem)} (hk2 : ∀ {l0 l1 l2 l3 : Int} {M : Mem}, k2 l0 l1 l2 l3 M = some q → G E p l e (rmOf 1 0 0) s m args below meth c 7 (QZ E below args s (rmOf 1 0 0) (some (vI q.1)) q.2) 0 0 M 2 [(0, vR l0), (1, vR l1), (2, vI l2), (3, vI l3)] []) (hk21 : ∀ {l0 l1 l2 l3 l4 l6 : Int} {M : Mem}, k21 l0 l1 l2 l3 l4 l6 M = some q → G E p l e (rmOf 1 0 0) s m args below meth c 7 (QZ E below args s (rmOf 1 0 0) (some (vI q.1)) q.2) 0 0 M 21 [(0, vR l0), (1, vR l1), (2, vI l2), (3, vI l3), (4, vL l4), (6, vI l6)] []) {l0 l1 l2 l3 l4 l6 : Int} {M : Mem} (F : Fx E p s m args meth c cX4_leavesNothing 7 yX4_leavesNothing.cls (some FieldType.boolean) yX4_leavesNothing.name) (h : mX4_leavesNothing_54 k2 k21 l0 l1 l2 l3 l4 l6 M = some q) : G E p l e (rmOf 1 0 0) s m args below meth c 7 (QZ E below args s (rmOf 1 0 0) (some (vI q.1)) q.2) 0 0 M 54 [(0, vR l0), (1, vR l1), (2, vI l2), (3, vI l3), (4, vL l4), (6, vI l6)] [] := by
  unfold mX4_leavesNothing_54 at h
  refine r_iinc (j := 5) (ls' := [(6, vI (wI (l6 + 1))), (0, vR l0), (1, vR l1), (2, vI l2), (3, vI l3), (4, vL l4)]) F rfl (by decide) rfl dX4_leavesNothing_54 ?_
  refine r_goto (tgt := 21) F (by decide) dX4_leavesNothing_57 ?_
  refine r_sub [1, 2, 3, 4, 5, 0] (ls' := [(0, vR l0), (1, vR l1), (2, vI l2), (3, vI l3), (4, vL l4), (6, vI (wI (l6 + 1)))]) rfl ?_
  exact hk21 h
theorem tbX4_leavesNothing_21 {E : En} {p : Program} {l : Launch} {e : Env} {s : State} {m : MethodId} {args : Array Value} {below : List Frame} {meth : Method} {c : Code} {q : Int × Mem} {k2 : Int → Int → Int → Int → Mem → Option (Int × Mem)} (hk2 : ∀ {l0 l1 l2 l3 : Int} {M : Mem}, k2 l0 l1 l2 l3 M = some q → G E p l e (rmOf 1 0 0) s m args below meth c 7 (QZ E below args s (rmOf 1 0 0) (some (vI q.1)) q.2) 0 0 M 2 [(0, vR l0), (1, vR l1), (2, vI l2), (3, vI l3)] []) {k21 : Int → Int → Int → Int → Int → Int → Mem → Option (Int × Mem)} (hk21 : ∀ {l0 l1 l2 l3 l4 l6 : Int} {M : Mem}, k21 l0 l1 l2 l3 l4 l6 M = some q → G E p l e (rmOf 1 0 0) s m args below meth c 7 (QZ E below args s (rmOf 1 0 0) (some (vI q.1)) q.2) 0 0 M 21 [(0, vR l0), (1, vR l1), (2, vI l2), (3, vI l3), (4, vL l4), (6, vI l6)] []) {l0 l1 l2 l3 l4 l6 : Int} {M : Mem} (F : Fx E p s m args meth c cX4_leavesNothing 7 yX4_leavesNothing.cls (some FieldType.boolean) yX4_leavesNothing.name) (h : bX4_leavesNothing_21 k2 k21 l0 l1 l2 l3 l4 l6 M = some q) : G E p l e (rmOf 1 0 0) s m args below meth c 7 (QZ E below args s (rmOf 1 0 0) (some (vI q.1)) q.2) 0 0 M 21 [(0, vR l0), (1, vR l1), (2, vI l2), (3, vI l3), (4, vL l4), (6, vI l6)] [] := by
  unfold bX4_leavesNothing_21 at h
  refine r_iload (j := 5) F rfl dX4_leavesNothing_21 ?_
  refine r_bipush F rfl (by decide) dX4_leavesNothing_23 ?_
  refine r_icmp_ge (tgt := 60) F (by decide) dX4_leavesNothing_25 (fun hc => ?_) (fun hc => ?_)
  · replace h := ite_p h hc
    refine r_lload (j := 4) F rfl dX4_leavesNothing_60 ?_
    refine r_lconst F dX4_leavesNothing_62 ?_
    refine r_eq (y := 0) rfl ?_
    refine r_lcmp F dX4_leavesNothing_63 ?_
    refine r_if_eq (tgt := 69) F (by decide) dX4_leavesNothing_64 (fun hc => ?_) (fun hc => ?_)
    · replace h := ite_p h hc
      refine r_iinc (j := 3) (ls' := [(3, vI (wI (l3 + 1))), (0, vR l0), (1, vR l1), (2, vI l2), (4, vL l4), (6, vI l6)]) F rfl (by decide) rfl dX4_leavesNothing_69 ?_
      refine r_goto (tgt := 2) F (by decide) dX4_leavesNothing_72 ?_
      refine r_sub [1, 2, 3, 0] (ls' := [(0, vR l0), (1, vR l1), (2, vI l2), (3, vI (wI (l3 + 1)))]) rfl ?_
      exact hk2 h
    · replace h := ite_n h hc
      refine r_iconst F rfl dX4_leavesNothing_67 ?_
      obtain rfl := Option.some.inj h
      exact r_zret (Or.inl rfl) F dX4_leavesNothing_68
  · replace h := ite_n h hc
    refine r_iload_n (j := 2) F rfl rfl dX4_leavesNothing_28 ?_
    refine r_iload (j := 5) F rfl dX4_leavesNothing_29 ?_
    refine r_ishr F dX4_leavesNothing_31 ?_
    refine r_iconst F rfl dX4_leavesNothing_32 ?_
    refine r_iand F dX4_leavesNothing_33 ?_
    refine r_if_eq (tgt := 54) F (by decide) dX4_leavesNothing_34 (fun hc => ?_) (fun hc => ?_)
    · replace h := ite_p h hc
      refine r_sub [0, 1, 2, 3, 4, 5] (ls' := [(0, vR l0), (1, vR l1), (2, vI l2), (3, vI l3), (4, vL l4), (6, vI l6)]) rfl ?_
      exact tX4_leavesNothing_54 (fun h => hk2 h) (fun h => hk21 h) F h
    · replace h := ite_n h hc
      refine r_lload (j := 4) F rfl dX4_leavesNothing_37 ?_
      refine r_aload_n (j := 0) F rfl rfl dX4_leavesNothing_39 ?_
      replace h := bind_so h
      obtain ⟨a40, h40, h⟩ := h
      refine r_getT (t := 2) rfl clok_4 F (by decide) h40 tw_371 dX4_leavesNothing_40 ?_
      refine r_iload (j := 5) F rfl dX4_leavesNothing_43 ?_
      replace h := bind_so h
      obtain ⟨a45, h45, h⟩ := h
      refine r_aald16 F h45 dX4_leavesNothing_45 ?_
      replace h := bind_so h
      obtain ⟨a46, h46, h⟩ := h
      refine r_getT (t := 2) rfl clok_7 F (by decide) h46 tw_326 dX4_leavesNothing_46 ?_
      refine r_iload_n (j := 3) F rfl rfl dX4_leavesNothing_49 ?_
      replace h := bind_so h
      obtain ⟨a50, h50, h⟩ := h
      refine r_lald F h50 dX4_leavesNothing_50 ?_
      refine r_land F dX4_leavesNothing_51 ?_
      refine r_lstore (ls' := [(4, vL (land l4 a50)), (0, vR l0), (1, vR l1), (2, vI l2), (3, vI l3), (6, vI l6)]) F (by decide) rfl dX4_leavesNothing_52 ?_
      refine r_sub [1, 2, 3, 4, 0, 5] (ls' := [(0, vR l0), (1, vR l1), (2, vI l2), (3, vI l3), (4, vL (land l4 a50)), (6, vI l6)]) rfl ?_
      exact tX4_leavesNothing_54 (fun h => hk2 h) (fun h => hk21 h) F h
theorem tX4_leavesNothing_21 {E : En} {p : Program} {l : Launch} {e : Env} {s : State} {m : MethodId} {args : Array Value} {below : List Frame} {meth : Method} {c : Code} {q : Int × Mem} {k2 : Int → Int → Int → Int → Mem → Option (Int × Mem)} (hk2 : ∀ {l0 l1 l2 l3 : Int} {M : Mem}, k2 l0 l1 l2 l3 M = some q → G E p l e (rmOf 1 0 0) s m args below meth c 7 (QZ E below args s (rmOf 1 0 0) (some (vI q.1)) q.2) 0 0 M 2 [(0, vR l0), (1, vR l1), (2, vI l2), (3, vI l3)] []) (F : Fx E p s m args meth c cX4_leavesNothing 7 yX4_leavesNothing.cls (some FieldType.boolean) yX4_leavesNothing.name) : ∀ {fu : Nat} {l0 l1 l2 l3 l4 l6 : Int} {M : Mem}, mX4_leavesNothing_21 k2 fu l0 l1 l2 l3 l4 l6 M = some q → G E p l e (rmOf 1 0 0) s m args below meth c 7 (QZ E below args s (rmOf 1 0 0) (some (vI q.1)) q.2) 0 0 M 21 [(0, vR l0), (1, vR l1), (2, vI l2), (3, vI l3), (4, vL l4), (6, vI l6)] [] := by
  intro fu
  induction fu with
  | zero => intro l0 l1 l2 l3 l4 l6 M h; exact nomatch (show (none : Option (Int × Mem)) = some q from h)
  | succ fu ih => intro l0 l1 l2 l3 l4 l6 M h; exact tbX4_leavesNothing_21 (fun h => hk2 h) (fun h => ih h) F h
theorem tbX4_leavesNothing_2 {E : En} {p : Program} {l : Launch} {e : Env} {s : State} {m : MethodId} {args : Array Value} {below : List Frame} {meth : Method} {c : Code} {q : Int × Mem} {k2 : Int → Int → Int → Int → Mem → Option (Int × Mem)} (hk2 : ∀ {l0 l1 l2 l3 : Int} {M : Mem}, k2 l0 l1 l2 l3 M = some q → G E p l e (rmOf 1 0 0) s m args below meth c 7 (QZ E below args s (rmOf 1 0 0) (some (vI q.1)) q.2) 0 0 M 2 [(0, vR l0), (1, vR l1), (2, vI l2), (3, vI l3)] []) {l0 l1 l2 l3 : Int} {M : Mem} (F : Fx E p s m args meth c cX4_leavesNothing 7 yX4_leavesNothing.cls (some FieldType.boolean) yX4_leavesNothing.name) (h : bX4_leavesNothing_2 k2 l0 l1 l2 l3 M = some q) : G E p l e (rmOf 1 0 0) s m args below meth c 7 (QZ E below args s (rmOf 1 0 0) (some (vI q.1)) q.2) 0 0 M 2 [(0, vR l0), (1, vR l1), (2, vI l2), (3, vI l3)] [] := by
  unfold bX4_leavesNothing_2 at h
  refine r_iload_n (j := 3) F rfl rfl dX4_leavesNothing_2 ?_
  refine r_aload_n (j := 1) F rfl rfl dX4_leavesNothing_3 ?_
  replace h := bind_so h
  obtain ⟨_, g4, h⟩ := h
  replace h := bind_so h
  obtain ⟨q4, h4, h⟩ := h
  refine r_callV (as := []) (rv := (some (vI q4.1))) (kc := 0) (nc := 0) (tX7_usedWords h4) clok_7 F (gK_so g4) tw_1017 tw_1018 tw_1019 tw_1020 tw_118 ⟨by decide, by decide, show (parseMethodDescriptor yX7_usedWords.desc).map (fun d => d.parameters.length) = some 0 by decide +kernel⟩ ⟨by decide, by decide⟩ (Nat.le_of_ble_eq_true rfl) dX4_leavesNothing_4 ?_
  refine r_icmp_ge (tgt := 75) F (by decide) dX4_leavesNothing_7 (fun hc => ?_) (fun hc => ?_)
  · replace h := ite_p h hc
    refine r_iconst F rfl dX4_leavesNothing_75 ?_
    obtain rfl := Option.some.inj h
    exact r_zret (Or.inr rfl) F dX4_leavesNothing_76
  · replace h := ite_n h hc
    refine r_aload_n (j := 1) F rfl rfl dX4_leavesNothing_10 ?_
    replace h := bind_so h
    obtain ⟨a11, h11, h⟩ := h
    refine r_getT (t := 2) rfl clok_7 F (by decide) h11 tw_326 dX4_leavesNothing_11 ?_
    refine r_iload_n (j := 3) F rfl rfl dX4_leavesNothing_14 ?_
    replace h := bind_so h
    obtain ⟨a15, h15, h⟩ := h
    refine r_lald F h15 dX4_leavesNothing_15 ?_
    refine r_lstore (ls' := [(4, vL a15), (0, vR l0), (1, vR l1), (2, vI l2), (3, vI l3)]) F (by decide) rfl dX4_leavesNothing_16 ?_
    refine r_iconst F rfl dX4_leavesNothing_18 ?_
    refine r_istore (ls' := [(6, vI 0), (4, vL a15), (0, vR l0), (1, vR l1), (2, vI l2), (3, vI l3)]) F (by decide) rfl dX4_leavesNothing_19 ?_
    refine r_sub [2, 3, 4, 5, 1, 0] (ls' := [(0, vR l0), (1, vR l1), (2, vI l2), (3, vI l3), (4, vL a15), (6, vI 0)]) rfl ?_
    exact tX4_leavesNothing_21 (fun h => hk2 h) F h
theorem tX4_leavesNothing_2 {E : En} {p : Program} {l : Launch} {e : Env} {s : State} {m : MethodId} {args : Array Value} {below : List Frame} {meth : Method} {c : Code} {q : Int × Mem} (F : Fx E p s m args meth c cX4_leavesNothing 7 yX4_leavesNothing.cls (some FieldType.boolean) yX4_leavesNothing.name) : ∀ {fu : Nat} {l0 l1 l2 l3 : Int} {M : Mem}, mX4_leavesNothing_2 fu l0 l1 l2 l3 M = some q → G E p l e (rmOf 1 0 0) s m args below meth c 7 (QZ E below args s (rmOf 1 0 0) (some (vI q.1)) q.2) 0 0 M 2 [(0, vR l0), (1, vR l1), (2, vI l2), (3, vI l3)] [] := by
  intro fu
  induction fu with
  | zero => intro l0 l1 l2 l3 M h; exact nomatch (show (none : Option (Int × Mem)) = some q from h)
  | succ fu ih => intro l0 l1 l2 l3 M h; exact tbX4_leavesNothing_2  (fun h => ih h) F h
theorem tX4_leavesNothing {l0 l1 l2 : Int} {M : Mem} {q : Int × Mem} (h : mX4_leavesNothing l0 l1 l2 M = some q) : Ct 1 0 0 yX4_leavesNothing cX4_leavesNothing 7 (some FieldType.boolean) [vR l0, vR l1, vI l2] M (some (vI q.1)) q.2 := by
  unfold mX4_leavesNothing at h
  refine Ct.of (by decide) (Nat.le_of_ble_eq_true rfl) ?_
  intro E p l e s m args below meth c F
  refine r_sub [0, 1, 2] (ls' := [(0, vR l0), (1, vR l1), (2, vI l2)]) rfl ?_
  refine r_iconst F rfl dX4_leavesNothing_0 ?_
  refine r_istore_n (ls' := [(3, vI 0), (0, vR l0), (1, vR l1), (2, vI l2)]) F rfl (by decide) rfl dX4_leavesNothing_1 ?_
  refine r_sub [1, 2, 3, 0] (ls' := [(0, vR l0), (1, vR l1), (2, vI l2), (3, vI 0)]) rfl ?_
  exact tX4_leavesNothing_2 F h
theorem tX4_fewestAgainst_64 {E : En} {p : Program} {l : Launch} {e : Env} {s : State} {m : MethodId} {args : Array Value} {below : List Frame} {meth : Method} {c : Code} {q : Int × Mem} {k13 : Int → Int → Int → Int → Int → Mem → Option (Int × Mem)} (hk13 : ∀ {l0 l1 l2 l3 l4 : Int} {M : Mem}, k13 l0 l1 l2 l3 l4 M = some q → G E p l e (rmOf 2 0 0) s m args below meth c 6 (QZ E below args s (rmOf 2 0 0) (some (vI q.1)) q.2) 0 0 M 13 [(0, vR l0), (1, vR l1), (2, vI l2), (3, vI l3), (4, vI l4)] []) {l0 l1 l2 l3 l4 : Int} {M : Mem} (F : Fx E p s m args meth c cX4_fewestAgainst 6 yX4_fewestAgainst.cls (some FieldType.int) yX4_fewestAgainst.name) (h : mX4_fewestAgainst_64 k13 l0 l1 l2 l3 l4 M = some q) : G E p l e (rmOf 2 0 0) s m args below meth c 6 (QZ E below args s (rmOf 2 0 0) (some (vI q.1)) q.2) 0 0 M 64 [(0, vR l0), (1, vR l1), (2, vI l2), (3, vI l3), (4, vI l4)] [] := by
  unfold mX4_fewestAgainst_64 at h
  refine r_iinc (j := 4) (ls' := [(4, vI (wI (l4 + 1))), (0, vR l0), (1, vR l1), (2, vI l2), (3, vI l3)]) F rfl (by decide) rfl dX4_fewestAgainst_64 ?_
  refine r_goto (tgt := 13) F (by decide) dX4_fewestAgainst_67 ?_
  refine r_sub [1, 2, 3, 4, 0] (ls' := [(0, vR l0), (1, vR l1), (2, vI l2), (3, vI l3), (4, vI (wI (l4 + 1)))]) rfl ?_
  exact hk13 h
theorem tX4_fewestAgainst_44 {E : En} {p : Program} {l : Launch} {e : Env} {s : State} {m : MethodId} {args : Array Value} {below : List Frame} {meth : Method} {c : Code} {q : Int × Mem} {k13 : Int → Int → Int → Int → Int → Mem → Option (Int × Mem)} (hk13 : ∀ {l0 l1 l2 l3 l4 : Int} {M : Mem}, k13 l0 l1 l2 l3 l4 M = some q → G E p l e (rmOf 2 0 0) s m args below meth c 6 (QZ E below args s (rmOf 2 0 0) (some (vI q.1)) q.2) 0 0 M 13 [(0, vR l0), (1, vR l1), (2, vI l2), (3, vI l3), (4, vI l4)] []) {l0 l1 l2 l3 l4 s0 : Int} {M : Mem} (F : Fx E p s m args meth c cX4_fewestAgainst 6 yX4_fewestAgainst.cls (some FieldType.int) yX4_fewestAgainst.name) (h : mX4_fewestAgainst_44 k13 l0 l1 l2 l3 l4 s0 M = some q) : G E p l e (rmOf 2 0 0) s m args below meth c 6 (QZ E below args s (rmOf 2 0 0) (some (vI q.1)) q.2) 0 0 M 44 [(0, vR l0), (1, vR l1), (2, vI l2), (3, vI l3), (4, vI l4)] [vI s0] := by
  unfold mX4_fewestAgainst_44 at h
  refine r_istore (ls' := [(5, vI s0), (0, vR l0), (1, vR l1), (2, vI l2), (3, vI l3), (4, vI l4)]) F (by decide) rfl dX4_fewestAgainst_44 ?_
  refine r_iload (j := 0) F rfl dX4_fewestAgainst_46 ?_
  refine r_if_eq (tgt := 64) F (by decide) dX4_fewestAgainst_48 (fun hc => ?_) (fun hc => ?_)
  · replace h := ite_p h hc
    refine r_sub [1, 2, 3, 4, 5] (ls' := [(0, vR l0), (1, vR l1), (2, vI l2), (3, vI l3), (4, vI l4)]) rfl ?_
    exact tX4_fewestAgainst_64 (fun h => hk13 h) F h
  · replace h := ite_n h hc
    refine r_aload_n (j := 1) F rfl rfl dX4_fewestAgainst_51 ?_
    refine r_aload_n (j := 2) F rfl rfl dX4_fewestAgainst_52 ?_
    refine r_iload (j := 5) F rfl dX4_fewestAgainst_53 ?_
    replace h := bind_so h
    obtain ⟨_, g55, h⟩ := h
    replace h := bind_so h
    obtain ⟨q55, h55, h⟩ := h
    refine r_callV (as := [vR l1, vI l4]) (rv := (some (vI q55.1))) (kc := 0) (nc := 0) (tX4_leavesNothing h55) clok_4 F (gK_so g55) tw_1147 tw_1149 tw_50 tw_1150 tw_113 ⟨by decide, by decide, show (parseMethodDescriptor yX4_leavesNothing.desc).map (fun d => d.parameters.length) = some 2 by decide +kernel⟩ ⟨by decide, by decide⟩ (Nat.le_of_ble_eq_true rfl) dX4_fewestAgainst_55 ?_
    refine r_if_eq (tgt := 64) F (by decide) dX4_fewestAgainst_58 (fun hc => ?_) (fun hc => ?_)
    · replace h := ite_p h hc
      refine r_sub [1, 2, 3, 4, 5] (ls' := [(0, vR l0), (1, vR l1), (2, vI l2), (3, vI l3), (4, vI l4)]) rfl ?_
      exact tX4_fewestAgainst_64 (fun h => hk13 h) F h
    · replace h := ite_n h hc
      refine r_iload (j := 5) F rfl dX4_fewestAgainst_61 ?_
      refine r_istore_n (ls' := [(3, vI l4), (5, vI s0), (0, vR l0), (1, vR l1), (2, vI l2), (4, vI l4)]) F rfl (by decide) rfl dX4_fewestAgainst_63 ?_
      refine r_sub [2, 3, 4, 0, 5] (ls' := [(0, vR l0), (1, vR l1), (2, vI l2), (3, vI l4), (4, vI l4)]) rfl ?_
      exact tX4_fewestAgainst_64 (fun h => hk13 h) F h
theorem tX4_fewestAgainst_43 {E : En} {p : Program} {l : Launch} {e : Env} {s : State} {m : MethodId} {args : Array Value} {below : List Frame} {meth : Method} {c : Code} {q : Int × Mem} {k13 : Int → Int → Int → Int → Int → Mem → Option (Int × Mem)} (hk13 : ∀ {l0 l1 l2 l3 l4 : Int} {M : Mem}, k13 l0 l1 l2 l3 l4 M = some q → G E p l e (rmOf 2 0 0) s m args below meth c 6 (QZ E below args s (rmOf 2 0 0) (some (vI q.1)) q.2) 0 0 M 13 [(0, vR l0), (1, vR l1), (2, vI l2), (3, vI l3), (4, vI l4)] []) {l0 l1 l2 l3 l4 : Int} {M : Mem} (F : Fx E p s m args meth c cX4_fewestAgainst 6 yX4_fewestAgainst.cls (some FieldType.int) yX4_fewestAgainst.name) (h : mX4_fewestAgainst_43 k13 l0 l1 l2 l3 l4 M = some q) : G E p l e (rmOf 2 0 0) s m args below meth c 6 (QZ E below args s (rmOf 2 0 0) (some (vI q.1)) q.2) 0 0 M 43 [(0, vR l0), (1, vR l1), (2, vI l2), (3, vI l3), (4, vI l4)] [] := by
  unfold mX4_fewestAgainst_43 at h
  refine r_iconst F rfl dX4_fewestAgainst_43 ?_
  refine r_sub [0, 1, 2, 3, 4] (ls' := [(0, vR l0), (1, vR l1), (2, vI l2), (3, vI l3), (4, vI l4)]) rfl ?_
  exact tX4_fewestAgainst_44 (fun h => hk13 h) F h
theorem tbX4_fewestAgainst_13 {E : En} {p : Program} {l : Launch} {e : Env} {s : State} {m : MethodId} {args : Array Value} {below : List Frame} {meth : Method} {c : Code} {q : Int × Mem} {k13 : Int → Int → Int → Int → Int → Mem → Option (Int × Mem)} (hk13 : ∀ {l0 l1 l2 l3 l4 : Int} {M : Mem}, k13 l0 l1 l2 l3 l4 M = some q → G E p l e (rmOf 2 0 0) s m args below meth c 6 (QZ E below args s (rmOf 2 0 0) (some (vI q.1)) q.2) 0 0 M 13 [(0, vR l0), (1, vR l1), (2, vI l2), (3, vI l3), (4, vI l4)] []) {l0 l1 l2 l3 l4 : Int} {M : Mem} (F : Fx E p s m args meth c cX4_fewestAgainst 6 yX4_fewestAgainst.cls (some FieldType.int) yX4_fewestAgainst.name) (h : bX4_fewestAgainst_13 k13 l0 l1 l2 l3 l4 M = some q) : G E p l e (rmOf 2 0 0) s m args below meth c 6 (QZ E below args s (rmOf 2 0 0) (some (vI q.1)) q.2) 0 0 M 13 [(0, vR l0), (1, vR l1), (2, vI l2), (3, vI l3), (4, vI l4)] [] := by
  unfold bX4_fewestAgainst_13 at h
  refine r_iload (j := 4) F rfl dX4_fewestAgainst_13 ?_
  refine r_sipush F rfl (by decide) dX4_fewestAgainst_15 ?_
  refine r_icmp_ge (tgt := 70) F (by decide) dX4_fewestAgainst_18 (fun hc => ?_) (fun hc => ?_)
  · replace h := ite_p h hc
    refine r_iload_n (j := 3) F rfl rfl dX4_fewestAgainst_70 ?_
    obtain rfl := Option.some.inj h
    exact r_iret F dX4_fewestAgainst_71
  · replace h := ite_n h hc
    refine r_iload (j := 4) F rfl dX4_fewestAgainst_21 ?_
    refine r_iload_n (j := 2) F rfl rfl dX4_fewestAgainst_23 ?_
    refine r_iconst F rfl dX4_fewestAgainst_24 ?_
    refine r_ixor F dX4_fewestAgainst_25 ?_
    refine r_iand F dX4_fewestAgainst_26 ?_
    refine r_if_ne (tgt := 43) F (by decide) dX4_fewestAgainst_27 (fun hc => ?_) (fun hc => ?_)
    · replace h := ite_n h hc
      refine r_sub [0, 1, 2, 3, 4] (ls' := [(0, vR l0), (1, vR l1), (2, vI l2), (3, vI l3), (4, vI l4)]) rfl ?_
      exact tX4_fewestAgainst_43 (fun h => hk13 h) F h
    · replace h := ite_p h hc
      refine r_iload (j := 4) F rfl dX4_fewestAgainst_30 ?_
      refine r_iload_n (j := 3) F rfl rfl dX4_fewestAgainst_32 ?_
      replace h := bind_so h
      obtain ⟨q33, h33, h⟩ := h
      refine r_callS (as := [vI l4, vI l3]) (rv := (some (vI q33.1))) (kc := 0) (nc := 0) (tX4_isBefore h33) F tw_1143 tw_1144 tw_1145 tw_113 ⟨by decide, by decide, show (parseMethodDescriptor yX4_isBefore.desc).map (fun d => d.parameters.length) = some 2 by decide +kernel⟩ ⟨by decide, by decide⟩ (Nat.le_of_ble_eq_true rfl) dX4_fewestAgainst_33 ?_
      refine r_if_eq (tgt := 43) F (by decide) dX4_fewestAgainst_36 (fun hc => ?_) (fun hc => ?_)
      · replace h := ite_p h hc
        refine r_sub [0, 1, 2, 3, 4] (ls' := [(0, vR l0), (1, vR l1), (2, vI l2), (3, vI l3), (4, vI l4)]) rfl ?_
        exact tX4_fewestAgainst_43 (fun h => hk13 h) F h
      · replace h := ite_n h hc
        refine r_iconst F rfl dX4_fewestAgainst_39 ?_
        refine r_goto (tgt := 44) F (by decide) dX4_fewestAgainst_40 ?_
        refine r_sub [0, 1, 2, 3, 4] (ls' := [(0, vR l0), (1, vR l1), (2, vI l2), (3, vI l3), (4, vI l4)]) rfl ?_
        exact tX4_fewestAgainst_44 (fun h => hk13 h) F h
theorem tX4_fewestAgainst_13 {E : En} {p : Program} {l : Launch} {e : Env} {s : State} {m : MethodId} {args : Array Value} {below : List Frame} {meth : Method} {c : Code} {q : Int × Mem} (F : Fx E p s m args meth c cX4_fewestAgainst 6 yX4_fewestAgainst.cls (some FieldType.int) yX4_fewestAgainst.name) : ∀ {fu : Nat} {l0 l1 l2 l3 l4 : Int} {M : Mem}, mX4_fewestAgainst_13 fu l0 l1 l2 l3 l4 M = some q → G E p l e (rmOf 2 0 0) s m args below meth c 6 (QZ E below args s (rmOf 2 0 0) (some (vI q.1)) q.2) 0 0 M 13 [(0, vR l0), (1, vR l1), (2, vI l2), (3, vI l3), (4, vI l4)] [] := by
  intro fu
  induction fu with
  | zero => intro l0 l1 l2 l3 l4 M h; exact nomatch (show (none : Option (Int × Mem)) = some q from h)
  | succ fu ih => intro l0 l1 l2 l3 l4 M h; exact tbX4_fewestAgainst_13  (fun h => ih h) F h
theorem tX4_fewestAgainst {l0 l1 : Int} {M : Mem} {q : Int × Mem} (h : mX4_fewestAgainst l0 l1 M = some q) : Ct 2 0 0 yX4_fewestAgainst cX4_fewestAgainst 6 (some FieldType.int) [vR l0, vR l1] M (some (vI q.1)) q.2 := by
  unfold mX4_fewestAgainst at h
  refine Ct.of (by decide) (Nat.le_of_ble_eq_true rfl) ?_
  intro E p l e s m args below meth c F
  refine r_sub [0, 1] (ls' := [(0, vR l0), (1, vR l1)]) rfl ?_
  refine r_aload_n (j := 0) F rfl rfl dX4_fewestAgainst_0 ?_
  replace h := bind_so h
  obtain ⟨a1, h1, h⟩ := h
  refine r_getT (t := 2) rfl clok_4 F (by decide) h1 tw_366 dX4_fewestAgainst_1 ?_
  replace h := bind_so h
  obtain ⟨_, g4, h⟩ := h
  replace h := bind_so h
  obtain ⟨q4, h4, h⟩ := h
  refine r_callV (as := []) (rv := (some (vI q4.1))) (kc := 0) (nc := 0) (tX6_viewedStories h4) clok_6 F (gK_so g4) tw_1008 tw_1009 tw_1010 tw_1011 tw_114 ⟨by decide, by decide, show (parseMethodDescriptor yX6_viewedStories.desc).map (fun d => d.parameters.length) = some 0 by decide +kernel⟩ ⟨by decide, by decide⟩ (Nat.le_of_ble_eq_true rfl) dX4_fewestAgainst_4 ?_
  refine r_istore_n (ls' := [(2, vI q4.1), (0, vR l0), (1, vR l1)]) F rfl (by decide) rfl dX4_fewestAgainst_7 ?_
  refine r_iload_n (j := 0) F rfl rfl dX4_fewestAgainst_8 ?_
  refine r_istore_n (ls' := [(3, vI q4.1), (2, vI q4.1), (0, vR l0), (1, vR l1)]) F rfl (by decide) rfl dX4_fewestAgainst_9 ?_
  refine r_iconst F rfl dX4_fewestAgainst_10 ?_
  refine r_istore (ls' := [(4, vI 0), (3, vI q4.1), (2, vI q4.1), (0, vR l0), (1, vR l1)]) F (by decide) rfl dX4_fewestAgainst_11 ?_
  refine r_sub [3, 4, 2, 1, 0] (ls' := [(0, vR l0), (1, vR l1), (2, vI q4.1), (3, vI q4.1), (4, vI 0)]) rfl ?_
  exact tX4_fewestAgainst_13 F h
theorem tX4_coreStories {l0 : Int} {M : Mem} {q : Int × Mem} (h : mX4_coreStories l0 M = some q) : Ct 102 0 0 yX4_coreStories cX4_coreStories 1 (some FieldType.int) [vR l0] M (some (vI q.1)) q.2 := by
  unfold mX4_coreStories at h
  refine Ct.of (by decide) (Nat.le_of_ble_eq_true rfl) ?_
  intro E p l e s m args below meth c F
  refine r_sub [0] (ls' := [(0, vR l0)]) rfl ?_
  refine r_aload_n (j := 0) F rfl rfl dX4_coreStories_0 ?_
  replace h := bind_so h
  obtain ⟨_, g1, h⟩ := h
  replace h := bind_so h
  obtain ⟨q1, h1, h⟩ := h
  refine r_callV (as := []) (rv := (some (vI q1.1))) (kc := 0) (nc := 0) (tX4_lookUp h1) clok_4 F (gK_so g1) tw_965 tw_967 tw_40 tw_968 tw_113 ⟨by decide, by decide, show (parseMethodDescriptor yX4_lookUp.desc).map (fun d => d.parameters.length) = some 0 by decide +kernel⟩ ⟨by decide, by decide⟩ (Nat.le_of_ble_eq_true rfl) dX4_coreStories_1 ?_
  refine r_if_eq (tgt := 28) F (by decide) dX4_coreStories_4 (fun hc => ?_) (fun hc => ?_)
  · replace h := ite_p h hc
    refine r_iconst F rfl dX4_coreStories_28 ?_
    obtain rfl := Option.some.inj h
    exact r_iret F dX4_coreStories_29
  · replace h := ite_n h hc
    refine r_aload_n (j := 0) F rfl rfl dX4_coreStories_7 ?_
    replace h := bind_so h
    obtain ⟨a8, h8, h⟩ := h
    refine r_getT (t := 2) rfl clok_4 F (by decide) h8 tw_374 dX4_coreStories_8 ?_
    replace h := bind_so h
    obtain ⟨_, g11, h⟩ := h
    replace h := bind_so h
    obtain ⟨q11, h11, h⟩ := h
    refine r_callV (as := []) (rv := (some (vI q11.1))) (kc := 0) (nc := 0) (tX7_isNothing h11) clok_7 F (gK_so g11) tw_1135 tw_1136 tw_1137 tw_1138 tw_118 ⟨by decide, by decide, show (parseMethodDescriptor yX7_isNothing.desc).map (fun d => d.parameters.length) = some 0 by decide +kernel⟩ ⟨by decide, by decide⟩ (Nat.le_of_ble_eq_true rfl) dX4_coreStories_11 ?_
    refine r_if_eq (tgt := 28) F (by decide) dX4_coreStories_14 (fun hc => ?_) (fun hc => ?_)
    · replace h := ite_p h hc
      refine r_iconst F rfl dX4_coreStories_28 ?_
      obtain rfl := Option.some.inj h
      exact r_iret F dX4_coreStories_29
    · replace h := ite_n h hc
      refine r_aload_n (j := 0) F rfl rfl dX4_coreStories_17 ?_
      refine r_aload_n (j := 0) F rfl rfl dX4_coreStories_18 ?_
      replace h := bind_so h
      obtain ⟨a19, h19, h⟩ := h
      refine r_getT (t := 2) rfl clok_4 F (by decide) h19 tw_373 dX4_coreStories_19 ?_
      replace h := bind_so h
      obtain ⟨_, g22, h⟩ := h
      replace h := bind_so h
      obtain ⟨q22, h22, h⟩ := h
      refine r_callV (as := [vR a19]) (rv := (some (vI q22.1))) (kc := 0) (nc := 0) (tX4_fewestAgainst h22) clok_4 F (gK_so g22) tw_1139 tw_1141 tw_49 tw_1142 tw_113 ⟨by decide, by decide, show (parseMethodDescriptor yX4_fewestAgainst.desc).map (fun d => d.parameters.length) = some 1 by decide +kernel⟩ ⟨by decide, by decide⟩ (Nat.le_of_ble_eq_true rfl) dX4_coreStories_22 ?_
      refine r_goto (tgt := 29) F (by decide) dX4_coreStories_25 ?_
      obtain rfl := Option.some.inj h
      exact r_iret F dX4_coreStories_29
theorem tbX7_countWhere_4 {E : En} {p : Program} {l : Launch} {e : Env} {s : State} {m : MethodId} {args : Array Value} {below : List Frame} {meth : Method} {c : Code} {q : Int × Mem} {k4 : Int → Int → Int → Int → Mem → Option (Int × Mem)} (hk4 : ∀ {l0 l1 l2 l3 : Int} {M : Mem}, k4 l0 l1 l2 l3 M = some q → G E p l e (rmOf 1 0 0) s m args below meth c 4 (QZ E below args s (rmOf 1 0 0) (some (vI q.1)) q.2) 0 0 M 4 [(0, vR l0), (1, vI l1), (2, vI l2), (3, vI l3)] []) {l0 l1 l2 l3 : Int} {M : Mem} (F : Fx E p s m args meth c cX7_countWhere 4 yX7_countWhere.cls (some FieldType.int) yX7_countWhere.name) (h : bX7_countWhere_4 k4 l0 l1 l2 l3 M = some q) : G E p l e (rmOf 1 0 0) s m args below meth c 4 (QZ E below args s (rmOf 1 0 0) (some (vI q.1)) q.2) 0 0 M 4 [(0, vR l0), (1, vI l1), (2, vI l2), (3, vI l3)] [] := by
  unfold bX7_countWhere_4 at h
  refine r_iload_n (j := 3) F rfl rfl dX7_countWhere_4 ?_
  refine r_aload_n (j := 0) F rfl rfl dX7_countWhere_5 ?_
  replace h := bind_so h
  obtain ⟨a6, h6, h⟩ := h
  refine r_getT (t := 0) rfl clok_7 F (by decide) h6 tw_327 dX7_countWhere_6 ?_
  refine r_icmp_ge (tgt := 36) F (by decide) dX7_countWhere_9 (fun hc => ?_) (fun hc => ?_)
  · replace h := ite_p h hc
    refine r_iload_n (j := 2) F rfl rfl dX7_countWhere_36 ?_
    obtain rfl := Option.some.inj h
    exact r_iret F dX7_countWhere_37
  · replace h := ite_n h hc
    refine r_iload_n (j := 2) F rfl rfl dX7_countWhere_12 ?_
    refine r_aload_n (j := 0) F rfl rfl dX7_countWhere_13 ?_
    replace h := bind_so h
    obtain ⟨a14, h14, h⟩ := h
    refine r_getT (t := 2) rfl clok_7 F (by decide) h14 tw_325 dX7_countWhere_14 ?_
    refine r_iload_n (j := 3) F rfl rfl dX7_countWhere_17 ?_
    replace h := bind_so h
    obtain ⟨a18, h18, h⟩ := h
    refine r_lald F h18 dX7_countWhere_18 ?_
    refine r_iload_n (j := 1) F rfl rfl dX7_countWhere_19 ?_
    refine r_iload_n (j := 3) F rfl rfl dX7_countWhere_20 ?_
    replace h := bind_so h
    obtain ⟨q21, h21, h⟩ := h
    refine r_callS (as := [vI l1, vI l3]) (rv := (some (vL q21.1))) (kc := 0) (nc := 0) (tX7_soAt h21) F tw_998 tw_999 tw_1000 tw_118 ⟨by decide, by decide, show (parseMethodDescriptor yX7_soAt.desc).map (fun d => d.parameters.length) = some 2 by decide +kernel⟩ ⟨by decide, by decide⟩ (Nat.le_of_ble_eq_true rfl) dX7_countWhere_21 ?_
    refine r_land F dX7_countWhere_24 ?_
    replace h := bind_so h
    obtain ⟨q25, h25, h⟩ := h
    refine r_callS (as := [vL (land a18 q21.1)]) (rv := (some (vI q25.1))) (kc := 0) (nc := 0) (tJ13_bitCount_95d88 h25) F tw_1034 tw_1035 tw_1036 tw_129 ⟨by decide, by decide, show (parseMethodDescriptor yJ13_bitCount_95d88.desc).map (fun d => d.parameters.length) = some 1 by decide +kernel⟩ ⟨by decide, by decide⟩ (Nat.le_of_ble_eq_true rfl) dX7_countWhere_25 ?_
    refine r_iadd F dX7_countWhere_28 ?_
    refine r_istore_n (ls' := [(2, vI (wI (l2 + q25.1))), (0, vR l0), (1, vI l1), (3, vI l3)]) F rfl (by decide) rfl dX7_countWhere_29 ?_
    refine r_iinc (j := 3) (ls' := [(3, vI (wI (l3 + 1))), (2, vI (wI (l2 + q25.1))), (0, vR l0), (1, vI l1)]) F rfl (by decide) rfl dX7_countWhere_30 ?_
    refine r_goto (tgt := 4) F (by decide) dX7_countWhere_33 ?_
    refine r_sub [2, 3, 1, 0] (ls' := [(0, vR l0), (1, vI l1), (2, vI (wI (l2 + q25.1))), (3, vI (wI (l3 + 1)))]) rfl ?_
    exact hk4 h
theorem tX7_countWhere_4 {E : En} {p : Program} {l : Launch} {e : Env} {s : State} {m : MethodId} {args : Array Value} {below : List Frame} {meth : Method} {c : Code} {q : Int × Mem} (F : Fx E p s m args meth c cX7_countWhere 4 yX7_countWhere.cls (some FieldType.int) yX7_countWhere.name) : ∀ {fu : Nat} {l0 l1 l2 l3 : Int} {M : Mem}, mX7_countWhere_4 fu l0 l1 l2 l3 M = some q → G E p l e (rmOf 1 0 0) s m args below meth c 4 (QZ E below args s (rmOf 1 0 0) (some (vI q.1)) q.2) 0 0 M 4 [(0, vR l0), (1, vI l1), (2, vI l2), (3, vI l3)] [] := by
  intro fu
  induction fu with
  | zero => intro l0 l1 l2 l3 M h; exact nomatch (show (none : Option (Int × Mem)) = some q from h)
  | succ fu ih => intro l0 l1 l2 l3 M h; exact tbX7_countWhere_4  (fun h => ih h) F h
theorem tX7_countWhere {l0 l1 : Int} {M : Mem} {q : Int × Mem} (h : mX7_countWhere l0 l1 M = some q) : Ct 1 0 0 yX7_countWhere cX7_countWhere 4 (some FieldType.int) [vR l0, vI l1] M (some (vI q.1)) q.2 := by
  unfold mX7_countWhere at h
  refine Ct.of (by decide) (Nat.le_of_ble_eq_true rfl) ?_
  intro E p l e s m args below meth c F
  refine r_sub [0, 1] (ls' := [(0, vR l0), (1, vI l1)]) rfl ?_
  refine r_iconst F rfl dX7_countWhere_0 ?_
  refine r_istore_n (ls' := [(2, vI 0), (0, vR l0), (1, vI l1)]) F rfl (by decide) rfl dX7_countWhere_1 ?_
  refine r_iconst F rfl dX7_countWhere_2 ?_
  refine r_istore_n (ls' := [(3, vI 0), (2, vI 0), (0, vR l0), (1, vI l1)]) F rfl (by decide) rfl dX7_countWhere_3 ?_
  refine r_sub [2, 3, 1, 0] (ls' := [(0, vR l0), (1, vI l1), (2, vI 0), (3, vI 0)]) rfl ?_
  exact tX7_countWhere_4 F h
theorem tX4_sureness {l0 l1 : Int} {M : Mem} {q : Int × Mem} (h : mX4_sureness l0 l1 M = some q) : Ct 102 0 0 yX4_sureness cX4_sureness 3 (some FieldType.int) [vR l0, vI l1] M (some (vI q.1)) q.2 := by
  unfold mX4_sureness at h
  refine Ct.of (by decide) (Nat.le_of_ble_eq_true rfl) ?_
  intro E p l e s m args below meth c F
  refine r_sub [0, 1] (ls' := [(0, vR l0), (1, vI l1)]) rfl ?_
  refine r_iload_n (j := 1) F rfl rfl dX4_sureness_0 ?_
  refine r_iconst F rfl dX4_sureness_1 ?_
  refine r_icmp_eq (tgt := 22) F (by decide) dX4_sureness_2 (fun hc => ?_) (fun hc => ?_)
  · replace h := ite_p h hc
    refine r_iconst F rfl dX4_sureness_22 ?_
    obtain rfl := Option.some.inj h
    exact r_iret F dX4_sureness_23
  · replace h := ite_n h hc
    refine r_aload_n (j := 0) F rfl rfl dX4_sureness_5 ?_
    replace h := bind_so h
    obtain ⟨_, g6, h⟩ := h
    replace h := bind_so h
    obtain ⟨q6, h6, h⟩ := h
    refine r_callV (as := []) (rv := (some (vI q6.1))) (kc := 0) (nc := 0) (tX4_lookUp h6) clok_4 F (gK_so g6) tw_965 tw_967 tw_40 tw_968 tw_113 ⟨by decide, by decide, show (parseMethodDescriptor yX4_lookUp.desc).map (fun d => d.parameters.length) = some 0 by decide +kernel⟩ ⟨by decide, by decide⟩ (Nat.le_of_ble_eq_true rfl) dX4_sureness_6 ?_
    refine r_if_eq (tgt := 22) F (by decide) dX4_sureness_9 (fun hc => ?_) (fun hc => ?_)
    · replace h := ite_p h hc
      refine r_iconst F rfl dX4_sureness_22 ?_
      obtain rfl := Option.some.inj h
      exact r_iret F dX4_sureness_23
    · replace h := ite_n h hc
      refine r_aload_n (j := 0) F rfl rfl dX4_sureness_12 ?_
      replace h := bind_so h
      obtain ⟨a13, h13, h⟩ := h
      refine r_getT (t := 2) rfl clok_4 F (by decide) h13 tw_374 dX4_sureness_13 ?_
      replace h := bind_so h
      obtain ⟨_, g16, h⟩ := h
      replace h := bind_so h
      obtain ⟨q16, h16, h⟩ := h
      refine r_callV (as := []) (rv := (some (vI q16.1))) (kc := 0) (nc := 0) (tX7_isNothing h16) clok_7 F (gK_so g16) tw_1135 tw_1136 tw_1137 tw_1138 tw_118 ⟨by decide, by decide, show (parseMethodDescriptor yX7_isNothing.desc).map (fun d => d.parameters.length) = some 0 by decide +kernel⟩ ⟨by decide, by decide⟩ (Nat.le_of_ble_eq_true rfl) dX4_sureness_16 ?_
      refine r_if_eq (tgt := 24) F (by decide) dX4_sureness_19 (fun hc => ?_) (fun hc => ?_)
      · replace h := ite_p h hc
        refine r_aload_n (j := 0) F rfl rfl dX4_sureness_24 ?_
        replace h := bind_so h
        obtain ⟨a25, h25, h⟩ := h
        refine r_getT (t := 2) rfl clok_4 F (by decide) h25 tw_374 dX4_sureness_25 ?_
        refine r_aload_n (j := 0) F rfl rfl dX4_sureness_28 ?_
        replace h := bind_so h
        obtain ⟨a29, h29, h⟩ := h
        refine r_getT (t := 2) rfl clok_4 F (by decide) h29 tw_366 dX4_sureness_29 ?_
        replace h := bind_so h
        obtain ⟨a32, h32, h⟩ := h
        refine r_getT (t := 2) rfl clok_6 F (by decide) h32 tw_209 dX4_sureness_32 ?_
        refine r_iload_n (j := 1) F rfl rfl dX4_sureness_35 ?_
        replace h := bind_so h
        obtain ⟨_, g36, h⟩ := h
        replace h := bind_so h
        obtain ⟨q36, h36, h⟩ := h
        refine r_callV (as := [vI l1]) (rv := (some (vI q36.1))) (kc := 0) (nc := 0) (tX3_bit h36) clok_3 F (gK_so g36) tw_993 tw_555 tw_556 tw_557 tw_115 ⟨by decide, by decide, show (parseMethodDescriptor yX3_bit.desc).map (fun d => d.parameters.length) = some 1 by decide +kernel⟩ ⟨by decide, by decide⟩ (Nat.le_of_ble_eq_true rfl) dX4_sureness_36 ?_
        replace h := bind_so h
        obtain ⟨_, g39, h⟩ := h
        replace h := bind_so h
        obtain ⟨q39, h39, h⟩ := h
        refine r_callV (as := [vI q36.1]) (rv := (some (vI q39.1))) (kc := 0) (nc := 0) (tX7_countWhere h39) clok_7 F (gK_so g39) tw_1162 tw_1163 tw_1164 tw_1165 tw_118 ⟨by decide, by decide, show (parseMethodDescriptor yX7_countWhere.desc).map (fun d => d.parameters.length) = some 1 by decide +kernel⟩ ⟨by decide, by decide⟩ (Nat.le_of_ble_eq_true rfl) dX4_sureness_39 ?_
        refine r_istore_n (ls' := [(2, vI q39.1), (0, vR l0), (1, vI l1)]) F rfl (by decide) rfl dX4_sureness_42 ?_
        refine r_iload_n (j := 0) F rfl rfl dX4_sureness_43 ?_
        refine r_if_ne (tgt := 49) F (by decide) dX4_sureness_44 (fun hc => ?_) (fun hc => ?_)
        · replace h := ite_n h hc
          refine r_iload_n (j := 0) F rfl rfl dX4_sureness_49 ?_
          refine r_aload_n (j := 1) F rfl rfl dX4_sureness_50 ?_
          replace h := bind_so h
          obtain ⟨a51, h51, h⟩ := h
          refine r_getT (t := 2) rfl clok_4 F (by decide) h51 tw_374 dX4_sureness_51 ?_
          replace h := bind_so h
          obtain ⟨_, g54, h⟩ := h
          replace h := bind_so h
          obtain ⟨q54, h54, h⟩ := h
          refine r_callV (as := []) (rv := (some (vI q54.1))) (kc := 0) (nc := 0) (tX7_count h54) clok_7 F (gK_so g54) tw_1030 tw_1031 tw_1032 tw_1033 tw_118 ⟨by decide, by decide, show (parseMethodDescriptor yX7_count.desc).map (fun d => d.parameters.length) = some 0 by decide +kernel⟩ ⟨by decide, by decide⟩ (Nat.le_of_ble_eq_true rfl) dX4_sureness_54 ?_
          refine r_icmp_ne (tgt := 64) F (by decide) dX4_sureness_57 (fun hc => ?_) (fun hc => ?_)
          · replace h := ite_n h hc
            refine r_iconst F rfl dX4_sureness_64 ?_
            obtain rfl := Option.some.inj h
            exact r_iret F dX4_sureness_65
          · replace h := ite_p h hc
            refine r_iconst F rfl dX4_sureness_60 ?_
            refine r_goto (tgt := 65) F (by decide) dX4_sureness_61 ?_
            obtain rfl := Option.some.inj h
            exact r_iret F dX4_sureness_65
        · replace h := ite_p h hc
          refine r_iconst F rfl dX4_sureness_47 ?_
          obtain rfl := Option.some.inj h
          exact r_iret F dX4_sureness_48
      · replace h := ite_n h hc
        refine r_iconst F rfl dX4_sureness_22 ?_
        obtain rfl := Option.some.inj h
        exact r_iret F dX4_sureness_23
theorem tX4_causeStories_35 {E : En} {p : Program} {l : Launch} {e : Env} {s : State} {m : MethodId} {args : Array Value} {below : List Frame} {meth : Method} {c : Code} {q : Int × Mem} {l0 s0 s1 s2 : Int} {M : Mem} (F : Fx E p s m args meth c cX4_causeStories 3 yX4_causeStories.cls (some FieldType.int) yX4_causeStories.name) (h : mX4_causeStories_35 l0 s0 s1 s2 M = some q) : G E p l e (rmOf 3 0 0) s m args below meth c 3 (QZ E below args s (rmOf 3 0 0) (some (vI q.1)) q.2) 0 0 M 35 [(0, vR l0)] [vI s2, vI s1, vR s0] := by
  unfold mX4_causeStories_35 at h
  replace h := bind_so h
  obtain ⟨_, g35, h⟩ := h
  replace h := bind_so h
  obtain ⟨q35, h35, h⟩ := h
  refine r_callV (as := [vI s1, vI s2]) (rv := none) (kc := 0) (nc := 0) (tX7_keepWhere h35) clok_7 F (gK_so g35) tw_994 tw_995 tw_996 tw_997 tw_118 ⟨by decide, by decide, show (parseMethodDescriptor yX7_keepWhere.desc).map (fun d => d.parameters.length) = some 2 by decide +kernel⟩ ⟨by decide, by decide⟩ (Nat.le_of_ble_eq_true rfl) dX4_causeStories_35 ?_
  refine r_aload_n (j := 0) F rfl rfl dX4_causeStories_38 ?_
  refine r_aload_n (j := 0) F rfl rfl dX4_causeStories_39 ?_
  replace h := bind_so h
  obtain ⟨a40, h40, h⟩ := h
  refine r_getT (t := 2) rfl clok_4 F (by decide) h40 tw_375 dX4_causeStories_40 ?_
  replace h := bind_so h
  obtain ⟨_, g43, h⟩ := h
  replace h := bind_so h
  obtain ⟨q43, h43, h⟩ := h
  refine r_callV (as := [vR a40]) (rv := (some (vI q43.1))) (kc := 0) (nc := 0) (tX4_fewestAgainst h43) clok_4 F (gK_so g43) tw_1139 tw_1141 tw_49 tw_1142 tw_113 ⟨by decide, by decide, show (parseMethodDescriptor yX4_fewestAgainst.desc).map (fun d => d.parameters.length) = some 1 by decide +kernel⟩ ⟨by decide, by decide⟩ (Nat.le_of_ble_eq_true rfl) dX4_causeStories_43 ?_
  obtain rfl := Option.some.inj h
  exact r_iret F dX4_causeStories_46
theorem tX4_causeStories {l0 l1 l2 : Int} {M : Mem} {q : Int × Mem} (h : mX4_causeStories l0 l1 l2 M = some q) : Ct 3 0 0 yX4_causeStories cX4_causeStories 3 (some FieldType.int) [vR l0, vI l1, vI l2] M (some (vI q.1)) q.2 := by
  unfold mX4_causeStories at h
  refine Ct.of (by decide) (Nat.le_of_ble_eq_true rfl) ?_
  intro E p l e s m args below meth c F
  refine r_sub [0, 1, 2] (ls' := [(0, vR l0), (1, vI l1), (2, vI l2)]) rfl ?_
  refine r_aload_n (j := 0) F rfl rfl dX4_causeStories_0 ?_
  replace h := bind_so h
  obtain ⟨a1, h1, h⟩ := h
  refine r_getT (t := 2) rfl clok_4 F (by decide) h1 tw_375 dX4_causeStories_1 ?_
  refine r_aload_n (j := 0) F rfl rfl dX4_causeStories_4 ?_
  replace h := bind_so h
  obtain ⟨a5, h5, h⟩ := h
  refine r_getT (t := 2) rfl clok_4 F (by decide) h5 tw_373 dX4_causeStories_5 ?_
  replace h := bind_so h
  obtain ⟨_, g8, h⟩ := h
  replace h := bind_so h
  obtain ⟨q8, h8, h⟩ := h
  refine r_callV (as := [vR a5]) (rv := none) (kc := 0) (nc := 0) (tX7_copy h8) clok_7 F (gK_so g8) tw_1003 tw_1004 tw_1005 tw_1006 tw_118 ⟨by decide, by decide, show (parseMethodDescriptor yX7_copy.desc).map (fun d => d.parameters.length) = some 1 by decide +kernel⟩ ⟨by decide, by decide⟩ (Nat.le_of_ble_eq_true rfl) dX4_causeStories_8 ?_
  refine r_aload_n (j := 0) F rfl rfl dX4_causeStories_11 ?_
  replace h := bind_so h
  obtain ⟨a12, h12, h⟩ := h
  refine r_getT (t := 2) rfl clok_4 F (by decide) h12 tw_375 dX4_causeStories_12 ?_
  refine r_aload_n (j := 0) F rfl rfl dX4_causeStories_15 ?_
  replace h := bind_so h
  obtain ⟨a16, h16, h⟩ := h
  refine r_getT (t := 2) rfl clok_4 F (by decide) h16 tw_366 dX4_causeStories_16 ?_
  replace h := bind_so h
  obtain ⟨a19, h19, h⟩ := h
  refine r_getT (t := 2) rfl clok_6 F (by decide) h19 tw_209 dX4_causeStories_19 ?_
  refine r_iload_n (j := 1) F rfl rfl dX4_causeStories_22 ?_
  replace h := bind_so h
  obtain ⟨_, g23, h⟩ := h
  replace h := bind_so h
  obtain ⟨q23, h23, h⟩ := h
  refine r_callV (as := [vI l1]) (rv := (some (vI q23.1))) (kc := 0) (nc := 0) (tX3_bit h23) clok_3 F (gK_so g23) tw_993 tw_555 tw_556 tw_557 tw_115 ⟨by decide, by decide, show (parseMethodDescriptor yX3_bit.desc).map (fun d => d.parameters.length) = some 1 by decide +kernel⟩ ⟨by decide, by decide⟩ (Nat.le_of_ble_eq_true rfl) dX4_causeStories_23 ?_
  refine r_iload_n (j := 2) F rfl rfl dX4_causeStories_26 ?_
  refine r_if_ne (tgt := 34) F (by decide) dX4_causeStories_27 (fun hc => ?_) (fun hc => ?_)
  · replace h := ite_n h hc
    refine r_iconst F rfl dX4_causeStories_34 ?_
    refine r_sub [0] (ls' := [(0, vR l0)]) rfl ?_
    exact tX4_causeStories_35 F h
  · replace h := ite_p h hc
    refine r_iconst F rfl dX4_causeStories_30 ?_
    refine r_goto (tgt := 35) F (by decide) dX4_causeStories_31 ?_
    refine r_sub [0] (ls' := [(0, vR l0)]) rfl ?_
    exact tX4_causeStories_35 F h
theorem tX6_hasStory {l0 l1 : Int} {M : Mem} {q : Int × Mem} (h : mX6_hasStory l0 l1 M = some q) : Ct 0 0 0 yX6_hasStory cX6_hasStory 2 (some FieldType.boolean) [vR l0, vI l1] M (some (vI q.1)) q.2 := by
  unfold mX6_hasStory at h
  refine Ct.of (by decide) (Nat.le_of_ble_eq_true rfl) ?_
  intro E p l e s m args below meth c F
  refine r_sub [0, 1] (ls' := [(0, vR l0), (1, vI l1)]) rfl ?_
  refine r_iload_n (j := 1) F rfl rfl dX6_hasStory_0 ?_
  refine r_if_lt (tgt := 16) F (by decide) dX6_hasStory_1 (fun hc => ?_) (fun hc => ?_)
  · replace h := ite_p h hc
    refine r_iconst F rfl dX6_hasStory_16 ?_
    obtain rfl := Option.some.inj h
    exact r_zret (Or.inl rfl) F dX6_hasStory_17
  · replace h := ite_n h hc
    refine r_iload_n (j := 1) F rfl rfl dX6_hasStory_4 ?_
    refine r_aload_n (j := 0) F rfl rfl dX6_hasStory_5 ?_
    replace h := bind_so h
    obtain ⟨a6, h6, h⟩ := h
    refine r_getT (t := 0) rfl clok_6 F (by decide) h6 tw_233 dX6_hasStory_6 ?_
    refine r_icmp_ge (tgt := 16) F (by decide) dX6_hasStory_9 (fun hc => ?_) (fun hc => ?_)
    · replace h := ite_p h hc
      refine r_iconst F rfl dX6_hasStory_16 ?_
      obtain rfl := Option.some.inj h
      exact r_zret (Or.inl rfl) F dX6_hasStory_17
    · replace h := ite_n h hc
      refine r_iconst F rfl dX6_hasStory_12 ?_
      refine r_goto (tgt := 17) F (by decide) dX6_hasStory_13 ?_
      obtain rfl := Option.some.inj h
      exact r_zret (Or.inr rfl) F dX6_hasStory_17
theorem tX4_countWithout_96 {E : En} {p : Program} {l : Launch} {e : Env} {s : State} {m : MethodId} {args : Array Value} {below : List Frame} {meth : Method} {c : Code} {q : Int × Mem} {k60 : Int → Int → Int → Int → Mem → Option (Int × Mem)} (hk60 : ∀ {l0 l1 l2 l4 : Int} {M : Mem}, k60 l0 l1 l2 l4 M = some q → G E p l e (rmOf 102 0 0) s m args below meth c 5 (QZ E below args s (rmOf 102 0 0) (some (vI q.1)) q.2) 0 0 M 60 [(0, vR l0), (1, vI l1), (2, vI l2), (4, vI l4)] []) {l0 l1 l2 l4 : Int} {M : Mem} (F : Fx E p s m args meth c cX4_countWithout 5 yX4_countWithout.cls (some FieldType.int) yX4_countWithout.name) (h : mX4_countWithout_96 k60 l0 l1 l2 l4 M = some q) : G E p l e (rmOf 102 0 0) s m args below meth c 5 (QZ E below args s (rmOf 102 0 0) (some (vI q.1)) q.2) 0 0 M 96 [(0, vR l0), (1, vI l1), (2, vI l2), (4, vI l4)] [] := by
  unfold mX4_countWithout_96 at h
  refine r_iinc (j := 3) (ls' := [(4, vI (wI (l4 + 1))), (0, vR l0), (1, vI l1), (2, vI l2)]) F rfl (by decide) rfl dX4_countWithout_96 ?_
  refine r_goto (tgt := 60) F (by decide) dX4_countWithout_99 ?_
  refine r_sub [1, 2, 3, 0] (ls' := [(0, vR l0), (1, vI l1), (2, vI l2), (4, vI (wI (l4 + 1)))]) rfl ?_
  exact hk60 h
theorem tbX4_countWithout_60 {E : En} {p : Program} {l : Launch} {e : Env} {s : State} {m : MethodId} {args : Array Value} {below : List Frame} {meth : Method} {c : Code} {q : Int × Mem} {k60 : Int → Int → Int → Int → Mem → Option (Int × Mem)} (hk60 : ∀ {l0 l1 l2 l4 : Int} {M : Mem}, k60 l0 l1 l2 l4 M = some q → G E p l e (rmOf 102 0 0) s m args below meth c 5 (QZ E below args s (rmOf 102 0 0) (some (vI q.1)) q.2) 0 0 M 60 [(0, vR l0), (1, vI l1), (2, vI l2), (4, vI l4)] []) {l0 l1 l2 l4 : Int} {M : Mem} (F : Fx E p s m args meth c cX4_countWithout 5 yX4_countWithout.cls (some FieldType.int) yX4_countWithout.name) (h : bX4_countWithout_60 k60 l0 l1 l2 l4 M = some q) : G E p l e (rmOf 102 0 0) s m args below meth c 5 (QZ E below args s (rmOf 102 0 0) (some (vI q.1)) q.2) 0 0 M 60 [(0, vR l0), (1, vI l1), (2, vI l2), (4, vI l4)] [] := by
  unfold bX4_countWithout_60 at h
  refine r_iload (j := 3) F rfl dX4_countWithout_60 ?_
  refine r_bipush F rfl (by decide) dX4_countWithout_62 ?_
  refine r_icmp_ge (tgt := 102) F (by decide) dX4_countWithout_64 (fun hc => ?_) (fun hc => ?_)
  · replace h := ite_p h hc
    refine r_aload_n (j := 0) F rfl rfl dX4_countWithout_102 ?_
    replace h := bind_so h
    obtain ⟨a103, h103, h⟩ := h
    refine r_getT (t := 2) rfl clok_4 F (by decide) h103 tw_375 dX4_countWithout_103 ?_
    replace h := bind_so h
    obtain ⟨_, g106, h⟩ := h
    replace h := bind_so h
    obtain ⟨q106, h106, h⟩ := h
    refine r_callV (as := []) (rv := (some (vI q106.1))) (kc := 0) (nc := 0) (tX7_count h106) clok_7 F (gK_so g106) tw_1030 tw_1031 tw_1032 tw_1033 tw_118 ⟨by decide, by decide, show (parseMethodDescriptor yX7_count.desc).map (fun d => d.parameters.length) = some 0 by decide +kernel⟩ ⟨by decide, by decide⟩ (Nat.le_of_ble_eq_true rfl) dX4_countWithout_106 ?_
    obtain rfl := Option.some.inj h
    exact r_iret F dX4_countWithout_109
  · replace h := ite_n h hc
    refine r_iload (j := 3) F rfl dX4_countWithout_67 ?_
    refine r_iload_n (j := 1) F rfl rfl dX4_countWithout_69 ?_
    refine r_icmp_eq (tgt := 96) F (by decide) dX4_countWithout_70 (fun hc => ?_) (fun hc => ?_)
    · replace h := ite_p h hc
      refine r_sub [0, 1, 2, 3] (ls' := [(0, vR l0), (1, vI l1), (2, vI l2), (4, vI l4)]) rfl ?_
      exact tX4_countWithout_96 (fun h => hk60 h) F h
    · replace h := ite_n h hc
      refine r_iload_n (j := 2) F rfl rfl dX4_countWithout_73 ?_
      refine r_iload (j := 3) F rfl dX4_countWithout_74 ?_
      refine r_ishr F dX4_countWithout_76 ?_
      refine r_iconst F rfl dX4_countWithout_77 ?_
      refine r_iand F dX4_countWithout_78 ?_
      refine r_if_eq (tgt := 96) F (by decide) dX4_countWithout_79 (fun hc => ?_) (fun hc => ?_)
      · replace h := ite_p h hc
        refine r_sub [0, 1, 2, 3] (ls' := [(0, vR l0), (1, vI l1), (2, vI l2), (4, vI l4)]) rfl ?_
        exact tX4_countWithout_96 (fun h => hk60 h) F h
      · replace h := ite_n h hc
        refine r_aload_n (j := 0) F rfl rfl dX4_countWithout_82 ?_
        replace h := bind_so h
        obtain ⟨a83, h83, h⟩ := h
        refine r_getT (t := 2) rfl clok_4 F (by decide) h83 tw_375 dX4_countWithout_83 ?_
        refine r_aload_n (j := 0) F rfl rfl dX4_countWithout_86 ?_
        replace h := bind_so h
        obtain ⟨a87, h87, h⟩ := h
        refine r_getT (t := 2) rfl clok_4 F (by decide) h87 tw_371 dX4_countWithout_87 ?_
        refine r_iload (j := 3) F rfl dX4_countWithout_90 ?_
        replace h := bind_so h
        obtain ⟨a92, h92, h⟩ := h
        refine r_aald16 F h92 dX4_countWithout_92 ?_
        replace h := bind_so h
        obtain ⟨_, g93, h⟩ := h
        replace h := bind_so h
        obtain ⟨q93, h93, h⟩ := h
        refine r_callV (as := [vR a92]) (rv := none) (kc := 0) (nc := 0) (tX7_keepOnly h93) clok_7 F (gK_so g93) tw_1026 tw_1027 tw_1028 tw_1029 tw_118 ⟨by decide, by decide, show (parseMethodDescriptor yX7_keepOnly.desc).map (fun d => d.parameters.length) = some 1 by decide +kernel⟩ ⟨by decide, by decide⟩ (Nat.le_of_ble_eq_true rfl) dX4_countWithout_93 ?_
        refine r_sub [0, 1, 2, 3] (ls' := [(0, vR l0), (1, vI l1), (2, vI l2), (4, vI l4)]) rfl ?_
        exact tX4_countWithout_96 (fun h => hk60 h) F h
theorem tX4_countWithout_60 {E : En} {p : Program} {l : Launch} {e : Env} {s : State} {m : MethodId} {args : Array Value} {below : List Frame} {meth : Method} {c : Code} {q : Int × Mem} (F : Fx E p s m args meth c cX4_countWithout 5 yX4_countWithout.cls (some FieldType.int) yX4_countWithout.name) : ∀ {fu : Nat} {l0 l1 l2 l4 : Int} {M : Mem}, mX4_countWithout_60 fu l0 l1 l2 l4 M = some q → G E p l e (rmOf 102 0 0) s m args below meth c 5 (QZ E below args s (rmOf 102 0 0) (some (vI q.1)) q.2) 0 0 M 60 [(0, vR l0), (1, vI l1), (2, vI l2), (4, vI l4)] [] := by
  intro fu
  induction fu with
  | zero => intro l0 l1 l2 l4 M h; exact nomatch (show (none : Option (Int × Mem)) = some q from h)
  | succ fu ih => intro l0 l1 l2 l4 M h; exact tbX4_countWithout_60  (fun h => ih h) F h
theorem tX4_countWithout_32 {E : En} {p : Program} {l : Launch} {e : Env} {s : State} {m : MethodId} {args : Array Value} {below : List Frame} {meth : Method} {c : Code} {q : Int × Mem} {l0 l1 l2 s0 : Int} {M : Mem} (F : Fx E p s m args meth c cX4_countWithout 5 yX4_countWithout.cls (some FieldType.int) yX4_countWithout.name) (h : mX4_countWithout_32 l0 l1 l2 s0 M = some q) : G E p l e (rmOf 102 0 0) s m args below meth c 5 (QZ E below args s (rmOf 102 0 0) (some (vI q.1)) q.2) 0 0 M 32 [(0, vR l0), (1, vI l1), (2, vI l2)] [vI s0] := by
  unfold mX4_countWithout_32 at h
  refine r_istore_n (ls' := [(3, vI s0), (0, vR l0), (1, vI l1), (2, vI l2)]) F rfl (by decide) rfl dX4_countWithout_32 ?_
  refine r_iload_n (j := 0) F rfl rfl dX4_countWithout_33 ?_
  refine r_if_eq (tgt := 44) F (by decide) dX4_countWithout_34 (fun hc => ?_) (fun hc => ?_)
  · replace h := ite_p h hc
    refine r_iconst F rfl dX4_countWithout_44 ?_
    obtain rfl := Option.some.inj h
    exact r_iret F dX4_countWithout_45
  · replace h := ite_n h hc
    refine r_aload_n (j := 1) F rfl rfl dX4_countWithout_37 ?_
    replace h := bind_so h
    obtain ⟨_, g38, h⟩ := h
    replace h := bind_so h
    obtain ⟨q38, h38, h⟩ := h
    refine r_callV (as := []) (rv := (some (vI q38.1))) (kc := 0) (nc := 0) (tX4_lookUp h38) clok_4 F (gK_so g38) tw_965 tw_967 tw_40 tw_968 tw_113 ⟨by decide, by decide, show (parseMethodDescriptor yX4_lookUp.desc).map (fun d => d.parameters.length) = some 0 by decide +kernel⟩ ⟨by decide, by decide⟩ (Nat.le_of_ble_eq_true rfl) dX4_countWithout_38 ?_
    refine r_if_ne (tgt := 46) F (by decide) dX4_countWithout_41 (fun hc => ?_) (fun hc => ?_)
    · replace h := ite_n h hc
      refine r_aload_n (j := 1) F rfl rfl dX4_countWithout_46 ?_
      replace h := bind_so h
      obtain ⟨a47, h47, h⟩ := h
      refine r_getT (t := 2) rfl clok_4 F (by decide) h47 tw_375 dX4_countWithout_47 ?_
      refine r_aload_n (j := 1) F rfl rfl dX4_countWithout_50 ?_
      replace h := bind_so h
      obtain ⟨a51, h51, h⟩ := h
      refine r_getT (t := 2) rfl clok_4 F (by decide) h51 tw_373 dX4_countWithout_51 ?_
      replace h := bind_so h
      obtain ⟨_, g54, h⟩ := h
      replace h := bind_so h
      obtain ⟨q54, h54, h⟩ := h
      refine r_callV (as := [vR a51]) (rv := none) (kc := 0) (nc := 0) (tX7_copy h54) clok_7 F (gK_so g54) tw_1003 tw_1004 tw_1005 tw_1006 tw_118 ⟨by decide, by decide, show (parseMethodDescriptor yX7_copy.desc).map (fun d => d.parameters.length) = some 1 by decide +kernel⟩ ⟨by decide, by decide⟩ (Nat.le_of_ble_eq_true rfl) dX4_countWithout_54 ?_
      refine r_iconst F rfl dX4_countWithout_57 ?_
      refine r_istore (ls' := [(4, vI 0), (3, vI s0), (0, vR l0), (1, vI l1), (2, vI l2)]) F (by decide) rfl dX4_countWithout_58 ?_
      refine r_sub [2, 3, 4, 0] (ls' := [(0, vR l0), (1, vI l1), (2, vI l2), (4, vI 0)]) rfl ?_
      exact tX4_countWithout_60 F h
    · replace h := ite_p h hc
      refine r_iconst F rfl dX4_countWithout_44 ?_
      obtain rfl := Option.some.inj h
      exact r_iret F dX4_countWithout_45
theorem tX4_countWithout_31 {E : En} {p : Program} {l : Launch} {e : Env} {s : State} {m : MethodId} {args : Array Value} {below : List Frame} {meth : Method} {c : Code} {q : Int × Mem} {l0 l1 l2 : Int} {M : Mem} (F : Fx E p s m args meth c cX4_countWithout 5 yX4_countWithout.cls (some FieldType.int) yX4_countWithout.name) (h : mX4_countWithout_31 l0 l1 l2 M = some q) : G E p l e (rmOf 102 0 0) s m args below meth c 5 (QZ E below args s (rmOf 102 0 0) (some (vI q.1)) q.2) 0 0 M 31 [(0, vR l0), (1, vI l1), (2, vI l2)] [] := by
  unfold mX4_countWithout_31 at h
  refine r_iconst F rfl dX4_countWithout_31 ?_
  refine r_sub [0, 1, 2] (ls' := [(0, vR l0), (1, vI l1), (2, vI l2)]) rfl ?_
  exact tX4_countWithout_32 F h
theorem tX4_countWithout {l0 l1 : Int} {M : Mem} {q : Int × Mem} (h : mX4_countWithout l0 l1 M = some q) : Ct 102 0 0 yX4_countWithout cX4_countWithout 5 (some FieldType.int) [vR l0, vI l1] M (some (vI q.1)) q.2 := by
  unfold mX4_countWithout at h
  refine Ct.of (by decide) (Nat.le_of_ble_eq_true rfl) ?_
  intro E p l e s m args below meth c F
  refine r_sub [0, 1] (ls' := [(0, vR l0), (1, vI l1)]) rfl ?_
  refine r_aload_n (j := 0) F rfl rfl dX4_countWithout_0 ?_
  replace h := bind_so h
  obtain ⟨a1, h1, h⟩ := h
  refine r_getT (t := 2) rfl clok_4 F (by decide) h1 tw_366 dX4_countWithout_1 ?_
  replace h := bind_so h
  obtain ⟨_, g4, h⟩ := h
  replace h := bind_so h
  obtain ⟨q4, h4, h⟩ := h
  refine r_callV (as := []) (rv := (some (vI q4.1))) (kc := 0) (nc := 0) (tX6_viewedStories h4) clok_6 F (gK_so g4) tw_1008 tw_1009 tw_1010 tw_1011 tw_114 ⟨by decide, by decide, show (parseMethodDescriptor yX6_viewedStories.desc).map (fun d => d.parameters.length) = some 0 by decide +kernel⟩ ⟨by decide, by decide⟩ (Nat.le_of_ble_eq_true rfl) dX4_countWithout_4 ?_
  refine r_istore_n (ls' := [(2, vI q4.1), (0, vR l0), (1, vI l1)]) F rfl (by decide) rfl dX4_countWithout_7 ?_
  refine r_aload_n (j := 1) F rfl rfl dX4_countWithout_8 ?_
  replace h := bind_so h
  obtain ⟨a9, h9, h⟩ := h
  refine r_getT (t := 2) rfl clok_4 F (by decide) h9 tw_366 dX4_countWithout_9 ?_
  refine r_iload_n (j := 2) F rfl rfl dX4_countWithout_12 ?_
  replace h := bind_so h
  obtain ⟨_, g13, h⟩ := h
  replace h := bind_so h
  obtain ⟨q13, h13, h⟩ := h
  refine r_callV (as := [vI l1]) (rv := (some (vI q13.1))) (kc := 0) (nc := 0) (tX6_hasStory h13) clok_6 F (gK_so g13) tw_1182 tw_867 tw_868 tw_869 tw_114 ⟨by decide, by decide, show (parseMethodDescriptor yX6_hasStory.desc).map (fun d => d.parameters.length) = some 1 by decide +kernel⟩ ⟨by decide, by decide⟩ (Nat.le_of_ble_eq_true rfl) dX4_countWithout_13 ?_
  refine r_if_eq (tgt := 31) F (by decide) dX4_countWithout_16 (fun hc => ?_) (fun hc => ?_)
  · replace h := ite_p h hc
    refine r_sub [1, 2, 0] (ls' := [(0, vR l0), (1, vI l1), (2, vI q4.1)]) rfl ?_
    exact tX4_countWithout_31 F h
  · replace h := ite_n h hc
    refine r_iload_n (j := 0) F rfl rfl dX4_countWithout_19 ?_
    refine r_iload_n (j := 2) F rfl rfl dX4_countWithout_20 ?_
    refine r_ishr F dX4_countWithout_21 ?_
    refine r_iconst F rfl dX4_countWithout_22 ?_
    refine r_iand F dX4_countWithout_23 ?_
    refine r_if_eq (tgt := 31) F (by decide) dX4_countWithout_24 (fun hc => ?_) (fun hc => ?_)
    · replace h := ite_p h hc
      refine r_sub [1, 2, 0] (ls' := [(0, vR l0), (1, vI l1), (2, vI q4.1)]) rfl ?_
      exact tX4_countWithout_31 F h
    · replace h := ite_n h hc
      refine r_iconst F rfl dX4_countWithout_27 ?_
      refine r_goto (tgt := 32) F (by decide) dX4_countWithout_28 ?_
      refine r_sub [1, 2, 0] (ls' := [(0, vR l0), (1, vI l1), (2, vI q4.1)]) rfl ?_
      exact tX4_countWithout_32 F h
theorem tX4_takeAsked_112 {E : En} {p : Program} {l : Launch} {e : Env} {s : State} {m : MethodId} {args : Array Value} {below : List Frame} {meth : Method} {c : Code} {q : Int × Mem} {k33 : Int → Int → Int → Int → Mem → Option (Int × Mem)} (hk33 : ∀ {l0 l1 l2 l3 : Int} {M : Mem}, k33 l0 l1 l2 l3 M = some q → G E p l e (rmOf 3 0 0) s m args below meth c 6 (QZ E below args s (rmOf 3 0 0) (some (vI q.1)) q.2) 0 0 M 33 [(0, vR l0), (1, vI l1), (2, vI l2), (3, vI l3)] []) {l0 l1 l2 l3 : Int} {M : Mem} (F : Fx E p s m args meth c cX4_takeAsked 6 yX4_takeAsked.cls (some FieldType.int) yX4_takeAsked.name) (h : mX4_takeAsked_112 k33 l0 l1 l2 l3 M = some q) : G E p l e (rmOf 3 0 0) s m args below meth c 6 (QZ E below args s (rmOf 3 0 0) (some (vI q.1)) q.2) 0 0 M 112 [(0, vR l0), (1, vI l1), (2, vI l2), (3, vI l3)] [] := by
  unfold mX4_takeAsked_112 at h
  refine r_iload_n (j := 1) F rfl rfl dX4_takeAsked_112 ?_
  refine r_iconst F rfl dX4_takeAsked_113 ?_
  refine r_iload_n (j := 3) F rfl rfl dX4_takeAsked_114 ?_
  refine r_ishl F dX4_takeAsked_115 ?_
  refine r_ior F dX4_takeAsked_116 ?_
  refine r_istore_n (ls' := [(1, vI (ior l1 (ishl 1 l3))), (0, vR l0), (2, vI l2), (3, vI l3)]) F rfl (by decide) rfl dX4_takeAsked_117 ?_
  refine r_iinc (j := 3) (ls' := [(3, vI (wI (l3 + 1))), (1, vI (ior l1 (ishl 1 l3))), (0, vR l0), (2, vI l2)]) F rfl (by decide) rfl dX4_takeAsked_118 ?_
  refine r_goto (tgt := 33) F (by decide) dX4_takeAsked_121 ?_
  refine r_sub [2, 1, 3, 0] (ls' := [(0, vR l0), (1, vI (ior l1 (ishl 1 l3))), (2, vI l2), (3, vI (wI (l3 + 1)))]) rfl ?_
  exact hk33 h
theorem tX4_takeAsked_106 {E : En} {p : Program} {l : Launch} {e : Env} {s : State} {m : MethodId} {args : Array Value} {below : List Frame} {meth : Method} {c : Code} {q : Int × Mem} {k33 : Int → Int → Int → Int → Mem → Option (Int × Mem)} {k51 : Int → Int → Int → Int → Int → Int → Mem → Option (Int × Mem)} (hk33 : ∀ {l0 l1 l2 l3 : Int} {M : Mem}, k33 l0 l1 l2 l3 M = some q → G E p l e (rmOf 3 0 0) s m args below meth c 6 (QZ E below args s (rmOf 3 0 0) (some (vI q.1)) q.2) 0 0 M 33 [(0, vR l0), (1, vI l1), (2, vI l2), (3, vI l3)] []) (hk51 : ∀ {l0 l1 l2 l3 l4 l5 : Int} {M : Mem}, k51 l0 l1 l2 l3 l4 l5 M = some q → G E p l e (rmOf 3 0 0) s m args below meth c 6 (QZ E below args s (rmOf 3 0 0) (some (vI q.1)) q.2) 0 0 M 51 [(0, vR l0), (1, vI l1), (2, vI l2), (3, vI l3), (4, vI l4), (5, vI l5)] []) {l0 l1 l2 l3 l4 l5 : Int} {M : Mem} (F : Fx E p s m args meth c cX4_takeAsked 6 yX4_takeAsked.cls (some FieldType.int) yX4_takeAsked.name) (h : mX4_takeAsked_106 k33 k51 l0 l1 l2 l3 l4 l5 M = some q) : G E p l e (rmOf 3 0 0) s m args below meth c 6 (QZ E below args s (rmOf 3 0 0) (some (vI q.1)) q.2) 0 0 M 106 [(0, vR l0), (1, vI l1), (2, vI l2), (3, vI l3), (4, vI l4), (5, vI l5)] [] := by
  unfold mX4_takeAsked_106 at h
  refine r_iinc (j := 5) (ls' := [(5, vI (wI (l5 + 1))), (0, vR l0), (1, vI l1), (2, vI l2), (3, vI l3), (4, vI l4)]) F rfl (by decide) rfl dX4_takeAsked_106 ?_
  refine r_goto (tgt := 51) F (by decide) dX4_takeAsked_109 ?_
  refine r_sub [1, 2, 3, 4, 5, 0] (ls' := [(0, vR l0), (1, vI l1), (2, vI l2), (3, vI l3), (4, vI l4), (5, vI (wI (l5 + 1)))]) rfl ?_
  exact hk51 h
theorem tbX4_takeAsked_51 {E : En} {p : Program} {l : Launch} {e : Env} {s : State} {m : MethodId} {args : Array Value} {below : List Frame} {meth : Method} {c : Code} {q : Int × Mem} {k33 : Int → Int → Int → Int → Mem → Option (Int × Mem)} (hk33 : ∀ {l0 l1 l2 l3 : Int} {M : Mem}, k33 l0 l1 l2 l3 M = some q → G E p l e (rmOf 3 0 0) s m args below meth c 6 (QZ E below args s (rmOf 3 0 0) (some (vI q.1)) q.2) 0 0 M 33 [(0, vR l0), (1, vI l1), (2, vI l2), (3, vI l3)] []) {k51 : Int → Int → Int → Int → Int → Int → Mem → Option (Int × Mem)} (hk51 : ∀ {l0 l1 l2 l3 l4 l5 : Int} {M : Mem}, k51 l0 l1 l2 l3 l4 l5 M = some q → G E p l e (rmOf 3 0 0) s m args below meth c 6 (QZ E below args s (rmOf 3 0 0) (some (vI q.1)) q.2) 0 0 M 51 [(0, vR l0), (1, vI l1), (2, vI l2), (3, vI l3), (4, vI l4), (5, vI l5)] []) {l0 l1 l2 l3 l4 l5 : Int} {M : Mem} (F : Fx E p s m args meth c cX4_takeAsked 6 yX4_takeAsked.cls (some FieldType.int) yX4_takeAsked.name) (h : bX4_takeAsked_51 k33 k51 l0 l1 l2 l3 l4 l5 M = some q) : G E p l e (rmOf 3 0 0) s m args below meth c 6 (QZ E below args s (rmOf 3 0 0) (some (vI q.1)) q.2) 0 0 M 51 [(0, vR l0), (1, vI l1), (2, vI l2), (3, vI l3), (4, vI l4), (5, vI l5)] [] := by
  unfold bX4_takeAsked_51 at h
  refine r_iload (j := 5) F rfl dX4_takeAsked_51 ?_
  refine r_aload_n (j := 0) F rfl rfl dX4_takeAsked_53 ?_
  replace h := bind_so h
  obtain ⟨a54, h54, h⟩ := h
  refine r_getT (t := 2) rfl clok_4 F (by decide) h54 tw_366 dX4_takeAsked_54 ?_
  replace h := bind_so h
  obtain ⟨a57, h57, h⟩ := h
  refine r_getT (t := 2) rfl clok_6 F (by decide) h57 tw_209 dX4_takeAsked_57 ?_
  replace h := bind_so h
  obtain ⟨a60, h60, h⟩ := h
  refine r_getT (t := 0) rfl clok_3 F (by decide) h60 tw_184 dX4_takeAsked_60 ?_
  refine r_icmp_ge (tgt := 112) F (by decide) dX4_takeAsked_63 (fun hc => ?_) (fun hc => ?_)
  · replace h := ite_p h hc
    refine r_sub [0, 1, 2, 3] (ls' := [(0, vR l0), (1, vI l1), (2, vI l2), (3, vI l3)]) rfl ?_
    exact tX4_takeAsked_112 (fun h => hk33 h) F h
  · replace h := ite_n h hc
    refine r_iload (j := 5) F rfl dX4_takeAsked_66 ?_
    refine r_bipush F rfl (by decide) dX4_takeAsked_68 ?_
    refine r_icmp_ge (tgt := 112) F (by decide) dX4_takeAsked_70 (fun hc => ?_) (fun hc => ?_)
    · replace h := ite_p h hc
      refine r_sub [0, 1, 2, 3] (ls' := [(0, vR l0), (1, vI l1), (2, vI l2), (3, vI l3)]) rfl ?_
      exact tX4_takeAsked_112 (fun h => hk33 h) F h
    · replace h := ite_n h hc
      refine r_iload (j := 4) F rfl dX4_takeAsked_73 ?_
      refine r_aload_n (j := 0) F rfl rfl dX4_takeAsked_75 ?_
      replace h := bind_so h
      obtain ⟨a76, h76, h⟩ := h
      refine r_getT (t := 2) rfl clok_4 F (by decide) h76 tw_366 dX4_takeAsked_76 ?_
      replace h := bind_so h
      obtain ⟨a79, h79, h⟩ := h
      refine r_getT (t := 2) rfl clok_6 F (by decide) h79 tw_209 dX4_takeAsked_79 ?_
      refine r_iload (j := 5) F rfl dX4_takeAsked_82 ?_
      replace h := bind_so h
      obtain ⟨_, g84, h⟩ := h
      replace h := bind_so h
      obtain ⟨q84, h84, h⟩ := h
      refine r_callV (as := [vI l5]) (rv := (some (vI q84.1))) (kc := 0) (nc := 0) (tX3_bit h84) clok_3 F (gK_so g84) tw_993 tw_555 tw_556 tw_557 tw_115 ⟨by decide, by decide, show (parseMethodDescriptor yX3_bit.desc).map (fun d => d.parameters.length) = some 1 by decide +kernel⟩ ⟨by decide, by decide⟩ (Nat.le_of_ble_eq_true rfl) dX4_takeAsked_84 ?_
      refine r_ishr F dX4_takeAsked_87 ?_
      refine r_iconst F rfl dX4_takeAsked_88 ?_
      refine r_iand F dX4_takeAsked_89 ?_
      refine r_if_eq (tgt := 106) F (by decide) dX4_takeAsked_90 (fun hc => ?_) (fun hc => ?_)
      · replace h := ite_p h hc
        refine r_sub [0, 1, 2, 3, 4, 5] (ls' := [(0, vR l0), (1, vI l1), (2, vI l2), (3, vI l3), (4, vI l4), (5, vI l5)]) rfl ?_
        exact tX4_takeAsked_106 (fun h => hk33 h) (fun h => hk51 h) F h
      · replace h := ite_n h hc
        refine r_aload_n (j := 0) F rfl rfl dX4_takeAsked_93 ?_
        replace h := bind_so h
        obtain ⟨a94, h94, h⟩ := h
        refine r_getT (t := 2) rfl clok_4 F (by decide) h94 tw_379 dX4_takeAsked_94 ?_
        refine r_iload (j := 5) F rfl dX4_takeAsked_97 ?_
        refine r_dup2 F rfl rfl dX4_takeAsked_99 ?_
        replace h := bind_so h
        obtain ⟨a100, h100, h⟩ := h
        refine r_iald F h100 dX4_takeAsked_100 ?_
        refine r_iconst F rfl dX4_takeAsked_101 ?_
        refine r_iload_n (j := 3) F rfl rfl dX4_takeAsked_102 ?_
        refine r_ishl F dX4_takeAsked_103 ?_
        refine r_ior F dX4_takeAsked_104 ?_
        replace h := bind_so h
        obtain ⟨M105, h105, h⟩ := h
        refine r_iast F h105 dX4_takeAsked_105 ?_
        refine r_sub [0, 1, 2, 3, 4, 5] (ls' := [(0, vR l0), (1, vI l1), (2, vI l2), (3, vI l3), (4, vI l4), (5, vI l5)]) rfl ?_
        exact tX4_takeAsked_106 (fun h => hk33 h) (fun h => hk51 h) F h
theorem tX4_takeAsked_51 {E : En} {p : Program} {l : Launch} {e : Env} {s : State} {m : MethodId} {args : Array Value} {below : List Frame} {meth : Method} {c : Code} {q : Int × Mem} {k33 : Int → Int → Int → Int → Mem → Option (Int × Mem)} (hk33 : ∀ {l0 l1 l2 l3 : Int} {M : Mem}, k33 l0 l1 l2 l3 M = some q → G E p l e (rmOf 3 0 0) s m args below meth c 6 (QZ E below args s (rmOf 3 0 0) (some (vI q.1)) q.2) 0 0 M 33 [(0, vR l0), (1, vI l1), (2, vI l2), (3, vI l3)] []) (F : Fx E p s m args meth c cX4_takeAsked 6 yX4_takeAsked.cls (some FieldType.int) yX4_takeAsked.name) : ∀ {fu : Nat} {l0 l1 l2 l3 l4 l5 : Int} {M : Mem}, mX4_takeAsked_51 k33 fu l0 l1 l2 l3 l4 l5 M = some q → G E p l e (rmOf 3 0 0) s m args below meth c 6 (QZ E below args s (rmOf 3 0 0) (some (vI q.1)) q.2) 0 0 M 51 [(0, vR l0), (1, vI l1), (2, vI l2), (3, vI l3), (4, vI l4), (5, vI l5)] [] := by
  intro fu
  induction fu with
  | zero => intro l0 l1 l2 l3 l4 l5 M h; exact nomatch (show (none : Option (Int × Mem)) = some q from h)
  | succ fu ih => intro l0 l1 l2 l3 l4 l5 M h; exact tbX4_takeAsked_51 (fun h => hk33 h) (fun h => ih h) F h
theorem tbX4_takeAsked_33 {E : En} {p : Program} {l : Launch} {e : Env} {s : State} {m : MethodId} {args : Array Value} {below : List Frame} {meth : Method} {c : Code} {q : Int × Mem} {k33 : Int → Int → Int → Int → Mem → Option (Int × Mem)} (hk33 : ∀ {l0 l1 l2 l3 : Int} {M : Mem}, k33 l0 l1 l2 l3 M = some q → G E p l e (rmOf 3 0 0) s m args below meth c 6 (QZ E below args s (rmOf 3 0 0) (some (vI q.1)) q.2) 0 0 M 33 [(0, vR l0), (1, vI l1), (2, vI l2), (3, vI l3)] []) {l0 l1 l2 l3 : Int} {M : Mem} (F : Fx E p s m args meth c cX4_takeAsked 6 yX4_takeAsked.cls (some FieldType.int) yX4_takeAsked.name) (h : bX4_takeAsked_33 k33 l0 l1 l2 l3 M = some q) : G E p l e (rmOf 3 0 0) s m args below meth c 6 (QZ E below args s (rmOf 3 0 0) (some (vI q.1)) q.2) 0 0 M 33 [(0, vR l0), (1, vI l1), (2, vI l2), (3, vI l3)] [] := by
  unfold bX4_takeAsked_33 at h
  refine r_iload_n (j := 3) F rfl rfl dX4_takeAsked_33 ?_
  refine r_iload_n (j := 2) F rfl rfl dX4_takeAsked_34 ?_
  refine r_icmp_ge (tgt := 124) F (by decide) dX4_takeAsked_35 (fun hc => ?_) (fun hc => ?_)
  · replace h := ite_p h hc
    refine r_iload_n (j := 1) F rfl rfl dX4_takeAsked_124 ?_
    obtain rfl := Option.some.inj h
    exact r_iret F dX4_takeAsked_125
  · replace h := ite_n h hc
    refine r_aload_n (j := 0) F rfl rfl dX4_takeAsked_38 ?_
    replace h := bind_so h
    obtain ⟨a39, h39, h⟩ := h
    refine r_getT (t := 2) rfl clok_4 F (by decide) h39 tw_374 dX4_takeAsked_39 ?_
    refine r_iload_n (j := 3) F rfl rfl dX4_takeAsked_42 ?_
    replace h := bind_so h
    obtain ⟨_, g43, h⟩ := h
    replace h := bind_so h
    obtain ⟨q43, h43, h⟩ := h
    refine r_callV (as := [vI l3]) (rv := (some (vI q43.1))) (kc := 0) (nc := 0) (tX7_nth h43) clok_7 F (gK_so g43) tw_1082 tw_1083 tw_1084 tw_1085 tw_118 ⟨by decide, by decide, show (parseMethodDescriptor yX7_nth.desc).map (fun d => d.parameters.length) = some 1 by decide +kernel⟩ ⟨by decide, by decide⟩ (Nat.le_of_ble_eq_true rfl) dX4_takeAsked_43 ?_
    refine r_istore (ls' := [(4, vI q43.1), (0, vR l0), (1, vI l1), (2, vI l2), (3, vI l3)]) F (by decide) rfl dX4_takeAsked_46 ?_
    refine r_iconst F rfl dX4_takeAsked_48 ?_
    refine r_istore (ls' := [(5, vI 0), (4, vI q43.1), (0, vR l0), (1, vI l1), (2, vI l2), (3, vI l3)]) F (by decide) rfl dX4_takeAsked_49 ?_
    refine r_sub [2, 3, 4, 5, 1, 0] (ls' := [(0, vR l0), (1, vI l1), (2, vI l2), (3, vI l3), (4, vI q43.1), (5, vI 0)]) rfl ?_
    exact tX4_takeAsked_51 (fun h => hk33 h) F h
theorem tX4_takeAsked_33 {E : En} {p : Program} {l : Launch} {e : Env} {s : State} {m : MethodId} {args : Array Value} {below : List Frame} {meth : Method} {c : Code} {q : Int × Mem} (F : Fx E p s m args meth c cX4_takeAsked 6 yX4_takeAsked.cls (some FieldType.int) yX4_takeAsked.name) : ∀ {fu : Nat} {l0 l1 l2 l3 : Int} {M : Mem}, mX4_takeAsked_33 fu l0 l1 l2 l3 M = some q → G E p l e (rmOf 3 0 0) s m args below meth c 6 (QZ E below args s (rmOf 3 0 0) (some (vI q.1)) q.2) 0 0 M 33 [(0, vR l0), (1, vI l1), (2, vI l2), (3, vI l3)] [] := by
  intro fu
  induction fu with
  | zero => intro l0 l1 l2 l3 M h; exact nomatch (show (none : Option (Int × Mem)) = some q from h)
  | succ fu ih => intro l0 l1 l2 l3 M h; exact tbX4_takeAsked_33  (fun h => ih h) F h
theorem tbX4_takeAsked_4 {E : En} {p : Program} {l : Launch} {e : Env} {s : State} {m : MethodId} {args : Array Value} {below : List Frame} {meth : Method} {c : Code} {q : Int × Mem} {k4 : Int → Int → Int → Mem → Option (Int × Mem)} (hk4 : ∀ {l0 l1 l2 : Int} {M : Mem}, k4 l0 l1 l2 M = some q → G E p l e (rmOf 3 0 0) s m args below meth c 6 (QZ E below args s (rmOf 3 0 0) (some (vI q.1)) q.2) 0 0 M 4 [(0, vR l0), (1, vI l1), (2, vI l2)] []) {l0 l1 l2 : Int} {M : Mem} (F : Fx E p s m args meth c cX4_takeAsked 6 yX4_takeAsked.cls (some FieldType.int) yX4_takeAsked.name) (h : bX4_takeAsked_4 k4 l0 l1 l2 M = some q) : G E p l e (rmOf 3 0 0) s m args below meth c 6 (QZ E below args s (rmOf 3 0 0) (some (vI q.1)) q.2) 0 0 M 4 [(0, vR l0), (1, vI l1), (2, vI l2)] [] := by
  unfold bX4_takeAsked_4 at h
  refine r_iload_n (j := 2) F rfl rfl dX4_takeAsked_4 ?_
  refine r_bipush F rfl (by decide) dX4_takeAsked_5 ?_
  refine r_icmp_ge (tgt := 23) F (by decide) dX4_takeAsked_7 (fun hc => ?_) (fun hc => ?_)
  · replace h := ite_p h hc
    refine r_aload_n (j := 0) F rfl rfl dX4_takeAsked_23 ?_
    replace h := bind_so h
    obtain ⟨a24, h24, h⟩ := h
    refine r_getT (t := 2) rfl clok_4 F (by decide) h24 tw_374 dX4_takeAsked_24 ?_
    replace h := bind_so h
    obtain ⟨_, g27, h⟩ := h
    replace h := bind_so h
    obtain ⟨q27, h27, h⟩ := h
    refine r_callV (as := []) (rv := (some (vI q27.1))) (kc := 0) (nc := 0) (tX7_count h27) clok_7 F (gK_so g27) tw_1030 tw_1031 tw_1032 tw_1033 tw_118 ⟨by decide, by decide, show (parseMethodDescriptor yX7_count.desc).map (fun d => d.parameters.length) = some 0 by decide +kernel⟩ ⟨by decide, by decide⟩ (Nat.le_of_ble_eq_true rfl) dX4_takeAsked_27 ?_
    refine r_istore_n (ls' := [(2, vI q27.1), (0, vR l0), (1, vI l1)]) F rfl (by decide) rfl dX4_takeAsked_30 ?_
    refine r_iconst F rfl dX4_takeAsked_31 ?_
    refine r_istore_n (ls' := [(3, vI 0), (2, vI q27.1), (0, vR l0), (1, vI l1)]) F rfl (by decide) rfl dX4_takeAsked_32 ?_
    refine r_sub [2, 3, 1, 0] (ls' := [(0, vR l0), (1, vI l1), (2, vI q27.1), (3, vI 0)]) rfl ?_
    exact tX4_takeAsked_33 F h
  · replace h := ite_n h hc
    refine r_aload_n (j := 0) F rfl rfl dX4_takeAsked_10 ?_
    replace h := bind_so h
    obtain ⟨a11, h11, h⟩ := h
    refine r_getT (t := 2) rfl clok_4 F (by decide) h11 tw_379 dX4_takeAsked_11 ?_
    refine r_iload_n (j := 2) F rfl rfl dX4_takeAsked_14 ?_
    refine r_iconst F rfl dX4_takeAsked_15 ?_
    replace h := bind_so h
    obtain ⟨M16, h16, h⟩ := h
    refine r_iast F h16 dX4_takeAsked_16 ?_
    refine r_iinc (j := 2) (ls' := [(2, vI (wI (l2 + 1))), (0, vR l0), (1, vI l1)]) F rfl (by decide) rfl dX4_takeAsked_17 ?_
    refine r_goto (tgt := 4) F (by decide) dX4_takeAsked_20 ?_
    refine r_sub [1, 2, 0] (ls' := [(0, vR l0), (1, vI l1), (2, vI (wI (l2 + 1)))]) rfl ?_
    exact hk4 h
theorem tX4_takeAsked_4 {E : En} {p : Program} {l : Launch} {e : Env} {s : State} {m : MethodId} {args : Array Value} {below : List Frame} {meth : Method} {c : Code} {q : Int × Mem} (F : Fx E p s m args meth c cX4_takeAsked 6 yX4_takeAsked.cls (some FieldType.int) yX4_takeAsked.name) : ∀ {fu : Nat} {l0 l1 l2 : Int} {M : Mem}, mX4_takeAsked_4 fu l0 l1 l2 M = some q → G E p l e (rmOf 3 0 0) s m args below meth c 6 (QZ E below args s (rmOf 3 0 0) (some (vI q.1)) q.2) 0 0 M 4 [(0, vR l0), (1, vI l1), (2, vI l2)] [] := by
  intro fu
  induction fu with
  | zero => intro l0 l1 l2 M h; exact nomatch (show (none : Option (Int × Mem)) = some q from h)
  | succ fu ih => intro l0 l1 l2 M h; exact tbX4_takeAsked_4  (fun h => ih h) F h
theorem tX4_takeAsked {l0 : Int} {M : Mem} {q : Int × Mem} (h : mX4_takeAsked l0 M = some q) : Ct 3 0 0 yX4_takeAsked cX4_takeAsked 6 (some FieldType.int) [vR l0] M (some (vI q.1)) q.2 := by
  unfold mX4_takeAsked at h
  refine Ct.of (by decide) (Nat.le_of_ble_eq_true rfl) ?_
  intro E p l e s m args below meth c F
  refine r_sub [0] (ls' := [(0, vR l0)]) rfl ?_
  refine r_iconst F rfl dX4_takeAsked_0 ?_
  refine r_istore_n (ls' := [(1, vI 0), (0, vR l0)]) F rfl (by decide) rfl dX4_takeAsked_1 ?_
  refine r_iconst F rfl dX4_takeAsked_2 ?_
  refine r_istore_n (ls' := [(2, vI 0), (1, vI 0), (0, vR l0)]) F rfl (by decide) rfl dX4_takeAsked_3 ?_
  refine r_sub [2, 1, 0] (ls' := [(0, vR l0), (1, vI 0), (2, vI 0)]) rfl ?_
  exact tX4_takeAsked_4 F h
theorem tX4_suffice_98 {E : En} {p : Program} {l : Launch} {e : Env} {s : State} {m : MethodId} {args : Array Value} {below : List Frame} {meth : Method} {c : Code} {q : Int × Mem} {H : Nat} (hH : 8 ≤ H) {f_suffice : Int → Int → Int → Mem → Option (Int × Mem)} (hf_suffice : ∀ {x0 x1 x2 : Int} {M : Mem} {q : Int × Mem}, f_suffice x0 x1 x2 M = some q → Ct H 0 0 yX4_suffice cX4_suffice 7 (some FieldType.boolean) [vR x0, vI x1, vI x2] M (some (vI q.1)) q.2) {k28 : Int → Int → Int → Int → Mem → Option (Int × Mem)} (hk28 : ∀ {l0 l1 l2 l3 : Int} {M : Mem}, k28 l0 l1 l2 l3 M = some q → G E p l e (rmOf (H + 1) 0 0) s m args below meth c 7 (QZ E below args s (rmOf (H + 1) 0 0) (some (vI q.1)) q.2) 0 0 M 28 [(0, vR l0), (1, vI l1), (2, vI l2), (3, vI l3)] []) {l0 l1 l2 l3 : Int} {M : Mem} (F : Fx E p s m args meth c cX4_suffice 7 yX4_suffice.cls (some FieldType.boolean) yX4_suffice.name) (h : mX4_suffice_98 k28 f_suffice l0 l1 l2 l3 M = some q) : G E p l e (rmOf (H + 1) 0 0) s m args below meth c 7 (QZ E below args s (rmOf (H + 1) 0 0) (some (vI q.1)) q.2) 0 0 M 98 [(0, vR l0), (1, vI l1), (2, vI l2), (3, vI l3)] [] := by
  unfold mX4_suffice_98 at h
  refine r_iinc (j := 3) (ls' := [(3, vI (wI (l3 + 1))), (0, vR l0), (1, vI l1), (2, vI l2)]) F rfl (by decide) rfl dX4_suffice_98 ?_
  refine r_goto (tgt := 28) F (by decide) dX4_suffice_101 ?_
  refine r_sub [1, 2, 3, 0] (ls' := [(0, vR l0), (1, vI l1), (2, vI l2), (3, vI (wI (l3 + 1)))]) rfl ?_
  exact hk28 h
theorem tX4_suffice_65 {E : En} {p : Program} {l : Launch} {e : Env} {s : State} {m : MethodId} {args : Array Value} {below : List Frame} {meth : Method} {c : Code} {q : Int × Mem} {H : Nat} (hH : 8 ≤ H) {f_suffice : Int → Int → Int → Mem → Option (Int × Mem)} (hf_suffice : ∀ {x0 x1 x2 : Int} {M : Mem} {q : Int × Mem}, f_suffice x0 x1 x2 M = some q → Ct H 0 0 yX4_suffice cX4_suffice 7 (some FieldType.boolean) [vR x0, vI x1, vI x2] M (some (vI q.1)) q.2) {k28 : Int → Int → Int → Int → Mem → Option (Int × Mem)} (hk28 : ∀ {l0 l1 l2 l3 : Int} {M : Mem}, k28 l0 l1 l2 l3 M = some q → G E p l e (rmOf (H + 1) 0 0) s m args below meth c 7 (QZ E below args s (rmOf (H + 1) 0 0) (some (vI q.1)) q.2) 0 0 M 28 [(0, vR l0), (1, vI l1), (2, vI l2), (3, vI l3)] []) {l0 l1 l2 l3 l4 l5 s0 : Int} {M : Mem} (F : Fx E p s m args meth c cX4_suffice 7 yX4_suffice.cls (some FieldType.boolean) yX4_suffice.name) (h : mX4_suffice_65 k28 f_suffice l0 l1 l2 l3 l4 l5 s0 M = some q) : G E p l e (rmOf (H + 1) 0 0) s m args below meth c 7 (QZ E below args s (rmOf (H + 1) 0 0) (some (vI q.1)) q.2) 0 0 M 65 [(0, vR l0), (1, vI l1), (2, vI l2), (3, vI l3), (4, vI l4), (5, vI l5)] [vI s0] := by
  unfold mX4_suffice_65 at h
  refine r_istore (ls' := [(6, vI s0), (0, vR l0), (1, vI l1), (2, vI l2), (3, vI l3), (4, vI l4), (5, vI l5)]) F (by decide) rfl dX4_suffice_65 ?_
  refine r_iload (j := 0) F rfl dX4_suffice_67 ?_
  refine r_if_eq (tgt := 98) F (by decide) dX4_suffice_69 (fun hc => ?_) (fun hc => ?_)
  · replace h := ite_p h hc
    refine r_sub [1, 2, 3, 4] (ls' := [(0, vR l0), (1, vI l1), (2, vI l2), (3, vI l3)]) rfl ?_
    exact tX4_suffice_98 hH (fun h => hf_suffice h) (fun h => hk28 h) F h
  · replace h := ite_n h hc
    refine r_aload_n (j := 1) F rfl rfl dX4_suffice_72 ?_
    refine r_iload (j := 5) F rfl dX4_suffice_73 ?_
    refine r_iload_n (j := 3) F rfl rfl dX4_suffice_75 ?_
    refine r_iconst F rfl dX4_suffice_76 ?_
    refine r_isub F dX4_suffice_77 ?_
    replace h := bind_so h
    obtain ⟨q78, h78, h⟩ := h
    refine r_callS (as := [vR l0, vI l4, vI (wI (l2 - 1))]) (rv := (some (vI q78.1))) (kc := 0) (nc := 0) (hf_suffice h78) F tw_1195 tw_1196 tw_1197 tw_113 ⟨by decide, by decide, show (parseMethodDescriptor yX4_suffice.desc).map (fun d => d.parameters.length) = some 3 by decide +kernel⟩ ⟨by show _ ≤ H + 1; omega, by show _ ≤ 64 * (H + 1); omega⟩ (Nat.le_of_ble_eq_true rfl) dX4_suffice_78 ?_
    refine r_if_eq (tgt := 98) F (by decide) dX4_suffice_81 (fun hc => ?_) (fun hc => ?_)
    · replace h := ite_p h hc
      refine r_sub [1, 2, 3, 4] (ls' := [(0, vR l0), (1, vI l1), (2, vI l2), (3, vI l3)]) rfl ?_
      exact tX4_suffice_98 hH (fun h => hf_suffice h) (fun h => hk28 h) F h
    · replace h := ite_n h hc
      refine r_aload_n (j := 1) F rfl rfl dX4_suffice_84 ?_
      refine r_iload (j := 6) F rfl dX4_suffice_85 ?_
      refine r_iload_n (j := 3) F rfl rfl dX4_suffice_87 ?_
      refine r_iconst F rfl dX4_suffice_88 ?_
      refine r_isub F dX4_suffice_89 ?_
      replace h := bind_so h
      obtain ⟨q90, h90, h⟩ := h
      refine r_callS (as := [vR l0, vI l5, vI (wI (l2 - 1))]) (rv := (some (vI q90.1))) (kc := 0) (nc := 0) (hf_suffice h90) F tw_1195 tw_1196 tw_1197 tw_113 ⟨by decide, by decide, show (parseMethodDescriptor yX4_suffice.desc).map (fun d => d.parameters.length) = some 3 by decide +kernel⟩ ⟨by show _ ≤ H + 1; omega, by show _ ≤ 64 * (H + 1); omega⟩ (Nat.le_of_ble_eq_true rfl) dX4_suffice_90 ?_
      refine r_if_eq (tgt := 98) F (by decide) dX4_suffice_93 (fun hc => ?_) (fun hc => ?_)
      · replace h := ite_p h hc
        refine r_sub [1, 2, 3, 4] (ls' := [(0, vR l0), (1, vI l1), (2, vI l2), (3, vI l3)]) rfl ?_
        exact tX4_suffice_98 hH (fun h => hf_suffice h) (fun h => hk28 h) F h
      · replace h := ite_n h hc
        refine r_iconst F rfl dX4_suffice_96 ?_
        obtain rfl := Option.some.inj h
        exact r_zret (Or.inr rfl) F dX4_suffice_97
theorem tX4_suffice_64 {E : En} {p : Program} {l : Launch} {e : Env} {s : State} {m : MethodId} {args : Array Value} {below : List Frame} {meth : Method} {c : Code} {q : Int × Mem} {H : Nat} (hH : 8 ≤ H) {f_suffice : Int → Int → Int → Mem → Option (Int × Mem)} (hf_suffice : ∀ {x0 x1 x2 : Int} {M : Mem} {q : Int × Mem}, f_suffice x0 x1 x2 M = some q → Ct H 0 0 yX4_suffice cX4_suffice 7 (some FieldType.boolean) [vR x0, vI x1, vI x2] M (some (vI q.1)) q.2) {k28 : Int → Int → Int → Int → Mem → Option (Int × Mem)} (hk28 : ∀ {l0 l1 l2 l3 : Int} {M : Mem}, k28 l0 l1 l2 l3 M = some q → G E p l e (rmOf (H + 1) 0 0) s m args below meth c 7 (QZ E below args s (rmOf (H + 1) 0 0) (some (vI q.1)) q.2) 0 0 M 28 [(0, vR l0), (1, vI l1), (2, vI l2), (3, vI l3)] []) {l0 l1 l2 l3 l4 l5 : Int} {M : Mem} (F : Fx E p s m args meth c cX4_suffice 7 yX4_suffice.cls (some FieldType.boolean) yX4_suffice.name) (h : mX4_suffice_64 k28 f_suffice l0 l1 l2 l3 l4 l5 M = some q) : G E p l e (rmOf (H + 1) 0 0) s m args below meth c 7 (QZ E below args s (rmOf (H + 1) 0 0) (some (vI q.1)) q.2) 0 0 M 64 [(0, vR l0), (1, vI l1), (2, vI l2), (3, vI l3), (4, vI l4), (5, vI l5)] [] := by
  unfold mX4_suffice_64 at h
  refine r_iconst F rfl dX4_suffice_64 ?_
  refine r_sub [0, 1, 2, 3, 4, 5] (ls' := [(0, vR l0), (1, vI l1), (2, vI l2), (3, vI l3), (4, vI l4), (5, vI l5)]) rfl ?_
  exact tX4_suffice_65 hH (fun h => hf_suffice h) (fun h => hk28 h) F h
theorem tbX4_suffice_28 {E : En} {p : Program} {l : Launch} {e : Env} {s : State} {m : MethodId} {args : Array Value} {below : List Frame} {meth : Method} {c : Code} {q : Int × Mem} {H : Nat} (hH : 8 ≤ H) {f_suffice : Int → Int → Int → Mem → Option (Int × Mem)} (hf_suffice : ∀ {x0 x1 x2 : Int} {M : Mem} {q : Int × Mem}, f_suffice x0 x1 x2 M = some q → Ct H 0 0 yX4_suffice cX4_suffice 7 (some FieldType.boolean) [vR x0, vI x1, vI x2] M (some (vI q.1)) q.2) {k28 : Int → Int → Int → Int → Mem → Option (Int × Mem)} (hk28 : ∀ {l0 l1 l2 l3 : Int} {M : Mem}, k28 l0 l1 l2 l3 M = some q → G E p l e (rmOf (H + 1) 0 0) s m args below meth c 7 (QZ E below args s (rmOf (H + 1) 0 0) (some (vI q.1)) q.2) 0 0 M 28 [(0, vR l0), (1, vI l1), (2, vI l2), (3, vI l3)] []) {l0 l1 l2 l3 : Int} {M : Mem} (F : Fx E p s m args meth c cX4_suffice 7 yX4_suffice.cls (some FieldType.boolean) yX4_suffice.name) (h : bX4_suffice_28 f_suffice k28 l0 l1 l2 l3 M = some q) : G E p l e (rmOf (H + 1) 0 0) s m args below meth c 7 (QZ E below args s (rmOf (H + 1) 0 0) (some (vI q.1)) q.2) 0 0 M 28 [(0, vR l0), (1, vI l1), (2, vI l2), (3, vI l3)] [] := by
  unfold bX4_suffice_28 at h
  refine r_iload_n (j := 3) F rfl rfl dX4_suffice_28 ?_
  refine r_aload_n (j := 0) F rfl rfl dX4_suffice_29 ?_
  replace h := bind_so h
  obtain ⟨a30, h30, h⟩ := h
  refine r_alen (t := 10) (by decide) F h30 dX4_suffice_30 ?_
  refine r_icmp_ge (tgt := 104) F (by decide) dX4_suffice_31 (fun hc => ?_) (fun hc => ?_)
  · replace h := ite_p h hc
    refine r_iconst F rfl dX4_suffice_104 ?_
    obtain rfl := Option.some.inj h
    exact r_zret (Or.inl rfl) F dX4_suffice_105
  · replace h := ite_n h hc
    refine r_iload_n (j := 1) F rfl rfl dX4_suffice_34 ?_
    refine r_aload_n (j := 0) F rfl rfl dX4_suffice_35 ?_
    refine r_iload_n (j := 3) F rfl rfl dX4_suffice_36 ?_
    replace h := bind_so h
    obtain ⟨a37, h37, h⟩ := h
    refine r_iald F h37 dX4_suffice_37 ?_
    refine r_iand F dX4_suffice_38 ?_
    refine r_istore (ls' := [(4, vI (iand l1 a37)), (0, vR l0), (1, vI l1), (2, vI l2), (3, vI l3)]) F (by decide) rfl dX4_suffice_39 ?_
    refine r_iload_n (j := 2) F rfl rfl dX4_suffice_41 ?_
    refine r_aload_n (j := 1) F rfl rfl dX4_suffice_42 ?_
    refine r_iload_n (j := 4) F rfl rfl dX4_suffice_43 ?_
    replace h := bind_so h
    obtain ⟨a44, h44, h⟩ := h
    refine r_iald F h44 dX4_suffice_44 ?_
    refine r_iconst F rfl dX4_suffice_45 ?_
    refine r_ixor F dX4_suffice_46 ?_
    refine r_iand F dX4_suffice_47 ?_
    replace h := bind_so h
    obtain ⟨b48, e48, h⟩ := h
    refine r_eq (y := b48) (Option.some.inj e48) ?_
    refine r_istore (ls' := [(5, vI b48), (4, vI (iand l1 a37)), (0, vR l0), (1, vI l1), (2, vI l2), (3, vI l3)]) F (by decide) rfl dX4_suffice_48 ?_
    refine r_iload (j := 1) F rfl dX4_suffice_50 ?_
    refine r_if_eq (tgt := 64) F (by decide) dX4_suffice_52 (fun hc => ?_) (fun hc => ?_)
    · replace h := ite_p h hc
      refine r_sub [2, 3, 4, 5, 1, 0] (ls' := [(0, vR l0), (1, vI l1), (2, vI l2), (3, vI l3), (4, vI (iand l1 a37)), (5, vI b48)]) rfl ?_
      exact tX4_suffice_64 hH (fun h => hf_suffice h) (fun h => hk28 h) F h
    · replace h := ite_n h hc
      refine r_iload (j := 0) F rfl dX4_suffice_55 ?_
      refine r_if_eq (tgt := 64) F (by decide) dX4_suffice_57 (fun hc => ?_) (fun hc => ?_)
      · replace h := ite_p h hc
        refine r_sub [2, 3, 4, 5, 1, 0] (ls' := [(0, vR l0), (1, vI l1), (2, vI l2), (3, vI l3), (4, vI (iand l1 a37)), (5, vI b48)]) rfl ?_
        exact tX4_suffice_64 hH (fun h => hf_suffice h) (fun h => hk28 h) F h
      · replace h := ite_n h hc
        refine r_iconst F rfl dX4_suffice_60 ?_
        refine r_goto (tgt := 65) F (by decide) dX4_suffice_61 ?_
        refine r_sub [2, 3, 4, 5, 1, 0] (ls' := [(0, vR l0), (1, vI l1), (2, vI l2), (3, vI l3), (4, vI (iand l1 a37)), (5, vI b48)]) rfl ?_
        exact tX4_suffice_65 hH (fun h => hf_suffice h) (fun h => hk28 h) F h
theorem tX4_suffice_28 {E : En} {p : Program} {l : Launch} {e : Env} {s : State} {m : MethodId} {args : Array Value} {below : List Frame} {meth : Method} {c : Code} {q : Int × Mem} {H : Nat} (hH : 8 ≤ H) {f_suffice : Int → Int → Int → Mem → Option (Int × Mem)} (hf_suffice : ∀ {x0 x1 x2 : Int} {M : Mem} {q : Int × Mem}, f_suffice x0 x1 x2 M = some q → Ct H 0 0 yX4_suffice cX4_suffice 7 (some FieldType.boolean) [vR x0, vI x1, vI x2] M (some (vI q.1)) q.2) (F : Fx E p s m args meth c cX4_suffice 7 yX4_suffice.cls (some FieldType.boolean) yX4_suffice.name) : ∀ {fu : Nat} {l0 l1 l2 l3 : Int} {M : Mem}, mX4_suffice_28 f_suffice fu l0 l1 l2 l3 M = some q → G E p l e (rmOf (H + 1) 0 0) s m args below meth c 7 (QZ E below args s (rmOf (H + 1) 0 0) (some (vI q.1)) q.2) 0 0 M 28 [(0, vR l0), (1, vI l1), (2, vI l2), (3, vI l3)] [] := by
  intro fu
  induction fu with
  | zero => intro l0 l1 l2 l3 M h; exact nomatch (show (none : Option (Int × Mem)) = some q from h)
  | succ fu ih => intro l0 l1 l2 l3 M h; exact tbX4_suffice_28 hH (fun h => hf_suffice h)  (fun h => ih h) F h
theorem tX4_suffice {H : Nat} (hH : 8 ≤ H) {f_suffice : Int → Int → Int → Mem → Option (Int × Mem)} (hf_suffice : ∀ {x0 x1 x2 : Int} {M : Mem} {q : Int × Mem}, f_suffice x0 x1 x2 M = some q → Ct H 0 0 yX4_suffice cX4_suffice 7 (some FieldType.boolean) [vR x0, vI x1, vI x2] M (some (vI q.1)) q.2) {l0 l1 l2 : Int} {M : Mem} {q : Int × Mem} (h : mX4_suffice f_suffice l0 l1 l2 M = some q) : Ct (H + 1) 0 0 yX4_suffice cX4_suffice 7 (some FieldType.boolean) [vR l0, vI l1, vI l2] M (some (vI q.1)) q.2 := by
  unfold mX4_suffice at h
  refine Ct.of (by decide) (Nat.le_of_ble_eq_true rfl) ?_
  intro E p l e s m args below meth c F
  refine r_sub [0, 1, 2] (ls' := [(0, vR l0), (1, vI l1), (2, vI l2)]) rfl ?_
  refine r_iload_n (j := 1) F rfl rfl dX4_suffice_0 ?_
  replace h := bind_so h
  obtain ⟨q1, h1, h⟩ := h
  refine r_callS (as := [vI l1]) (rv := (some (vI q1.1))) (kc := 0) (nc := 0) (tJ6_bitCount_0f7a4 h1) F tw_1146 tw_627 tw_628 tw_123 ⟨by decide, by decide, show (parseMethodDescriptor yJ6_bitCount_0f7a4.desc).map (fun d => d.parameters.length) = some 1 by decide +kernel⟩ ⟨by show _ ≤ H + 1; omega, by show _ ≤ 64 * (H + 1); omega⟩ (Nat.le_of_ble_eq_true rfl) dX4_suffice_1 ?_
  refine r_iconst F rfl dX4_suffice_4 ?_
  refine r_icmp_gt (tgt := 10) F (by decide) dX4_suffice_5 (fun hc => ?_) (fun hc => ?_)
  · replace h := ite_p h hc
    refine r_iload_n (j := 2) F rfl rfl dX4_suffice_10 ?_
    refine r_if_le (tgt := 24) F (by decide) dX4_suffice_11 (fun hc => ?_) (fun hc => ?_)
    · replace h := ite_p h hc
      refine r_iconst F rfl dX4_suffice_24 ?_
      obtain rfl := Option.some.inj h
      exact r_zret (Or.inl rfl) F dX4_suffice_25
    · replace h := ite_n h hc
      refine r_iload_n (j := 1) F rfl rfl dX4_suffice_14 ?_
      replace h := bind_so h
      obtain ⟨q15, h15, h⟩ := h
      refine r_callS (as := [vI l1]) (rv := (some (vI q15.1))) (kc := 0) (nc := 0) (tJ6_bitCount_0f7a4 h15) F tw_1146 tw_627 tw_628 tw_123 ⟨by decide, by decide, show (parseMethodDescriptor yJ6_bitCount_0f7a4.desc).map (fun d => d.parameters.length) = some 1 by decide +kernel⟩ ⟨by show _ ≤ H + 1; omega, by show _ ≤ 64 * (H + 1); omega⟩ (Nat.le_of_ble_eq_true rfl) dX4_suffice_15 ?_
      refine r_iconst F rfl dX4_suffice_18 ?_
      refine r_iload_n (j := 2) F rfl rfl dX4_suffice_19 ?_
      refine r_ishl F dX4_suffice_20 ?_
      refine r_icmp_le (tgt := 26) F (by decide) dX4_suffice_21 (fun hc => ?_) (fun hc => ?_)
      · replace h := ite_p h hc
        refine r_iconst F rfl dX4_suffice_26 ?_
        refine r_istore_n (ls' := [(3, vI 0), (0, vR l0), (1, vI l1), (2, vI l2)]) F rfl (by decide) rfl dX4_suffice_27 ?_
        refine r_sub [1, 2, 3, 0] (ls' := [(0, vR l0), (1, vI l1), (2, vI l2), (3, vI 0)]) rfl ?_
        exact tX4_suffice_28 hH (fun h => hf_suffice h) F h
      · replace h := ite_n h hc
        refine r_iconst F rfl dX4_suffice_24 ?_
        obtain rfl := Option.some.inj h
        exact r_zret (Or.inl rfl) F dX4_suffice_25
  · replace h := ite_n h hc
    refine r_iconst F rfl dX4_suffice_8 ?_
    obtain rfl := Option.some.inj h
    exact r_zret (Or.inr rfl) F dX4_suffice_9
theorem tgX4_suffice : ∀ (d : Nat) {x0 x1 x2 : Int} {M : Mem} {q : Int × Mem}, gX4_suffice d x0 x1 x2 M = some q → Ct (d + 8) 0 0 yX4_suffice cX4_suffice 7 (some .boolean) [vR x0, vI x1, vI x2] M (some (vI q.1)) q.2 := by
  intro d
  induction d with
  | zero => intro x0 x1 x2 M q h; exact nomatch (show (none : Option (Int × Mem)) = some q from h)
  | succ d ih =>
    intro x0 x1 x2 M q h
    exact tX4_suffice (H := d + 8) (by omega) (fun h => ih h) h
theorem tbX4_fewestQuestions_38 {E : En} {p : Program} {l : Launch} {e : Env} {s : State} {m : MethodId} {args : Array Value} {below : List Frame} {meth : Method} {c : Code} {q : Int × Mem} {k38 : Int → Int → Int → Mem → Option (Int × Mem)} (hk38 : ∀ {l0 l1 l2 : Int} {M : Mem}, k38 l0 l1 l2 M = some q → G E p l e (rmOf 102 0 0) s m args below meth c 3 (QZ E below args s (rmOf 102 0 0) (some (vI q.1)) q.2) 0 0 M 38 [(0, vR l0), (1, vI l1), (2, vI l2)] []) {l0 l1 l2 : Int} {M : Mem} (F : Fx E p s m args meth c cX4_fewestQuestions 3 yX4_fewestQuestions.cls (some FieldType.int) yX4_fewestQuestions.name) (h : bX4_fewestQuestions_38 k38 l0 l1 l2 M = some q) : G E p l e (rmOf 102 0 0) s m args below meth c 3 (QZ E below args s (rmOf 102 0 0) (some (vI q.1)) q.2) 0 0 M 38 [(0, vR l0), (1, vI l1), (2, vI l2)] [] := by
  unfold bX4_fewestQuestions_38 at h
  refine r_iload_n (j := 2) F rfl rfl dX4_fewestQuestions_38 ?_
  refine r_iconst F rfl dX4_fewestQuestions_39 ?_
  refine r_icmp_gt (tgt := 63) F (by decide) dX4_fewestQuestions_40 (fun hc => ?_) (fun hc => ?_)
  · replace h := ite_p h hc
    refine r_iconst F rfl dX4_fewestQuestions_63 ?_
    obtain rfl := Option.some.inj h
    exact r_iret F dX4_fewestQuestions_64
  · replace h := ite_n h hc
    refine r_aload_n (j := 0) F rfl rfl dX4_fewestQuestions_43 ?_
    replace h := bind_so h
    obtain ⟨a44, h44, h⟩ := h
    refine r_getT (t := 2) rfl clok_4 F (by decide) h44 tw_379 dX4_fewestQuestions_44 ?_
    refine r_iload_n (j := 1) F rfl rfl dX4_fewestQuestions_47 ?_
    refine r_iload_n (j := 2) F rfl rfl dX4_fewestQuestions_48 ?_
    replace h := bind_so h
    obtain ⟨q49, h49, h⟩ := h
    refine r_callS (as := [vR a44, vI l1, vI l2]) (rv := (some (vI q49.1))) (kc := 0) (nc := 0) (tgX4_suffice 8 h49) F tw_1195 tw_1196 tw_1197 tw_113 ⟨by decide, by decide, show (parseMethodDescriptor yX4_suffice.desc).map (fun d => d.parameters.length) = some 3 by decide +kernel⟩ ⟨by decide, by decide⟩ (Nat.le_of_ble_eq_true rfl) dX4_fewestQuestions_49 ?_
    refine r_if_eq (tgt := 57) F (by decide) dX4_fewestQuestions_52 (fun hc => ?_) (fun hc => ?_)
    · replace h := ite_p h hc
      refine r_iinc (j := 2) (ls' := [(2, vI (wI (l2 + 1))), (0, vR l0), (1, vI l1)]) F rfl (by decide) rfl dX4_fewestQuestions_57 ?_
      refine r_goto (tgt := 38) F (by decide) dX4_fewestQuestions_60 ?_
      refine r_sub [1, 2, 0] (ls' := [(0, vR l0), (1, vI l1), (2, vI (wI (l2 + 1)))]) rfl ?_
      exact hk38 h
    · replace h := ite_n h hc
      refine r_iload_n (j := 2) F rfl rfl dX4_fewestQuestions_55 ?_
      obtain rfl := Option.some.inj h
      exact r_iret F dX4_fewestQuestions_56
theorem tX4_fewestQuestions_38 {E : En} {p : Program} {l : Launch} {e : Env} {s : State} {m : MethodId} {args : Array Value} {below : List Frame} {meth : Method} {c : Code} {q : Int × Mem} (F : Fx E p s m args meth c cX4_fewestQuestions 3 yX4_fewestQuestions.cls (some FieldType.int) yX4_fewestQuestions.name) : ∀ {fu : Nat} {l0 l1 l2 : Int} {M : Mem}, mX4_fewestQuestions_38 fu l0 l1 l2 M = some q → G E p l e (rmOf 102 0 0) s m args below meth c 3 (QZ E below args s (rmOf 102 0 0) (some (vI q.1)) q.2) 0 0 M 38 [(0, vR l0), (1, vI l1), (2, vI l2)] [] := by
  intro fu
  induction fu with
  | zero => intro l0 l1 l2 M h; exact nomatch (show (none : Option (Int × Mem)) = some q from h)
  | succ fu ih => intro l0 l1 l2 M h; exact tbX4_fewestQuestions_38  (fun h => ih h) F h
theorem tX4_fewestQuestions {l0 : Int} {M : Mem} {q : Int × Mem} (h : mX4_fewestQuestions l0 M = some q) : Ct 102 0 0 yX4_fewestQuestions cX4_fewestQuestions 3 (some FieldType.int) [vR l0] M (some (vI q.1)) q.2 := by
  unfold mX4_fewestQuestions at h
  refine Ct.of (by decide) (Nat.le_of_ble_eq_true rfl) ?_
  intro E p l e s m args below meth c F
  refine r_sub [0] (ls' := [(0, vR l0)]) rfl ?_
  refine r_aload_n (j := 0) F rfl rfl dX4_fewestQuestions_0 ?_
  replace h := bind_so h
  obtain ⟨_, g1, h⟩ := h
  replace h := bind_so h
  obtain ⟨q1, h1, h⟩ := h
  refine r_callV (as := []) (rv := (some (vI q1.1))) (kc := 0) (nc := 0) (tX4_lookUp h1) clok_4 F (gK_so g1) tw_965 tw_967 tw_40 tw_968 tw_113 ⟨by decide, by decide, show (parseMethodDescriptor yX4_lookUp.desc).map (fun d => d.parameters.length) = some 0 by decide +kernel⟩ ⟨by decide, by decide⟩ (Nat.le_of_ble_eq_true rfl) dX4_fewestQuestions_1 ?_
  refine r_if_eq (tgt := 29) F (by decide) dX4_fewestQuestions_4 (fun hc => ?_) (fun hc => ?_)
  · replace h := ite_p h hc
    refine r_iconst F rfl dX4_fewestQuestions_29 ?_
    obtain rfl := Option.some.inj h
    exact r_iret F dX4_fewestQuestions_30
  · replace h := ite_n h hc
    refine r_aload_n (j := 0) F rfl rfl dX4_fewestQuestions_7 ?_
    replace h := bind_so h
    obtain ⟨a8, h8, h⟩ := h
    refine r_getT (t := 2) rfl clok_4 F (by decide) h8 tw_374 dX4_fewestQuestions_8 ?_
    replace h := bind_so h
    obtain ⟨_, g11, h⟩ := h
    replace h := bind_so h
    obtain ⟨q11, h11, h⟩ := h
    refine r_callV (as := []) (rv := (some (vI q11.1))) (kc := 0) (nc := 0) (tX7_isNothing h11) clok_7 F (gK_so g11) tw_1135 tw_1136 tw_1137 tw_1138 tw_118 ⟨by decide, by decide, show (parseMethodDescriptor yX7_isNothing.desc).map (fun d => d.parameters.length) = some 0 by decide +kernel⟩ ⟨by decide, by decide⟩ (Nat.le_of_ble_eq_true rfl) dX4_fewestQuestions_11 ?_
    refine r_if_ne (tgt := 29) F (by decide) dX4_fewestQuestions_14 (fun hc => ?_) (fun hc => ?_)
    · replace h := ite_n h hc
      refine r_iconst F rfl dX4_fewestQuestions_29 ?_
      obtain rfl := Option.some.inj h
      exact r_iret F dX4_fewestQuestions_30
    · replace h := ite_p h hc
      refine r_aload_n (j := 0) F rfl rfl dX4_fewestQuestions_17 ?_
      replace h := bind_so h
      obtain ⟨a18, h18, h⟩ := h
      refine r_getT (t := 2) rfl clok_4 F (by decide) h18 tw_374 dX4_fewestQuestions_18 ?_
      replace h := bind_so h
      obtain ⟨_, g21, h⟩ := h
      replace h := bind_so h
      obtain ⟨q21, h21, h⟩ := h
      refine r_callV (as := []) (rv := (some (vI q21.1))) (kc := 0) (nc := 0) (tX7_count h21) clok_7 F (gK_so g21) tw_1030 tw_1031 tw_1032 tw_1033 tw_118 ⟨by decide, by decide, show (parseMethodDescriptor yX7_count.desc).map (fun d => d.parameters.length) = some 0 by decide +kernel⟩ ⟨by decide, by decide⟩ (Nat.le_of_ble_eq_true rfl) dX4_fewestQuestions_21 ?_
      refine r_bipush F rfl (by decide) dX4_fewestQuestions_24 ?_
      refine r_icmp_le (tgt := 31) F (by decide) dX4_fewestQuestions_26 (fun hc => ?_) (fun hc => ?_)
      · replace h := ite_p h hc
        refine r_aload_n (j := 0) F rfl rfl dX4_fewestQuestions_31 ?_
        replace h := bind_so h
        obtain ⟨_, g32, h⟩ := h
        replace h := bind_so h
        obtain ⟨q32, h32, h⟩ := h
        refine r_callV (as := []) (rv := (some (vI q32.1))) (kc := 0) (nc := 0) (tX4_takeAsked h32) clok_4 F (gK_so g32) tw_1191 tw_1193 tw_51 tw_1194 tw_113 ⟨by decide, by decide, show (parseMethodDescriptor yX4_takeAsked.desc).map (fun d => d.parameters.length) = some 0 by decide +kernel⟩ ⟨by decide, by decide⟩ (Nat.le_of_ble_eq_true rfl) dX4_fewestQuestions_32 ?_
        refine r_istore_n (ls' := [(1, vI q32.1), (0, vR l0)]) F rfl (by decide) rfl dX4_fewestQuestions_35 ?_
        refine r_iconst F rfl dX4_fewestQuestions_36 ?_
        refine r_istore_n (ls' := [(2, vI 0), (1, vI q32.1), (0, vR l0)]) F rfl (by decide) rfl dX4_fewestQuestions_37 ?_
        refine r_sub [2, 1, 0] (ls' := [(0, vR l0), (1, vI q32.1), (2, vI 0)]) rfl ?_
        exact tX4_fewestQuestions_38 F h
      · replace h := ite_n h hc
        refine r_iconst F rfl dX4_fewestQuestions_29 ?_
        obtain rfl := Option.some.inj h
        exact r_iret F dX4_fewestQuestions_30
