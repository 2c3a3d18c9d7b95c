theorem tX9_readText_182 {E : En} {p : Program} {l : Launch} {e : Env} {s : State} {m : MethodId} {args : Array Value} {below : List Frame} {meth : Method} {c : Code} {q : Int × Mem} {l0 s0 s1 s2 : Int} {M : Mem} (F : Fx E p s m args meth c cX9_readText 2 yX9_readText.cls (some FieldType.boolean) yX9_readText.name) (h : mX9_readText_182 l0 s0 s1 s2 M = some q) : G E p l e (rmOf 5 0 0) s m args below meth c 2 (QZ E below args s (rmOf 5 0 0) (some (vI q.1)) q.2) 0 0 M 182 [(0, vR l0)] [vI s2, vI s1, vR s0] := by
  unfold mX9_readText_182 at h
  replace h := bind_so h
  obtain ⟨M182, h182, h⟩ := h
  refine r_iast F h182 dX9_readText_182 ?_
  refine r_aload_n (j := 0) F rfl rfl dX9_readText_183 ?_
  replace h := bind_so h
  obtain ⟨a184, h184, h⟩ := h
  refine r_getT (t := 2) rfl clok_9 F (by decide) h184 tw_1300 dX9_readText_184 ?_
  refine r_iconst F rfl dX9_readText_187 ?_
  replace h := bind_so h
  obtain ⟨a188, h188, h⟩ := h
  refine r_iald F h188 dX9_readText_188 ?_
  refine r_if_ne (tgt := 196) F (by decide) dX9_readText_189 (fun hc => ?_) (fun hc => ?_)
  · replace h := ite_n h hc
    refine r_iconst F rfl dX9_readText_196 ?_
    obtain rfl := Option.some.inj h
    exact r_zret (Or.inl rfl) F dX9_readText_197
  · replace h := ite_p h hc
    refine r_iconst F rfl dX9_readText_192 ?_
    refine r_goto (tgt := 197) F (by decide) dX9_readText_193 ?_
    obtain rfl := Option.some.inj h
    exact r_zret (Or.inr rfl) F dX9_readText_197
theorem tX9_readText_150 {E : En} {p : Program} {l : Launch} {e : Env} {s : State} {m : MethodId} {args : Array Value} {below : List Frame} {meth : Method} {c : Code} {q : Int × Mem} {l0 l1 s0 s1 s2 : Int} {M : Mem} (F : Fx E p s m args meth c cX9_readText 2 yX9_readText.cls (some FieldType.boolean) yX9_readText.name) (h : mX9_readText_150 l0 l1 s0 s1 s2 M = some q) : G E p l e (rmOf 5 0 0) s m args below meth c 2 (QZ E below args s (rmOf 5 0 0) (some (vI q.1)) q.2) 0 0 M 150 [(0, vR l0), (1, vI l1)] [vI s2, vI s1, vR s0] := by
  unfold mX9_readText_150 at h
  replace h := bind_so h
  obtain ⟨M150, h150, h⟩ := h
  refine r_iast F h150 dX9_readText_150 ?_
  refine r_aload_n (j := 0) F rfl rfl dX9_readText_151 ?_
  replace h := bind_so h
  obtain ⟨a152, h152, h⟩ := h
  refine r_getT (t := 2) rfl clok_9 F (by decide) h152 tw_1301 dX9_readText_152 ?_
  refine r_iconst F rfl dX9_readText_155 ?_
  refine r_iload_n (j := 1) F rfl rfl dX9_readText_156 ?_
  refine r_if_ne (tgt := 167) F (by decide) dX9_readText_157 (fun hc => ?_) (fun hc => ?_)
  · replace h := ite_n h hc
    refine r_aload_n (j := 0) F rfl rfl dX9_readText_167 ?_
    replace h := bind_so h
    obtain ⟨a168, h168, h⟩ := h
    refine r_getT (t := 0) rfl clok_9 F (by decide) h168 tw_1333 dX9_readText_168 ?_
    refine r_if_le (tgt := 181) F (by decide) dX9_readText_171 (fun hc => ?_) (fun hc => ?_)
    · replace h := ite_p h hc
      refine r_iconst F rfl dX9_readText_181 ?_
      refine r_sub [0] (ls' := [(0, vR l0)]) rfl ?_
      exact tX9_readText_182 F h
    · replace h := ite_n h hc
      refine r_aload_n (j := 0) F rfl rfl dX9_readText_174 ?_
      replace h := bind_so h
      obtain ⟨a175, h175, h⟩ := h
      refine r_getT (t := 0) rfl clok_9 F (by decide) h175 tw_1334 dX9_readText_175 ?_
      refine r_goto (tgt := 182) F (by decide) dX9_readText_178 ?_
      refine r_sub [0] (ls' := [(0, vR l0)]) rfl ?_
      exact tX9_readText_182 F h
  · replace h := ite_p h hc
    refine r_aload_n (j := 0) F rfl rfl dX9_readText_160 ?_
    replace h := bind_so h
    obtain ⟨a161, h161, h⟩ := h
    refine r_getT (t := 0) rfl clok_9 F (by decide) h161 tw_1332 dX9_readText_161 ?_
    refine r_goto (tgt := 182) F (by decide) dX9_readText_164 ?_
    refine r_sub [0] (ls' := [(0, vR l0)]) rfl ?_
    exact tX9_readText_182 F h
theorem tX9_readText_133 {E : En} {p : Program} {l : Launch} {e : Env} {s : State} {m : MethodId} {args : Array Value} {below : List Frame} {meth : Method} {c : Code} {q : Int × Mem} {l0 l1 : Int} {M : Mem} (F : Fx E p s m args meth c cX9_readText 2 yX9_readText.cls (some FieldType.boolean) yX9_readText.name) (h : mX9_readText_133 l0 l1 M = some q) : G E p l e (rmOf 5 0 0) s m args below meth c 2 (QZ E below args s (rmOf 5 0 0) (some (vI q.1)) q.2) 0 0 M 133 [(0, vR l0), (1, vI l1)] [] := by
  unfold mX9_readText_133 at h
  refine r_aload_n (j := 0) F rfl rfl dX9_readText_133 ?_
  replace h := bind_so h
  obtain ⟨a134, h134, h⟩ := h
  refine r_getT (t := 2) rfl clok_9 F (by decide) h134 tw_1300 dX9_readText_134 ?_
  refine r_iconst F rfl dX9_readText_137 ?_
  refine r_iload_n (j := 1) F rfl rfl dX9_readText_138 ?_
  refine r_if_ne (tgt := 146) F (by decide) dX9_readText_139 (fun hc => ?_) (fun hc => ?_)
  · replace h := ite_n h hc
    refine r_aload_n (j := 0) F rfl rfl dX9_readText_146 ?_
    replace h := bind_so h
    obtain ⟨a147, h147, h⟩ := h
    refine r_getT (t := 0) rfl clok_9 F (by decide) h147 tw_1333 dX9_readText_147 ?_
    refine r_sub [0, 1] (ls' := [(0, vR l0), (1, vI l1)]) rfl ?_
    exact tX9_readText_150 F h
  · replace h := ite_p h hc
    refine r_iconst F rfl dX9_readText_142 ?_
    refine r_goto (tgt := 150) F (by decide) dX9_readText_143 ?_
    refine r_sub [0, 1] (ls' := [(0, vR l0), (1, vI l1)]) rfl ?_
    exact tX9_readText_150 F h
theorem tX9_readText_112 {E : En} {p : Program} {l : Launch} {e : Env} {s : State} {m : MethodId} {args : Array Value} {below : List Frame} {meth : Method} {c : Code} {q : Int × Mem} {l0 l1 : Int} {M : Mem} (F : Fx E p s m args meth c cX9_readText 2 yX9_readText.cls (some FieldType.boolean) yX9_readText.name) (h : mX9_readText_112 l0 l1 M = some q) : G E p l e (rmOf 5 0 0) s m args below meth c 2 (QZ E below args s (rmOf 5 0 0) (some (vI q.1)) q.2) 0 0 M 112 [(0, vR l0), (1, vI l1)] [] := by
  unfold mX9_readText_112 at h
  refine r_iload_n (j := 1) F rfl rfl dX9_readText_112 ?_
  refine r_if_eq (tgt := 133) F (by decide) dX9_readText_113 (fun hc => ?_) (fun hc => ?_)
  · replace h := ite_p h hc
    refine r_sub [0, 1] (ls' := [(0, vR l0), (1, vI l1)]) rfl ?_
    exact tX9_readText_133 F h
  · replace h := ite_n h hc
    refine r_aload_n (j := 0) F rfl rfl dX9_readText_116 ?_
    replace h := bind_so h
    obtain ⟨a117, h117, h⟩ := h
    refine r_getT (t := 0) rfl clok_9 F (by decide) h117 tw_1329 dX9_readText_117 ?_
    refine r_if_eq (tgt := 133) F (by decide) dX9_readText_120 (fun hc => ?_) (fun hc => ?_)
    · replace h := ite_p h hc
      refine r_sub [0, 1] (ls' := [(0, vR l0), (1, vI l1)]) rfl ?_
      exact tX9_readText_133 F h
    · replace h := ite_n h hc
      refine r_aload_n (j := 0) F rfl rfl dX9_readText_123 ?_
      refine r_aload_n (j := 0) F rfl rfl dX9_readText_124 ?_
      replace h := bind_so h
      obtain ⟨a125, h125, h⟩ := h
      refine r_getT (t := 0) rfl clok_9 F (by decide) h125 tw_1328 dX9_readText_125 ?_
      replace h := bind_so h
      obtain ⟨M128, h128, h⟩ := h
      refine r_put clok_9 F (by decide) rfl (by decide) (by decide) h128 tw_1332 dX9_readText_128 ?_
      refine r_iconst F rfl dX9_readText_131 ?_
      refine r_istore_n (ls' := [(1, vI 0), (0, vR l0)]) F rfl (by decide) rfl dX9_readText_132 ?_
      refine r_sub [1, 0] (ls' := [(0, vR l0), (1, vI 0)]) rfl ?_
      exact tX9_readText_133 F h
theorem tbX9_readText_74 {E : En} {p : Program} {l : Launch} {e : Env} {s : State} {m : MethodId} {args : Array Value} {below : List Frame} {meth : Method} {c : Code} {q : Int × Mem} {k74 : Int → Int → Mem → Option (Int × Mem)} (hk74 : ∀ {l0 l1 : Int} {M : Mem}, k74 l0 l1 M = some q → G E p l e (rmOf 5 0 0) s m args below meth c 2 (QZ E below args s (rmOf 5 0 0) (some (vI q.1)) q.2) 0 0 M 74 [(0, vR l0), (1, vI l1)] []) {l0 l1 : Int} {M : Mem} (F : Fx E p s m args meth c cX9_readText 2 yX9_readText.cls (some FieldType.boolean) yX9_readText.name) (h : bX9_readText_74 k74 l0 l1 M = some q) : G E p l e (rmOf 5 0 0) s m args below meth c 2 (QZ E below args s (rmOf 5 0 0) (some (vI q.1)) q.2) 0 0 M 74 [(0, vR l0), (1, vI l1)] [] := by
  unfold bX9_readText_74 at h
  refine r_iload_n (j := 1) F rfl rfl dX9_readText_74 ?_
  refine r_if_eq (tgt := 112) F (by decide) dX9_readText_75 (fun hc => ?_) (fun hc => ?_)
  · replace h := ite_p h hc
    refine r_sub [0, 1] (ls' := [(0, vR l0), (1, vI l1)]) rfl ?_
    exact tX9_readText_112 F h
  · replace h := ite_n h hc
    refine r_aload_n (j := 0) F rfl rfl dX9_readText_78 ?_
    replace h := bind_so h
    obtain ⟨a79, h79, h⟩ := h
    refine r_getT (t := 0) rfl clok_9 F (by decide) h79 tw_1335 dX9_readText_79 ?_
    refine r_if_le (tgt := 112) F (by decide) dX9_readText_82 (fun hc => ?_) (fun hc => ?_)
    · replace h := ite_p h hc
      refine r_sub [0, 1] (ls' := [(0, vR l0), (1, vI l1)]) rfl ?_
      exact tX9_readText_112 F h
    · replace h := ite_n h hc
      refine r_aload_n (j := 0) F rfl rfl dX9_readText_85 ?_
      refine r_dup1 F rfl dX9_readText_86 ?_
      replace h := bind_so h
      obtain ⟨a87, h87, h⟩ := h
      refine r_getT (t := 0) rfl clok_9 F (by decide) h87 tw_1335 dX9_readText_87 ?_
      refine r_iconst F rfl dX9_readText_90 ?_
      refine r_isub F dX9_readText_91 ?_
      replace h := bind_so h
      obtain ⟨M92, h92, h⟩ := h
      refine r_put clok_9 F (by decide) rfl (by decide) (by decide) h92 tw_1335 dX9_readText_92 ?_
      refine r_aload_n (j := 0) F rfl rfl dX9_readText_95 ?_
      refine r_aload_n (j := 0) F rfl rfl dX9_readText_96 ?_
      replace h := bind_so h
      obtain ⟨a97, h97, h⟩ := h
      refine r_getT (t := 2) rfl clok_9 F (by decide) h97 tw_1336 dX9_readText_97 ?_
      refine r_aload_n (j := 0) F rfl rfl dX9_readText_100 ?_
      replace h := bind_so h
      obtain ⟨a101, h101, h⟩ := h
      refine r_getT (t := 0) rfl clok_9 F (by decide) h101 tw_1335 dX9_readText_101 ?_
      replace h := bind_so h
      obtain ⟨a104, h104, h⟩ := h
      refine r_iald F h104 dX9_readText_104 ?_
      replace h := bind_so h
      obtain ⟨_, g105, h⟩ := h
      replace h := bind_so h
      obtain ⟨q105, h105, h⟩ := h
      refine r_callV (as := [vI a104]) (rv := (some (vI q105.1))) (kc := 0) (nc := 0) (tX9_readPart h105) clok_9 F (gK_so g105) tw_1615 tw_1617 tw_72 tw_1618 tw_122 ⟨by decide, by decide, show (parseMethodDescriptor yX9_readPart.desc).map (fun d => d.parameters.length) = some 1 by decide +kernel⟩ ⟨by decide, by decide⟩ (Nat.le_of_ble_eq_true rfl) dX9_readText_105 ?_
      refine r_istore_n (ls' := [(1, vI q105.1), (0, vR l0)]) F rfl (by decide) rfl dX9_readText_108 ?_
      refine r_goto (tgt := 74) F (by decide) dX9_readText_109 ?_
      refine r_sub [1, 0] (ls' := [(0, vR l0), (1, vI q105.1)]) rfl ?_
      exact hk74 h
theorem tX9_readText_74 {E : En} {p : Program} {l : Launch} {e : Env} {s : State} {m : MethodId} {args : Array Value} {below : List Frame} {meth : Method} {c : Code} {q : Int × Mem} (F : Fx E p s m args meth c cX9_readText 2 yX9_readText.cls (some FieldType.boolean) yX9_readText.name) : ∀ {fu : Nat} {l0 l1 : Int} {M : Mem}, mX9_readText_74 fu l0 l1 M = some q → G E p l e (rmOf 5 0 0) s m args below meth c 2 (QZ E below args s (rmOf 5 0 0) (some (vI q.1)) q.2) 0 0 M 74 [(0, vR l0), (1, vI l1)] [] := by
  intro fu
  induction fu with
  | zero => intro l0 l1 M h; exact nomatch (show (none : Option (Int × Mem)) = some q from h)
  | succ fu ih => intro l0 l1 M h; exact tbX9_readText_74  (fun h => ih h) F h
theorem tX9_readText {l0 : Int} {M : Mem} {q : Int × Mem} (h : mX9_readText l0 M = some q) : Ct 5 0 0 yX9_readText cX9_readText 2 (some FieldType.boolean) [vR l0] M (some (vI q.1)) q.2 := by
  unfold mX9_readText at h
  refine Ct.of (by decide) (Nat.le_of_ble_eq_true rfl) ?_
  intro E p l e s m args below meth c F
  refine r_sub [0] (ls' := [(0, vR l0)]) rfl ?_
  refine r_aload_n (j := 0) F rfl rfl dX9_readText_0 ?_
  refine r_aload_n (j := 0) F rfl rfl dX9_readText_1 ?_
  replace h := bind_so h
  obtain ⟨a2, h2, h⟩ := h
  refine r_getT (t := 2) rfl clok_9 F (by decide) h2 tw_1299 dX9_readText_2 ?_
  refine r_iconst F rfl dX9_readText_5 ?_
  replace h := bind_so h
  obtain ⟨a6, h6, h⟩ := h
  refine r_iald F h6 dX9_readText_6 ?_
  replace h := bind_so h
  obtain ⟨M7, h7, h⟩ := h
  refine r_put clok_9 F (by decide) rfl (by decide) (by decide) h7 tw_1327 dX9_readText_7 ?_
  refine r_aload_n (j := 0) F rfl rfl dX9_readText_10 ?_
  replace h := bind_so h
  obtain ⟨a11, h11, h⟩ := h
  refine r_getT (t := 2) rfl clok_9 F (by decide) h11 tw_1299 dX9_readText_11 ?_
  refine r_iconst F rfl dX9_readText_14 ?_
  refine r_iconst F rfl dX9_readText_15 ?_
  replace h := bind_so h
  obtain ⟨M16, h16, h⟩ := h
  refine r_iast F h16 dX9_readText_16 ?_
  refine r_aload_n (j := 0) F rfl rfl dX9_readText_17 ?_
  replace h := bind_so h
  obtain ⟨a18, h18, h⟩ := h
  refine r_getT (t := 2) rfl clok_9 F (by decide) h18 tw_1300 dX9_readText_18 ?_
  refine r_iconst F rfl dX9_readText_21 ?_
  refine r_iconst F rfl dX9_readText_22 ?_
  replace h := bind_so h
  obtain ⟨M23, h23, h⟩ := h
  refine r_iast F h23 dX9_readText_23 ?_
  refine r_aload_n (j := 0) F rfl rfl dX9_readText_24 ?_
  replace h := bind_so h
  obtain ⟨a25, h25, h⟩ := h
  refine r_getT (t := 2) rfl clok_9 F (by decide) h25 tw_1301 dX9_readText_25 ?_
  refine r_iconst F rfl dX9_readText_28 ?_
  refine r_iconst F rfl dX9_readText_29 ?_
  replace h := bind_so h
  obtain ⟨M30, h30, h⟩ := h
  refine r_iast F h30 dX9_readText_30 ?_
  refine r_aload_n (j := 0) F rfl rfl dX9_readText_31 ?_
  refine r_iconst F rfl dX9_readText_32 ?_
  replace h := bind_so h
  obtain ⟨M33, h33, h⟩ := h
  refine r_put clok_9 F (by decide) rfl (by decide) (by decide) h33 tw_1326 dX9_readText_33 ?_
  refine r_aload_n (j := 0) F rfl rfl dX9_readText_36 ?_
  refine r_iconst F rfl dX9_readText_37 ?_
  replace h := bind_so h
  obtain ⟨M38, h38, h⟩ := h
  refine r_put clok_9 F (by decide) rfl (by decide) (by decide) h38 tw_1332 dX9_readText_38 ?_
  refine r_aload_n (j := 0) F rfl rfl dX9_readText_41 ?_
  refine r_iconst F rfl dX9_readText_42 ?_
  replace h := bind_so h
  obtain ⟨M43, h43, h⟩ := h
  refine r_put clok_9 F (by decide) rfl (by decide) (by decide) h43 tw_1333 dX9_readText_43 ?_
  refine r_aload_n (j := 0) F rfl rfl dX9_readText_46 ?_
  refine r_iconst F rfl dX9_readText_47 ?_
  replace h := bind_so h
  obtain ⟨M48, h48, h⟩ := h
  refine r_put clok_9 F (by decide) rfl (by decide) (by decide) h48 tw_1334 dX9_readText_48 ?_
  refine r_aload_n (j := 0) F rfl rfl dX9_readText_51 ?_
  refine r_iconst F rfl dX9_readText_52 ?_
  replace h := bind_so h
  obtain ⟨M53, h53, h⟩ := h
  refine r_put clok_9 F (by decide) rfl (by decide) (by decide) h53 tw_1335 dX9_readText_53 ?_
  refine r_aload_n (j := 0) F rfl rfl dX9_readText_56 ?_
  refine r_iconst F rfl dX9_readText_57 ?_
  replace h := bind_so h
  obtain ⟨M58, h58, h⟩ := h
  refine r_put clok_9 F (by decide) rfl (by decide) (by decide) h58 tw_1337 dX9_readText_58 ?_
  refine r_aload_n (j := 0) F rfl rfl dX9_readText_61 ?_
  refine r_sipush F rfl (by decide) dX9_readText_62 ?_
  replace h := bind_so h
  obtain ⟨_, g65, h⟩ := h
  replace h := bind_so h
  obtain ⟨q65, h65, h⟩ := h
  refine r_callV (as := [vI 255]) (rv := none) (kc := 0) (nc := 0) (tX9_wait h65) clok_9 F (gK_so g65) tw_1603 tw_1605 tw_69 tw_1606 tw_122 ⟨by decide, by decide, show (parseMethodDescriptor yX9_wait.desc).map (fun d => d.parameters.length) = some 1 by decide +kernel⟩ ⟨by decide, by decide⟩ (Nat.le_of_ble_eq_true rfl) dX9_readText_65 ?_
  refine r_aload_n (j := 0) F rfl rfl dX9_readText_68 ?_
  replace h := bind_so h
  obtain ⟨_, g69, h⟩ := h
  replace h := bind_so h
  obtain ⟨q69, h69, h⟩ := h
  refine r_callV (as := []) (rv := none) (kc := 0) (nc := 0) (tX9_token h69) clok_9 F (gK_so g69) tw_1607 tw_1609 tw_70 tw_1610 tw_122 ⟨by decide, by decide, show (parseMethodDescriptor yX9_token.desc).map (fun d => d.parameters.length) = some 0 by decide +kernel⟩ ⟨by decide, by decide⟩ (Nat.le_of_ble_eq_true rfl) dX9_readText_69 ?_
  refine r_iconst F rfl dX9_readText_72 ?_
  refine r_istore_n (ls' := [(1, vI 1), (0, vR l0)]) F rfl (by decide) rfl dX9_readText_73 ?_
  refine r_sub [1, 0] (ls' := [(0, vR l0), (1, vI 1)]) rfl ?_
  exact tX9_readText_74 F h
theorem tbX9_keepText_12 {E : En} {p : Program} {l : Launch} {e : Env} {s : State} {m : MethodId} {args : Array Value} {below : List Frame} {meth : Method} {c : Code} {q : Int × Mem} {k12 : Int → Int → Int → Mem → Option (Int × Mem)} (hk12 : ∀ {l0 l1 l2 : Int} {M : Mem}, k12 l0 l1 l2 M = some q → G E p l e (rmOf 0 0 0) s m args below meth c 3 (QZ E below args s (rmOf 0 0 0) none q.2) 0 0 M 12 [(0, vR l0), (1, vI l1), (2, vI l2)] []) {l0 l1 l2 : Int} {M : Mem} (F : Fx E p s m args meth c cX9_keepText 3 yX9_keepText.cls none yX9_keepText.name) (h : bX9_keepText_12 k12 l0 l1 l2 M = some q) : G E p l e (rmOf 0 0 0) s m args below meth c 3 (QZ E below args s (rmOf 0 0 0) none q.2) 0 0 M 12 [(0, vR l0), (1, vI l1), (2, vI l2)] [] := by
  unfold bX9_keepText_12 at h
  refine r_iload_n (j := 2) F rfl rfl dX9_keepText_12 ?_
  refine r_aload_n (j := 0) F rfl rfl dX9_keepText_13 ?_
  replace h := bind_so h
  obtain ⟨a14, h14, h⟩ := h
  refine r_getT (t := 0) rfl clok_9 F (by decide) h14 tw_1337 dX9_keepText_14 ?_
  refine r_icmp_ge (tgt := 94) F (by decide) dX9_keepText_17 (fun hc => ?_) (fun hc => ?_)
  · replace h := ite_p h hc
    obtain rfl := Option.some.inj h
    exact r_vret F dX9_keepText_94
  · replace h := ite_n h hc
    refine r_aload_n (j := 0) F rfl rfl dX9_keepText_20 ?_
    replace h := bind_so h
    obtain ⟨a21, h21, h⟩ := h
    refine r_getT (t := 2) rfl clok_9 F (by decide) h21 tw_1313 dX9_keepText_21 ?_
    refine r_bipush F rfl (by decide) dX9_keepText_24 ?_
    refine r_iload_n (j := 1) F rfl rfl dX9_keepText_26 ?_
    refine r_imul F dX9_keepText_27 ?_
    refine r_iload_n (j := 2) F rfl rfl dX9_keepText_28 ?_
    refine r_iadd F dX9_keepText_29 ?_
    refine r_aload_n (j := 0) F rfl rfl dX9_keepText_30 ?_
    replace h := bind_so h
    obtain ⟨a31, h31, h⟩ := h
    refine r_getT (t := 2) rfl clok_9 F (by decide) h31 tw_1338 dX9_keepText_31 ?_
    refine r_iload_n (j := 2) F rfl rfl dX9_keepText_34 ?_
    replace h := bind_so h
    obtain ⟨a35, h35, h⟩ := h
    refine r_iald F h35 dX9_keepText_35 ?_
    replace h := bind_so h
    obtain ⟨M36, h36, h⟩ := h
    refine r_iast F h36 dX9_keepText_36 ?_
    refine r_aload_n (j := 0) F rfl rfl dX9_keepText_37 ?_
    replace h := bind_so h
    obtain ⟨a38, h38, h⟩ := h
    refine r_getT (t := 2) rfl clok_9 F (by decide) h38 tw_1314 dX9_keepText_38 ?_
    refine r_bipush F rfl (by decide) dX9_keepText_41 ?_
    refine r_iload_n (j := 1) F rfl rfl dX9_keepText_43 ?_
    refine r_imul F dX9_keepText_44 ?_
    refine r_iload_n (j := 2) F rfl rfl dX9_keepText_45 ?_
    refine r_iadd F dX9_keepText_46 ?_
    refine r_aload_n (j := 0) F rfl rfl dX9_keepText_47 ?_
    replace h := bind_so h
    obtain ⟨a48, h48, h⟩ := h
    refine r_getT (t := 2) rfl clok_9 F (by decide) h48 tw_1339 dX9_keepText_48 ?_
    refine r_iload_n (j := 2) F rfl rfl dX9_keepText_51 ?_
    replace h := bind_so h
    obtain ⟨a52, h52, h⟩ := h
    refine r_iald F h52 dX9_keepText_52 ?_
    replace h := bind_so h
    obtain ⟨M53, h53, h⟩ := h
    refine r_iast F h53 dX9_keepText_53 ?_
    refine r_aload_n (j := 0) F rfl rfl dX9_keepText_54 ?_
    replace h := bind_so h
    obtain ⟨a55, h55, h⟩ := h
    refine r_getT (t := 2) rfl clok_9 F (by decide) h55 tw_1315 dX9_keepText_55 ?_
    refine r_bipush F rfl (by decide) dX9_keepText_58 ?_
    refine r_iload_n (j := 1) F rfl rfl dX9_keepText_60 ?_
    refine r_imul F dX9_keepText_61 ?_
    refine r_iload_n (j := 2) F rfl rfl dX9_keepText_62 ?_
    refine r_iadd F dX9_keepText_63 ?_
    refine r_aload_n (j := 0) F rfl rfl dX9_keepText_64 ?_
    replace h := bind_so h
    obtain ⟨a65, h65, h⟩ := h
    refine r_getT (t := 2) rfl clok_9 F (by decide) h65 tw_1340 dX9_keepText_65 ?_
    refine r_iload_n (j := 2) F rfl rfl dX9_keepText_68 ?_
    replace h := bind_so h
    obtain ⟨a69, h69, h⟩ := h
    refine r_iald F h69 dX9_keepText_69 ?_
    replace h := bind_so h
    obtain ⟨M70, h70, h⟩ := h
    refine r_iast F h70 dX9_keepText_70 ?_
    refine r_aload_n (j := 0) F rfl rfl dX9_keepText_71 ?_
    replace h := bind_so h
    obtain ⟨a72, h72, h⟩ := h
    refine r_getT (t := 2) rfl clok_9 F (by decide) h72 tw_1316 dX9_keepText_72 ?_
    refine r_bipush F rfl (by decide) dX9_keepText_75 ?_
    refine r_iload_n (j := 1) F rfl rfl dX9_keepText_77 ?_
    refine r_imul F dX9_keepText_78 ?_
    refine r_iload_n (j := 2) F rfl rfl dX9_keepText_79 ?_
    refine r_iadd F dX9_keepText_80 ?_
    refine r_aload_n (j := 0) F rfl rfl dX9_keepText_81 ?_
    replace h := bind_so h
    obtain ⟨a82, h82, h⟩ := h
    refine r_getT (t := 2) rfl clok_9 F (by decide) h82 tw_1341 dX9_keepText_82 ?_
    refine r_iload_n (j := 2) F rfl rfl dX9_keepText_85 ?_
    replace h := bind_so h
    obtain ⟨a86, h86, h⟩ := h
    refine r_iald F h86 dX9_keepText_86 ?_
    replace h := bind_so h
    obtain ⟨M87, h87, h⟩ := h
    refine r_iast F h87 dX9_keepText_87 ?_
    refine r_iinc (j := 2) (ls' := [(2, vI (wI (l2 + 1))), (0, vR l0), (1, vI l1)]) F rfl (by decide) rfl dX9_keepText_88 ?_
    refine r_goto (tgt := 12) F (by decide) dX9_keepText_91 ?_
    refine r_sub [1, 2, 0] (ls' := [(0, vR l0), (1, vI l1), (2, vI (wI (l2 + 1)))]) rfl ?_
    exact hk12 h
theorem tX9_keepText_12 {E : En} {p : Program} {l : Launch} {e : Env} {s : State} {m : MethodId} {args : Array Value} {below : List Frame} {meth : Method} {c : Code} {q : Int × Mem} (F : Fx E p s m args meth c cX9_keepText 3 yX9_keepText.cls none yX9_keepText.name) : ∀ {fu : Nat} {l0 l1 l2 : Int} {M : Mem}, mX9_keepText_12 fu l0 l1 l2 M = some q → G E p l e (rmOf 0 0 0) s m args below meth c 3 (QZ E below args s (rmOf 0 0 0) none q.2) 0 0 M 12 [(0, vR l0), (1, vI l1), (2, vI l2)] [] := by
  intro fu
  induction fu with
  | zero => intro l0 l1 l2 M h; exact nomatch (show (none : Option (Int × Mem)) = some q from h)
  | succ fu ih => intro l0 l1 l2 M h; exact tbX9_keepText_12  (fun h => ih h) F h
theorem tX9_keepText {l0 l1 : Int} {M : Mem} {q : Int × Mem} (h : mX9_keepText l0 l1 M = some q) : Ct 0 0 0 yX9_keepText cX9_keepText 3 none [vR l0, vI l1] M none q.2 := by
  unfold mX9_keepText at h
  refine Ct.of (by decide) (Nat.le_of_ble_eq_true rfl) ?_
  intro E p l e s m args below meth c F
  refine r_sub [0, 1] (ls' := [(0, vR l0), (1, vI l1)]) rfl ?_
  refine r_aload_n (j := 0) F rfl rfl dX9_keepText_0 ?_
  replace h := bind_so h
  obtain ⟨a1, h1, h⟩ := h
  refine r_getT (t := 2) rfl clok_9 F (by decide) h1 tw_1312 dX9_keepText_1 ?_
  refine r_iload_n (j := 1) F rfl rfl dX9_keepText_4 ?_
  refine r_aload_n (j := 0) F rfl rfl dX9_keepText_5 ?_
  replace h := bind_so h
  obtain ⟨a6, h6, h⟩ := h
  refine r_getT (t := 0) rfl clok_9 F (by decide) h6 tw_1337 dX9_keepText_6 ?_
  replace h := bind_so h
  obtain ⟨M9, h9, h⟩ := h
  refine r_iast F h9 dX9_keepText_9 ?_
  refine r_iconst F rfl dX9_keepText_10 ?_
  refine r_istore_n (ls' := [(2, vI 0), (0, vR l0), (1, vI l1)]) F rfl (by decide) rfl dX9_keepText_11 ?_
  refine r_sub [1, 2, 0] (ls' := [(0, vR l0), (1, vI l1), (2, vI 0)]) rfl ?_
  exact tX9_keepText_12 F h
theorem tX9_story {l0 : Int} {M : Mem} {q : Int × Mem} (h : mX9_story l0 M = some q) : Ct 6 0 0 yX9_story cX9_story 2 (some FieldType.int) [vR l0] M (some (vI q.1)) q.2 := by
  unfold mX9_story at h
  refine Ct.of (by decide) (Nat.le_of_ble_eq_true rfl) ?_
  intro E p l e s m args below meth c F
  refine r_sub [0] (ls' := [(0, vR l0)]) rfl ?_
  refine r_aload_n (j := 0) F rfl rfl dX9_story_0 ?_
  refine r_iconst F rfl dX9_story_1 ?_
  replace h := bind_so h
  obtain ⟨M2, h2, h⟩ := h
  refine r_put clok_9 F (by decide) rfl (by decide) (by decide) h2 tw_1297 dX9_story_2 ?_
  refine r_aload_n (j := 0) F rfl rfl dX9_story_5 ?_
  replace h := bind_so h
  obtain ⟨a6, h6, h⟩ := h
  refine r_getT (t := 2) rfl clok_9 F (by decide) h6 tw_1309 dX9_story_6 ?_
  refine r_iconst F rfl dX9_story_9 ?_
  replace h := bind_so h
  obtain ⟨a10, h10, h⟩ := h
  refine r_iald F h10 dX9_story_10 ?_
  refine r_bipush F rfl (by decide) dX9_story_11 ?_
  refine r_icmp_ne (tgt := 40) F (by decide) dX9_story_13 (fun hc => ?_) (fun hc => ?_)
  · replace h := ite_n h hc
    refine r_aload_n (j := 0) F rfl rfl dX9_story_40 ?_
    replace h := bind_so h
    obtain ⟨_, g41, h⟩ := h
    replace h := bind_so h
    obtain ⟨q41, h41, h⟩ := h
    refine r_callV (as := []) (rv := (some (vI q41.1))) (kc := 0) (nc := 0) (tX9_readText h41) clok_9 F (gK_so g41) tw_1599 tw_1601 tw_68 tw_1602 tw_122 ⟨by decide, by decide, show (parseMethodDescriptor yX9_readText.desc).map (fun d => d.parameters.length) = some 0 by decide +kernel⟩ ⟨by decide, by decide⟩ (Nat.le_of_ble_eq_true rfl) dX9_story_41 ?_
    refine r_if_ne (tgt := 49) F (by decide) dX9_story_44 (fun hc => ?_) (fun hc => ?_)
    · replace h := ite_n h hc
      refine r_aload_n (j := 0) F rfl rfl dX9_story_49 ?_
      replace h := bind_so h
      obtain ⟨a50, h50, h⟩ := h
      refine r_getT (t := 2) rfl clok_9 F (by decide) h50 tw_1309 dX9_story_50 ?_
      refine r_iconst F rfl dX9_story_53 ?_
      replace h := bind_so h
      obtain ⟨a54, h54, h⟩ := h
      refine r_iald F h54 dX9_story_54 ?_
      refine r_istore_n (ls' := [(1, vI a54), (0, vR l0)]) F rfl (by decide) rfl dX9_story_55 ?_
      refine r_aload_n (j := 1) F rfl rfl dX9_story_56 ?_
      replace h := bind_so h
      obtain ⟨a57, h57, h⟩ := h
      refine r_getT (t := 2) rfl clok_9 F (by decide) h57 tw_1309 dX9_story_57 ?_
      refine r_iconst F rfl dX9_story_60 ?_
      refine r_dup2 F rfl rfl dX9_story_61 ?_
      replace h := bind_so h
      obtain ⟨a62, h62, h⟩ := h
      refine r_iald F h62 dX9_story_62 ?_
      refine r_iconst F rfl dX9_story_63 ?_
      refine r_iadd F dX9_story_64 ?_
      replace h := bind_so h
      obtain ⟨M65, h65, h⟩ := h
      refine r_iast F h65 dX9_story_65 ?_
      refine r_aload_n (j := 1) F rfl rfl dX9_story_66 ?_
      refine r_iload_n (j := 0) F rfl rfl dX9_story_67 ?_
      replace h := bind_so h
      obtain ⟨_, g68, h⟩ := h
      replace h := bind_so h
      obtain ⟨q68, h68, h⟩ := h
      refine r_callV (as := [vI a54]) (rv := none) (kc := 0) (nc := 0) (tX9_keepText h68) clok_9 F (gK_so g68) tw_1688 tw_1690 tw_84 tw_1691 tw_122 ⟨by decide, by decide, show (parseMethodDescriptor yX9_keepText.desc).map (fun d => d.parameters.length) = some 1 by decide +kernel⟩ ⟨by decide, by decide⟩ (Nat.le_of_ble_eq_true rfl) dX9_story_68 ?_
      refine r_aload_n (j := 1) F rfl rfl dX9_story_71 ?_
      replace h := bind_so h
      obtain ⟨a72, h72, h⟩ := h
      refine r_getT (t := 2) rfl clok_9 F (by decide) h72 tw_1310 dX9_story_72 ?_
      refine r_iload_n (j := 0) F rfl rfl dX9_story_75 ?_
      refine r_aload_n (j := 1) F rfl rfl dX9_story_76 ?_
      replace h := bind_so h
      obtain ⟨a77, h77, h⟩ := h
      refine r_getT (t := 2) rfl clok_9 F (by decide) h77 tw_1302 dX9_story_77 ?_
      refine r_iconst F rfl dX9_story_80 ?_
      replace h := bind_so h
      obtain ⟨a81, h81, h⟩ := h
      refine r_iald F h81 dX9_story_81 ?_
      replace h := bind_so h
      obtain ⟨M82, h82, h⟩ := h
      refine r_iast F h82 dX9_story_82 ?_
      refine r_aload_n (j := 1) F rfl rfl dX9_story_83 ?_
      replace h := bind_so h
      obtain ⟨a84, h84, h⟩ := h
      refine r_getT (t := 2) rfl clok_9 F (by decide) h84 tw_1311 dX9_story_84 ?_
      refine r_iload_n (j := 0) F rfl rfl dX9_story_87 ?_
      refine r_iconst F rfl dX9_story_88 ?_
      replace h := bind_so h
      obtain ⟨M89, h89, h⟩ := h
      refine r_iast F h89 dX9_story_89 ?_
      refine r_iload_n (j := 0) F rfl rfl dX9_story_90 ?_
      obtain rfl := Option.some.inj h
      exact r_iret F dX9_story_91
    · replace h := ite_p h hc
      refine r_iconst F rfl dX9_story_47 ?_
      obtain rfl := Option.some.inj h
      exact r_iret F dX9_story_48
  · replace h := ite_p h hc
    refine r_aload_n (j := 0) F rfl rfl dX9_story_16 ?_
    replace h := bind_so h
    obtain ⟨a17, h17, h⟩ := h
    refine r_getT (t := 2) rfl clok_9 F (by decide) h17 tw_1299 dX9_story_17 ?_
    refine r_iconst F rfl dX9_story_20 ?_
    refine r_iconst F rfl dX9_story_21 ?_
    replace h := bind_so h
    obtain ⟨M22, h22, h⟩ := h
    refine r_iast F h22 dX9_story_22 ?_
    refine r_aload_n (j := 0) F rfl rfl dX9_story_23 ?_
    replace h := bind_so h
    obtain ⟨a24, h24, h⟩ := h
    refine r_getT (t := 2) rfl clok_9 F (by decide) h24 tw_1300 dX9_story_24 ?_
    refine r_iconst F rfl dX9_story_27 ?_
    refine r_iconst F rfl dX9_story_28 ?_
    replace h := bind_so h
    obtain ⟨M29, h29, h⟩ := h
    refine r_iast F h29 dX9_story_29 ?_
    refine r_aload_n (j := 0) F rfl rfl dX9_story_30 ?_
    replace h := bind_so h
    obtain ⟨a31, h31, h⟩ := h
    refine r_getT (t := 2) rfl clok_9 F (by decide) h31 tw_1301 dX9_story_31 ?_
    refine r_iconst F rfl dX9_story_34 ?_
    refine r_iconst F rfl dX9_story_35 ?_
    replace h := bind_so h
    obtain ⟨M36, h36, h⟩ := h
    refine r_iast F h36 dX9_story_36 ?_
    refine r_bipush F rfl (by decide) dX9_story_37 ?_
    obtain rfl := Option.some.inj h
    exact r_iret F dX9_story_39
theorem tX9_guess {l0 : Int} {M : Mem} {q : Int × Mem} (h : mX9_guess l0 M = some q) : Ct 6 0 0 yX9_guess cX9_guess 1 (some FieldType.int) [vR l0] M (some (vI q.1)) q.2 := by
  unfold mX9_guess at h
  refine Ct.of (by decide) (Nat.le_of_ble_eq_true rfl) ?_
  intro E p l e s m args below meth c F
  refine r_sub [0] (ls' := [(0, vR l0)]) rfl ?_
  refine r_aload_n (j := 0) F rfl rfl dX9_guess_0 ?_
  refine r_iconst F rfl dX9_guess_1 ?_
  replace h := bind_so h
  obtain ⟨M2, h2, h⟩ := h
  refine r_put clok_9 F (by decide) rfl (by decide) (by decide) h2 tw_1297 dX9_guess_2 ?_
  refine r_aload_n (j := 0) F rfl rfl dX9_guess_5 ?_
  replace h := bind_so h
  obtain ⟨_, g6, h⟩ := h
  replace h := bind_so h
  obtain ⟨q6, h6, h⟩ := h
  refine r_callV (as := []) (rv := (some (vI q6.1))) (kc := 0) (nc := 0) (tX9_readText h6) clok_9 F (gK_so g6) tw_1599 tw_1601 tw_68 tw_1602 tw_122 ⟨by decide, by decide, show (parseMethodDescriptor yX9_readText.desc).map (fun d => d.parameters.length) = some 0 by decide +kernel⟩ ⟨by decide, by decide⟩ (Nat.le_of_ble_eq_true rfl) dX9_guess_6 ?_
  refine r_if_ne (tgt := 14) F (by decide) dX9_guess_9 (fun hc => ?_) (fun hc => ?_)
  · replace h := ite_n h hc
    refine r_aload_n (j := 0) F rfl rfl dX9_guess_14 ?_
    refine r_bipush F rfl (by decide) dX9_guess_15 ?_
    replace h := bind_so h
    obtain ⟨_, g17, h⟩ := h
    replace h := bind_so h
    obtain ⟨q17, h17, h⟩ := h
    refine r_callV (as := [vI 8]) (rv := none) (kc := 0) (nc := 0) (tX9_keepText h17) clok_9 F (gK_so g17) tw_1688 tw_1690 tw_84 tw_1691 tw_122 ⟨by decide, by decide, show (parseMethodDescriptor yX9_keepText.desc).map (fun d => d.parameters.length) = some 1 by decide +kernel⟩ ⟨by decide, by decide⟩ (Nat.le_of_ble_eq_true rfl) dX9_guess_17 ?_
    refine r_aload_n (j := 0) F rfl rfl dX9_guess_20 ?_
    replace h := bind_so h
    obtain ⟨a21, h21, h⟩ := h
    refine r_getT (t := 0) rfl clok_9 F (by decide) h21 tw_1337 dX9_guess_21 ?_
    obtain rfl := Option.some.inj h
    exact r_iret F dX9_guess_24
  · replace h := ite_p h hc
    refine r_iconst F rfl dX9_guess_12 ?_
    obtain rfl := Option.some.inj h
    exact r_iret F dX9_guess_13
theorem tX9_fault {l0 l1 : Int} {M : Mem} {q : Int × Mem} (h : mX9_fault l0 l1 M = some q) : Ct 0 0 0 yX9_fault cX9_fault 2 (some FieldType.int) [vR l0, vI l1] M (some (vI q.1)) q.2 := by
  unfold mX9_fault at h
  refine Ct.of (by decide) (Nat.le_of_ble_eq_true rfl) ?_
  intro E p l e s m args below meth c F
  refine r_sub [0, 1] (ls' := [(0, vR l0), (1, vI l1)]) rfl ?_
  refine r_aload_n (j := 0) F rfl rfl dX9_fault_0 ?_
  refine r_iconst F rfl dX9_fault_1 ?_
  replace h := bind_so h
  obtain ⟨M2, h2, h⟩ := h
  refine r_put clok_9 F (by decide) rfl (by decide) (by decide) h2 tw_1297 dX9_fault_2 ?_
  refine r_iload_n (j := 1) F rfl rfl dX9_fault_5 ?_
  refine r_if_ne (tgt := 18) F (by decide) dX9_fault_6 (fun hc => ?_) (fun hc => ?_)
  · replace h := ite_n h hc
    refine r_iload_n (j := 1) F rfl rfl dX9_fault_18 ?_
    refine r_iconst F rfl dX9_fault_19 ?_
    refine r_icmp_ne (tgt := 32) F (by decide) dX9_fault_20 (fun hc => ?_) (fun hc => ?_)
    · replace h := ite_n h hc
      refine r_iconst F rfl dX9_fault_32 ?_
      obtain rfl := Option.some.inj h
      exact r_iret F dX9_fault_33
    · replace h := ite_p h hc
      refine r_aload_n (j := 0) F rfl rfl dX9_fault_23 ?_
      replace h := bind_so h
      obtain ⟨a24, h24, h⟩ := h
      refine r_getT (t := 2) rfl clok_9 F (by decide) h24 tw_1301 dX9_fault_24 ?_
      refine r_iconst F rfl dX9_fault_27 ?_
      replace h := bind_so h
      obtain ⟨a28, h28, h⟩ := h
      refine r_iald F h28 dX9_fault_28 ?_
      refine r_goto (tgt := 33) F (by decide) dX9_fault_29 ?_
      obtain rfl := Option.some.inj h
      exact r_iret F dX9_fault_33
  · replace h := ite_p h hc
    refine r_aload_n (j := 0) F rfl rfl dX9_fault_9 ?_
    replace h := bind_so h
    obtain ⟨a10, h10, h⟩ := h
    refine r_getT (t := 2) rfl clok_9 F (by decide) h10 tw_1300 dX9_fault_10 ?_
    refine r_iconst F rfl dX9_fault_13 ?_
    replace h := bind_so h
    obtain ⟨a14, h14, h⟩ := h
    refine r_iald F h14 dX9_fault_14 ?_
    refine r_goto (tgt := 33) F (by decide) dX9_fault_15 ?_
    obtain rfl := Option.some.inj h
    exact r_iret F dX9_fault_33
theorem tX9_strike {l0 l1 : Int} {M : Mem} {q : Int × Mem} (h : mX9_strike l0 l1 M = some q) : Ct 1 0 0 yX9_strike cX9_strike 2 (some FieldType.boolean) [vR l0, vI l1] M (some (vI q.1)) q.2 := by
  unfold mX9_strike at h
  refine Ct.of (by decide) (Nat.le_of_ble_eq_true rfl) ?_
  intro E p l e s m args below meth c F
  refine r_sub [0, 1] (ls' := [(0, vR l0), (1, vI l1)]) rfl ?_
  refine r_aload_n (j := 0) F rfl rfl dX9_strike_0 ?_
  refine r_iconst F rfl dX9_strike_1 ?_
  replace h := bind_so h
  obtain ⟨M2, h2, h⟩ := h
  refine r_put clok_9 F (by decide) rfl (by decide) (by decide) h2 tw_1297 dX9_strike_2 ?_
  refine r_iload_n (j := 1) F rfl rfl dX9_strike_5 ?_
  refine r_iconst F rfl dX9_strike_6 ?_
  refine r_aload_n (j := 0) F rfl rfl dX9_strike_7 ?_
  replace h := bind_so h
  obtain ⟨a8, h8, h⟩ := h
  refine r_getT (t := 2) rfl clok_9 F (by decide) h8 tw_1309 dX9_strike_8 ?_
  refine r_iconst F rfl dX9_strike_11 ?_
  replace h := bind_so h
  obtain ⟨a12, h12, h⟩ := h
  refine r_iald F h12 dX9_strike_12 ?_
  refine r_iconst F rfl dX9_strike_13 ?_
  refine r_isub F dX9_strike_14 ?_
  replace h := bind_so h
  obtain ⟨q15, h15, h⟩ := h
  refine r_callS (as := [vI l1, vI 0, vI (wI (a12 - 1))]) (rv := (some (vI q15.1))) (kc := 0) (nc := 0) (tX9_in h15) F tw_1491 tw_1492 tw_1493 tw_122 ⟨by decide, by decide, show (parseMethodDescriptor yX9_in.desc).map (fun d => d.parameters.length) = some 3 by decide +kernel⟩ ⟨by decide, by decide⟩ (Nat.le_of_ble_eq_true rfl) dX9_strike_15 ?_
  refine r_if_eq (tgt := 31) F (by decide) dX9_strike_18 (fun hc => ?_) (fun hc => ?_)
  · replace h := ite_p h hc
    refine r_iconst F rfl dX9_strike_31 ?_
    obtain rfl := Option.some.inj h
    exact r_zret (Or.inl rfl) F dX9_strike_32
  · replace h := ite_n h hc
    refine r_aload_n (j := 0) F rfl rfl dX9_strike_21 ?_
    replace h := bind_so h
    obtain ⟨a22, h22, h⟩ := h
    refine r_getT (t := 2) rfl clok_9 F (by decide) h22 tw_1311 dX9_strike_22 ?_
    refine r_iload_n (j := 1) F rfl rfl dX9_strike_25 ?_
    replace h := bind_so h
    obtain ⟨a26, h26, h⟩ := h
    refine r_iald F h26 dX9_strike_26 ?_
    refine r_iconst F rfl dX9_strike_27 ?_
    refine r_icmp_eq (tgt := 33) F (by decide) dX9_strike_28 (fun hc => ?_) (fun hc => ?_)
    · replace h := ite_p h hc
      refine r_aload_n (j := 0) F rfl rfl dX9_strike_33 ?_
      replace h := bind_so h
      obtain ⟨a34, h34, h⟩ := h
      refine r_getT (t := 2) rfl clok_9 F (by decide) h34 tw_1311 dX9_strike_34 ?_
      refine r_iload_n (j := 1) F rfl rfl dX9_strike_37 ?_
      refine r_aload_n (j := 0) F rfl rfl dX9_strike_38 ?_
      replace h := bind_so h
      obtain ⟨a39, h39, h⟩ := h
      refine r_getT (t := 2) rfl clok_9 F (by decide) h39 tw_1302 dX9_strike_39 ?_
      refine r_iconst F rfl dX9_strike_42 ?_
      replace h := bind_so h
      obtain ⟨a43, h43, h⟩ := h
      refine r_iald F h43 dX9_strike_43 ?_
      replace h := bind_so h
      obtain ⟨M44, h44, h⟩ := h
      refine r_iast F h44 dX9_strike_44 ?_
      refine r_iconst F rfl dX9_strike_45 ?_
      obtain rfl := Option.some.inj h
      exact r_zret (Or.inr rfl) F dX9_strike_46
    · replace h := ite_n h hc
      refine r_iconst F rfl dX9_strike_31 ?_
      obtain rfl := Option.some.inj h
      exact r_zret (Or.inl rfl) F dX9_strike_32
theorem tX9_day {l0 l1 : Int} {M : Mem} {q : Int × Mem} (h : mX9_day l0 l1 M = some q) : Ct 1 0 0 yX9_day cX9_day 2 (some FieldType.boolean) [vR l0, vI l1] M (some (vI q.1)) q.2 := by
  unfold mX9_day at h
  refine Ct.of (by decide) (Nat.le_of_ble_eq_true rfl) ?_
  intro E p l e s m args below meth c F
  refine r_sub [0, 1] (ls' := [(0, vR l0), (1, vI l1)]) rfl ?_
  refine r_aload_n (j := 0) F rfl rfl dX9_day_0 ?_
  refine r_iconst F rfl dX9_day_1 ?_
  replace h := bind_so h
  obtain ⟨M2, h2, h⟩ := h
  refine r_put clok_9 F (by decide) rfl (by decide) (by decide) h2 tw_1297 dX9_day_2 ?_
  refine r_iload_n (j := 1) F rfl rfl dX9_day_5 ?_
  refine r_aload_n (j := 0) F rfl rfl dX9_day_6 ?_
  replace h := bind_so h
  obtain ⟨a7, h7, h⟩ := h
  refine r_getT (t := 2) rfl clok_9 F (by decide) h7 tw_1302 dX9_day_7 ?_
  refine r_iconst F rfl dX9_day_10 ?_
  replace h := bind_so h
  obtain ⟨a11, h11, h⟩ := h
  refine r_iald F h11 dX9_day_11 ?_
  refine r_sipush F rfl (by decide) dX9_day_12 ?_
  replace h := bind_so h
  obtain ⟨q15, h15, h⟩ := h
  refine r_callS (as := [vI l1, vI a11, vI 999]) (rv := (some (vI q15.1))) (kc := 0) (nc := 0) (tX9_in h15) F tw_1491 tw_1492 tw_1493 tw_122 ⟨by decide, by decide, show (parseMethodDescriptor yX9_in.desc).map (fun d => d.parameters.length) = some 3 by decide +kernel⟩ ⟨by decide, by decide⟩ (Nat.le_of_ble_eq_true rfl) dX9_day_15 ?_
  refine r_if_ne (tgt := 23) F (by decide) dX9_day_18 (fun hc => ?_) (fun hc => ?_)
  · replace h := ite_n h hc
    refine r_aload_n (j := 0) F rfl rfl dX9_day_23 ?_
    replace h := bind_so h
    obtain ⟨a24, h24, h⟩ := h
    refine r_getT (t := 2) rfl clok_9 F (by decide) h24 tw_1302 dX9_day_24 ?_
    refine r_iconst F rfl dX9_day_27 ?_
    refine r_iload_n (j := 1) F rfl rfl dX9_day_28 ?_
    replace h := bind_so h
    obtain ⟨M29, h29, h⟩ := h
    refine r_iast F h29 dX9_day_29 ?_
    refine r_iconst F rfl dX9_day_30 ?_
    obtain rfl := Option.some.inj h
    exact r_zret (Or.inr rfl) F dX9_day_31
  · replace h := ite_p h hc
    refine r_iconst F rfl dX9_day_21 ?_
    obtain rfl := Option.some.inj h
    exact r_zret (Or.inl rfl) F dX9_day_22
theorem tX9_view {l0 l1 : Int} {M : Mem} {q : Int × Mem} (h : mX9_view l0 l1 M = some q) : Ct 1 0 0 yX9_view cX9_view 2 (some FieldType.boolean) [vR l0, vI l1] M (some (vI q.1)) q.2 := by
  unfold mX9_view at h
  refine Ct.of (by decide) (Nat.le_of_ble_eq_true rfl) ?_
  intro E p l e s m args below meth c F
  refine r_sub [0, 1] (ls' := [(0, vR l0), (1, vI l1)]) rfl ?_
  refine r_aload_n (j := 0) F rfl rfl dX9_view_0 ?_
  refine r_iconst F rfl dX9_view_1 ?_
  replace h := bind_so h
  obtain ⟨M2, h2, h⟩ := h
  refine r_put clok_9 F (by decide) rfl (by decide) (by decide) h2 tw_1297 dX9_view_2 ?_
  refine r_iload_n (j := 1) F rfl rfl dX9_view_5 ?_
  refine r_iconst F rfl dX9_view_6 ?_
  refine r_aload_n (j := 0) F rfl rfl dX9_view_7 ?_
  replace h := bind_so h
  obtain ⟨a8, h8, h⟩ := h
  refine r_getT (t := 2) rfl clok_9 F (by decide) h8 tw_1302 dX9_view_8 ?_
  refine r_iconst F rfl dX9_view_11 ?_
  replace h := bind_so h
  obtain ⟨a12, h12, h⟩ := h
  refine r_iald F h12 dX9_view_12 ?_
  replace h := bind_so h
  obtain ⟨q13, h13, h⟩ := h
  refine r_callS (as := [vI l1, vI (-1), vI a12]) (rv := (some (vI q13.1))) (kc := 0) (nc := 0) (tX9_in h13) F tw_1491 tw_1492 tw_1493 tw_122 ⟨by decide, by decide, show (parseMethodDescriptor yX9_in.desc).map (fun d => d.parameters.length) = some 3 by decide +kernel⟩ ⟨by decide, by decide⟩ (Nat.le_of_ble_eq_true rfl) dX9_view_13 ?_
  refine r_if_ne (tgt := 21) F (by decide) dX9_view_16 (fun hc => ?_) (fun hc => ?_)
  · replace h := ite_n h hc
    refine r_aload_n (j := 0) F rfl rfl dX9_view_21 ?_
    replace h := bind_so h
    obtain ⟨a22, h22, h⟩ := h
    refine r_getT (t := 2) rfl clok_9 F (by decide) h22 tw_1303 dX9_view_22 ?_
    refine r_iconst F rfl dX9_view_25 ?_
    refine r_iload_n (j := 1) F rfl rfl dX9_view_26 ?_
    replace h := bind_so h
    obtain ⟨M27, h27, h⟩ := h
    refine r_iast F h27 dX9_view_27 ?_
    refine r_iconst F rfl dX9_view_28 ?_
    obtain rfl := Option.some.inj h
    exact r_zret (Or.inr rfl) F dX9_view_29
  · replace h := ite_p h hc
    refine r_iconst F rfl dX9_view_19 ?_
    obtain rfl := Option.some.inj h
    exact r_zret (Or.inl rfl) F dX9_view_20
theorem tX9_told_78 {E : En} {p : Program} {l : Launch} {e : Env} {s : State} {m : MethodId} {args : Array Value} {below : List Frame} {meth : Method} {c : Code} {q : Int × Mem} {k30 : Int → Int → Int → Int → Mem → Option (Int × Mem)} (hk30 : ∀ {l0 l1 l2 l3 : Int} {M : Mem}, k30 l0 l1 l2 l3 M = some q → G E p l e (rmOf 0 0 0) s m args below meth c 4 (QZ E below args s (rmOf 0 0 0) (some (vI q.1)) q.2) 0 0 M 30 [(0, vR l0), (1, vI l1), (2, vI l2), (3, vI l3)] []) {l0 l1 l3 s0 s1 : Int} {M : Mem} (F : Fx E p s m args meth c cX9_told 4 yX9_told.cls (some FieldType.int) yX9_told.name) (h : mX9_told_78 k30 l0 l1 l3 s0 s1 M = some q) : G E p l e (rmOf 0 0 0) s m args below meth c 4 (QZ E below args s (rmOf 0 0 0) (some (vI q.1)) q.2) 0 0 M 78 [(0, vR l0), (1, vI l1), (3, vI l3)] [vI s1, vI s0] := by
  unfold mX9_told_78 at h
  refine r_ior F dX9_told_78 ?_
  refine r_istore_n (ls' := [(2, vI (ior s0 s1)), (0, vR l0), (1, vI l1), (3, vI l3)]) F rfl (by decide) rfl dX9_told_79 ?_
  refine r_iinc (j := 3) (ls' := [(3, vI (wI (l3 + 1))), (2, vI (ior s0 s1)), (0, vR l0), (1, vI l1)]) F rfl (by decide) rfl dX9_told_80 ?_
  refine r_goto (tgt := 30) F (by decide) dX9_told_83 ?_
  refine r_sub [2, 3, 1, 0] (ls' := [(0, vR l0), (1, vI l1), (2, vI (ior s0 s1)), (3, vI (wI (l3 + 1)))]) rfl ?_
  exact hk30 h
theorem tX9_told_77 {E : En} {p : Program} {l : Launch} {e : Env} {s : State} {m : MethodId} {args : Array Value} {below : List Frame} {meth : Method} {c : Code} {q : Int × Mem} {k30 : Int → Int → Int → Int → Mem → Option (Int × Mem)} (hk30 : ∀ {l0 l1 l2 l3 : Int} {M : Mem}, k30 l0 l1 l2 l3 M = some q → G E p l e (rmOf 0 0 0) s m args below meth c 4 (QZ E below args s (rmOf 0 0 0) (some (vI q.1)) q.2) 0 0 M 30 [(0, vR l0), (1, vI l1), (2, vI l2), (3, vI l3)] []) {l0 l1 l3 s0 : Int} {M : Mem} (F : Fx E p s m args meth c cX9_told 4 yX9_told.cls (some FieldType.int) yX9_told.name) (h : mX9_told_77 k30 l0 l1 l3 s0 M = some q) : G E p l e (rmOf 0 0 0) s m args below meth c 4 (QZ E below args s (rmOf 0 0 0) (some (vI q.1)) q.2) 0 0 M 77 [(0, vR l0), (1, vI l1), (3, vI l3)] [vI s0] := by
  unfold mX9_told_77 at h
  refine r_iconst F rfl dX9_told_77 ?_
  refine r_sub [0, 1, 2] (ls' := [(0, vR l0), (1, vI l1), (3, vI l3)]) rfl ?_
  exact tX9_told_78 (fun h => hk30 h) F h
theorem tX9_told_71 {E : En} {p : Program} {l : Launch} {e : Env} {s : State} {m : MethodId} {args : Array Value} {below : List Frame} {meth : Method} {c : Code} {q : Int × Mem} {k30 : Int → Int → Int → Int → Mem → Option (Int × Mem)} (hk30 : ∀ {l0 l1 l2 l3 : Int} {M : Mem}, k30 l0 l1 l2 l3 M = some q → G E p l e (rmOf 0 0 0) s m args below meth c 4 (QZ E below args s (rmOf 0 0 0) (some (vI q.1)) q.2) 0 0 M 30 [(0, vR l0), (1, vI l1), (2, vI l2), (3, vI l3)] []) {l0 l1 l3 s0 : Int} {M : Mem} (F : Fx E p s m args meth c cX9_told 4 yX9_told.cls (some FieldType.int) yX9_told.name) (h : mX9_told_71 k30 l0 l1 l3 s0 M = some q) : G E p l e (rmOf 0 0 0) s m args below meth c 4 (QZ E below args s (rmOf 0 0 0) (some (vI q.1)) q.2) 0 0 M 71 [(0, vR l0), (1, vI l1), (3, vI l3)] [vI s0] := by
  unfold mX9_told_71 at h
  refine r_iconst F rfl dX9_told_71 ?_
  refine r_iload_n (j := 2) F rfl rfl dX9_told_72 ?_
  refine r_ishl F dX9_told_73 ?_
  refine r_goto (tgt := 78) F (by decide) dX9_told_74 ?_
  refine r_sub [0, 1, 2] (ls' := [(0, vR l0), (1, vI l1), (3, vI l3)]) rfl ?_
  exact tX9_told_78 (fun h => hk30 h) F h
theorem tbX9_told_30 {E : En} {p : Program} {l : Launch} {e : Env} {s : State} {m : MethodId} {args : Array Value} {below : List Frame} {meth : Method} {c : Code} {q : Int × Mem} {k30 : Int → Int → Int → Int → Mem → Option (Int × Mem)} (hk30 : ∀ {l0 l1 l2 l3 : Int} {M : Mem}, k30 l0 l1 l2 l3 M = some q → G E p l e (rmOf 0 0 0) s m args below meth c 4 (QZ E below args s (rmOf 0 0 0) (some (vI q.1)) q.2) 0 0 M 30 [(0, vR l0), (1, vI l1), (2, vI l2), (3, vI l3)] []) {l0 l1 l2 l3 : Int} {M : Mem} (F : Fx E p s m args meth c cX9_told 4 yX9_told.cls (some FieldType.int) yX9_told.name) (h : bX9_told_30 k30 l0 l1 l2 l3 M = some q) : G E p l e (rmOf 0 0 0) s m args below meth c 4 (QZ E below args s (rmOf 0 0 0) (some (vI q.1)) q.2) 0 0 M 30 [(0, vR l0), (1, vI l1), (2, vI l2), (3, vI l3)] [] := by
  unfold bX9_told_30 at h
  refine r_iload_n (j := 3) F rfl rfl dX9_told_30 ?_
  refine r_aload_n (j := 0) F rfl rfl dX9_told_31 ?_
  replace h := bind_so h
  obtain ⟨a32, h32, h⟩ := h
  refine r_getT (t := 2) rfl clok_9 F (by decide) h32 tw_1309 dX9_told_32 ?_
  refine r_iconst F rfl dX9_told_35 ?_
  replace h := bind_so h
  obtain ⟨a36, h36, h⟩ := h
  refine r_iald F h36 dX9_told_36 ?_
  refine r_icmp_ge (tgt := 86) F (by decide) dX9_told_37 (fun hc => ?_) (fun hc => ?_)
  · replace h := ite_p h hc
    refine r_iload_n (j := 2) F rfl rfl dX9_told_86 ?_
    obtain rfl := Option.some.inj h
    exact r_iret F dX9_told_87
  · replace h := ite_n h hc
    refine r_iload_n (j := 2) F rfl rfl dX9_told_40 ?_
    refine r_aload_n (j := 0) F rfl rfl dX9_told_41 ?_
    replace h := bind_so h
    obtain ⟨a42, h42, h⟩ := h
    refine r_getT (t := 2) rfl clok_9 F (by decide) h42 tw_1310 dX9_told_42 ?_
    refine r_iload_n (j := 3) F rfl rfl dX9_told_45 ?_
    replace h := bind_so h
    obtain ⟨a46, h46, h⟩ := h
    refine r_iald F h46 dX9_told_46 ?_
    refine r_iload_n (j := 1) F rfl rfl dX9_told_47 ?_
    refine r_icmp_gt (tgt := 77) F (by decide) dX9_told_48 (fun hc => ?_) (fun hc => ?_)
    · replace h := ite_p h hc
      refine r_sub [0, 1, 3] (ls' := [(0, vR l0), (1, vI l1), (3, vI l3)]) rfl ?_
      exact tX9_told_77 (fun h => hk30 h) F h
    · replace h := ite_n h hc
      refine r_aload_n (j := 0) F rfl rfl dX9_told_51 ?_
      replace h := bind_so h
      obtain ⟨a52, h52, h⟩ := h
      refine r_getT (t := 2) rfl clok_9 F (by decide) h52 tw_1311 dX9_told_52 ?_
      refine r_iload_n (j := 3) F rfl rfl dX9_told_55 ?_
      replace h := bind_so h
      obtain ⟨a56, h56, h⟩ := h
      refine r_iald F h56 dX9_told_56 ?_
      refine r_iconst F rfl dX9_told_57 ?_
      refine r_icmp_eq (tgt := 71) F (by decide) dX9_told_58 (fun hc => ?_) (fun hc => ?_)
      · replace h := ite_p h hc
        refine r_sub [0, 1, 3] (ls' := [(0, vR l0), (1, vI l1), (3, vI l3)]) rfl ?_
        exact tX9_told_71 (fun h => hk30 h) F h
      · replace h := ite_n h hc
        refine r_aload_n (j := 0) F rfl rfl dX9_told_61 ?_
        replace h := bind_so h
        obtain ⟨a62, h62, h⟩ := h
        refine r_getT (t := 2) rfl clok_9 F (by decide) h62 tw_1311 dX9_told_62 ?_
        refine r_iload_n (j := 3) F rfl rfl dX9_told_65 ?_
        replace h := bind_so h
        obtain ⟨a66, h66, h⟩ := h
        refine r_iald F h66 dX9_told_66 ?_
        refine r_iload_n (j := 1) F rfl rfl dX9_told_67 ?_
        refine r_icmp_le (tgt := 77) F (by decide) dX9_told_68 (fun hc => ?_) (fun hc => ?_)
        · replace h := ite_p h hc
          refine r_sub [0, 1, 3] (ls' := [(0, vR l0), (1, vI l1), (3, vI l3)]) rfl ?_
          exact tX9_told_77 (fun h => hk30 h) F h
        · replace h := ite_n h hc
          refine r_sub [0, 1, 3] (ls' := [(0, vR l0), (1, vI l1), (3, vI l3)]) rfl ?_
          exact tX9_told_71 (fun h => hk30 h) F h
theorem tX9_told_30 {E : En} {p : Program} {l : Launch} {e : Env} {s : State} {m : MethodId} {args : Array Value} {below : List Frame} {meth : Method} {c : Code} {q : Int × Mem} (F : Fx E p s m args meth c cX9_told 4 yX9_told.cls (some FieldType.int) yX9_told.name) : ∀ {fu : Nat} {l0 l1 l2 l3 : Int} {M : Mem}, mX9_told_30 fu l0 l1 l2 l3 M = some q → G E p l e (rmOf 0 0 0) s m args below meth c 4 (QZ E below args s (rmOf 0 0 0) (some (vI q.1)) q.2) 0 0 M 30 [(0, vR l0), (1, vI l1), (2, vI l2), (3, vI l3)] [] := by
  intro fu
  induction fu with
  | zero => intro l0 l1 l2 l3 M h; exact nomatch (show (none : Option (Int × Mem)) = some q from h)
  | succ fu ih => intro l0 l1 l2 l3 M h; exact tbX9_told_30  (fun h => ih h) F h
theorem tX9_told_25 {E : En} {p : Program} {l : Launch} {e : Env} {s : State} {m : MethodId} {args : Array Value} {below : List Frame} {meth : Method} {c : Code} {q : Int × Mem} {l0 s0 : Int} {M : Mem} (F : Fx E p s m args meth c cX9_told 4 yX9_told.cls (some FieldType.int) yX9_told.name) (h : mX9_told_25 l0 s0 M = some q) : G E p l e (rmOf 0 0 0) s m args below meth c 4 (QZ E below args s (rmOf 0 0 0) (some (vI q.1)) q.2) 0 0 M 25 [(0, vR l0)] [vI s0] := by
  unfold mX9_told_25 at h
  refine r_istore_n (ls' := [(1, vI s0), (0, vR l0)]) F rfl (by decide) rfl dX9_told_25 ?_
  refine r_iconst F rfl dX9_told_26 ?_
  refine r_istore_n (ls' := [(2, vI 0), (1, vI s0), (0, vR l0)]) F rfl (by decide) rfl dX9_told_27 ?_
  refine r_iconst F rfl dX9_told_28 ?_
  refine r_istore_n (ls' := [(3, vI 0), (2, vI 0), (1, vI s0), (0, vR l0)]) F rfl (by decide) rfl dX9_told_29 ?_
  refine r_sub [3, 2, 1, 0] (ls' := [(0, vR l0), (1, vI s0), (2, vI 0), (3, vI 0)]) rfl ?_
  exact tX9_told_30 F h
theorem tX9_told {l0 : Int} {M : Mem} {q : Int × Mem} (h : mX9_told l0 M = some q) : Ct 0 0 0 yX9_told cX9_told 4 (some FieldType.int) [vR l0] M (some (vI q.1)) q.2 := by
  unfold mX9_told at h
  refine Ct.of (by decide) (Nat.le_of_ble_eq_true rfl) ?_
  intro E p l e s m args below meth c F
  refine r_sub [0] (ls' := [(0, vR l0)]) rfl ?_
  refine r_aload_n (j := 0) F rfl rfl dX9_told_0 ?_
  replace h := bind_so h
  obtain ⟨a1, h1, h⟩ := h
  refine r_getT (t := 2) rfl clok_9 F (by decide) h1 tw_1303 dX9_told_1 ?_
  refine r_iconst F rfl dX9_told_4 ?_
  replace h := bind_so h
  obtain ⟨a5, h5, h⟩ := h
  refine r_iald F h5 dX9_told_5 ?_
  refine r_iconst F rfl dX9_told_6 ?_
  refine r_icmp_ne (tgt := 19) F (by decide) dX9_told_7 (fun hc => ?_) (fun hc => ?_)
  · replace h := ite_n h hc
    refine r_aload_n (j := 0) F rfl rfl dX9_told_19 ?_
    replace h := bind_so h
    obtain ⟨a20, h20, h⟩ := h
    refine r_getT (t := 2) rfl clok_9 F (by decide) h20 tw_1303 dX9_told_20 ?_
    refine r_iconst F rfl dX9_told_23 ?_
    replace h := bind_so h
    obtain ⟨a24, h24, h⟩ := h
    refine r_iald F h24 dX9_told_24 ?_
    refine r_sub [0] (ls' := [(0, vR l0)]) rfl ?_
    exact tX9_told_25 F h
  · replace h := ite_p h hc
    refine r_aload_n (j := 0) F rfl rfl dX9_told_10 ?_
    replace h := bind_so h
    obtain ⟨a11, h11, h⟩ := h
    refine r_getT (t := 2) rfl clok_9 F (by decide) h11 tw_1302 dX9_told_11 ?_
    refine r_iconst F rfl dX9_told_14 ?_
    replace h := bind_so h
    obtain ⟨a15, h15, h⟩ := h
    refine r_iald F h15 dX9_told_15 ?_
    refine r_goto (tgt := 25) F (by decide) dX9_told_16 ?_
    refine r_sub [0] (ls' := [(0, vR l0)]) rfl ?_
    exact tX9_told_25 F h
theorem tX9_unit {l0 : Int} {M : Mem} {q : Int × Mem} (h : mX9_unit l0 M = some q) : Ct 0 0 0 yX9_unit cX9_unit 1 (some FieldType.int) [vI l0] M (some (vI q.1)) q.2 := by
  unfold mX9_unit at h
  refine Ct.of (by decide) (Nat.le_of_ble_eq_true rfl) ?_
  intro E p l e s m args below meth c F
  refine r_sub [0] (ls' := [(0, vI l0)]) rfl ?_
  refine r_iload_n (j := 0) F rfl rfl dX9_unit_0 ?_
  refine r_if_ne (tgt := 8) F (by decide) dX9_unit_1 (fun hc => ?_) (fun hc => ?_)
  · replace h := ite_n h hc
    refine r_iload_n (j := 0) F rfl rfl dX9_unit_8 ?_
    refine r_iconst F rfl dX9_unit_9 ?_
    refine r_icmp_ne (tgt := 17) F (by decide) dX9_unit_10 (fun hc => ?_) (fun hc => ?_)
    · replace h := ite_n h hc
      refine r_iload_n (j := 0) F rfl rfl dX9_unit_17 ?_
      refine r_iconst F rfl dX9_unit_18 ?_
      refine r_icmp_ne (tgt := 27) F (by decide) dX9_unit_19 (fun hc => ?_) (fun hc => ?_)
      · replace h := ite_n h hc
        refine r_bipush F rfl (by decide) dX9_unit_27 ?_
        obtain rfl := Option.some.inj h
        exact r_iret F dX9_unit_29
      · replace h := ite_p h hc
        refine r_bipush F rfl (by decide) dX9_unit_22 ?_
        refine r_goto (tgt := 29) F (by decide) dX9_unit_24 ?_
        obtain rfl := Option.some.inj h
        exact r_iret F dX9_unit_29
    · replace h := ite_p h hc
      refine r_iconst F rfl dX9_unit_13 ?_
      refine r_goto (tgt := 29) F (by decide) dX9_unit_14 ?_
      obtain rfl := Option.some.inj h
      exact r_iret F dX9_unit_29
  · replace h := ite_p h hc
    refine r_iconst F rfl dX9_unit_4 ?_
    refine r_goto (tgt := 29) F (by decide) dX9_unit_5 ?_
    obtain rfl := Option.some.inj h
    exact r_iret F dX9_unit_29
theorem tX9_valueIn {l0 l1 : Int} {M : Mem} {q : Int × Mem} (h : mX9_valueIn l0 l1 M = some q) : Ct 1 0 0 yX9_valueIn cX9_valueIn 2 (some FieldType.int) [vI l0, vI l1] M (some (vI q.1)) q.2 := by
  unfold mX9_valueIn at h
  refine Ct.of (by decide) (Nat.le_of_ble_eq_true rfl) ?_
  intro E p l e s m args below meth c F
  refine r_sub [0, 1] (ls' := [(0, vI l0), (1, vI l1)]) rfl ?_
  refine r_iload_n (j := 0) F rfl rfl dX9_valueIn_0 ?_
  refine r_iload_n (j := 1) F rfl rfl dX9_valueIn_1 ?_
  replace h := bind_so h
  obtain ⟨q2, h2, h⟩ := h
  refine r_callS (as := [vI l1]) (rv := (some (vI q2.1))) (kc := 0) (nc := 0) (tX9_unit h2) F tw_1747 tw_1748 tw_1749 tw_122 ⟨by decide, by decide, show (parseMethodDescriptor yX9_unit.desc).map (fun d => d.parameters.length) = some 1 by decide +kernel⟩ ⟨by decide, by decide⟩ (Nat.le_of_ble_eq_true rfl) dX9_valueIn_2 ?_
  replace h := bind_so h
  obtain ⟨a5, h5, h⟩ := h
  refine r_idivq F h5 dX9_valueIn_5 ?_
  refine r_iconst F rfl dX9_valueIn_6 ?_
  replace h := bind_so h
  obtain ⟨a7, h7, h⟩ := h
  refine r_iremq F h7 dX9_valueIn_7 ?_
  obtain rfl := Option.some.inj h
  exact r_iret F dX9_valueIn_8
theorem tX9_findJoined_95 {E : En} {p : Program} {l : Launch} {e : Env} {s : State} {m : MethodId} {args : Array Value} {below : List Frame} {meth : Method} {c : Code} {q : Int × Mem} {k33 : Int → Int → Mem → Option (Int × Mem)} {k40 : Int → Int → Int → Mem → Option (Int × Mem)} (hk33 : ∀ {l0 l2 : Int} {M : Mem}, k33 l0 l2 M = some q → G E p l e (rmOf 3 0 0) s m args below meth c 4 (QZ E below args s (rmOf 3 0 0) none q.2) 0 0 M 33 [(0, vR l0), (2, vI l2)] []) (hk40 : ∀ {l0 l2 l3 : Int} {M : Mem}, k40 l0 l2 l3 M = some q → G E p l e (rmOf 3 0 0) s m args below meth c 4 (QZ E below args s (rmOf 3 0 0) none q.2) 0 0 M 40 [(0, vR l0), (2, vI l2), (3, vI l3)] []) {l0 l2 l3 s0 s1 s2 : Int} {M : Mem} (F : Fx E p s m args meth c cX9_findJoined 4 yX9_findJoined.cls none yX9_findJoined.name) (h : mX9_findJoined_95 k33 k40 l0 l2 l3 s0 s1 s2 M = some q) : G E p l e (rmOf 3 0 0) s m args below meth c 4 (QZ E below args s (rmOf 3 0 0) none q.2) 0 0 M 95 [(0, vR l0), (2, vI l2), (3, vI l3)] [vI s2, vI s1, vR s0] := by
  unfold mX9_findJoined_95 at h
  replace h := bind_so h
  obtain ⟨M95, h95, h⟩ := h
  refine r_zast F h95 dX9_findJoined_95 ?_
  refine r_iinc (j := 2) (ls' := [(3, vI (wI (l3 + 1))), (0, vR l0), (2, vI l2)]) F rfl (by decide) rfl dX9_findJoined_96 ?_
  refine r_goto (tgt := 40) F (by decide) dX9_findJoined_99 ?_
  refine r_sub [1, 2, 0] (ls' := [(0, vR l0), (2, vI l2), (3, vI (wI (l3 + 1)))]) rfl ?_
  exact hk40 h
theorem tX9_findJoined_94 {E : En} {p : Program} {l : Launch} {e : Env} {s : State} {m : MethodId} {args : Array Value} {below : List Frame} {meth : Method} {c : Code} {q : Int × Mem} {k33 : Int → Int → Mem → Option (Int × Mem)} {k40 : Int → Int → Int → Mem → Option (Int × Mem)} (hk33 : ∀ {l0 l2 : Int} {M : Mem}, k33 l0 l2 M = some q → G E p l e (rmOf 3 0 0) s m args below meth c 4 (QZ E below args s (rmOf 3 0 0) none q.2) 0 0 M 33 [(0, vR l0), (2, vI l2)] []) (hk40 : ∀ {l0 l2 l3 : Int} {M : Mem}, k40 l0 l2 l3 M = some q → G E p l e (rmOf 3 0 0) s m args below meth c 4 (QZ E below args s (rmOf 3 0 0) none q.2) 0 0 M 40 [(0, vR l0), (2, vI l2), (3, vI l3)] []) {l0 l2 l3 s0 s1 : Int} {M : Mem} (F : Fx E p s m args meth c cX9_findJoined 4 yX9_findJoined.cls none yX9_findJoined.name) (h : mX9_findJoined_94 k33 k40 l0 l2 l3 s0 s1 M = some q) : G E p l e (rmOf 3 0 0) s m args below meth c 4 (QZ E below args s (rmOf 3 0 0) none q.2) 0 0 M 94 [(0, vR l0), (2, vI l2), (3, vI l3)] [vI s1, vR s0] := by
  unfold mX9_findJoined_94 at h
  refine r_iconst F rfl dX9_findJoined_94 ?_
  refine r_sub [0, 1, 2] (ls' := [(0, vR l0), (2, vI l2), (3, vI l3)]) rfl ?_
  exact tX9_findJoined_95 (fun h => hk33 h) (fun h => hk40 h) F h
theorem tX9_findJoined_90 {E : En} {p : Program} {l : Launch} {e : Env} {s : State} {m : MethodId} {args : Array Value} {below : List Frame} {meth : Method} {c : Code} {q : Int × Mem} {k33 : Int → Int → Mem → Option (Int × Mem)} {k40 : Int → Int → Int → Mem → Option (Int × Mem)} (hk33 : ∀ {l0 l2 : Int} {M : Mem}, k33 l0 l2 M = some q → G E p l e (rmOf 3 0 0) s m args below meth c 4 (QZ E below args s (rmOf 3 0 0) none q.2) 0 0 M 33 [(0, vR l0), (2, vI l2)] []) (hk40 : ∀ {l0 l2 l3 : Int} {M : Mem}, k40 l0 l2 l3 M = some q → G E p l e (rmOf 3 0 0) s m args below meth c 4 (QZ E below args s (rmOf 3 0 0) none q.2) 0 0 M 40 [(0, vR l0), (2, vI l2), (3, vI l3)] []) {l0 l2 l3 s0 s1 : Int} {M : Mem} (F : Fx E p s m args meth c cX9_findJoined 4 yX9_findJoined.cls none yX9_findJoined.name) (h : mX9_findJoined_90 k33 k40 l0 l2 l3 s0 s1 M = some q) : G E p l e (rmOf 3 0 0) s m args below meth c 4 (QZ E below args s (rmOf 3 0 0) none q.2) 0 0 M 90 [(0, vR l0), (2, vI l2), (3, vI l3)] [vI s1, vR s0] := by
  unfold mX9_findJoined_90 at h
  refine r_iconst F rfl dX9_findJoined_90 ?_
  refine r_goto (tgt := 95) F (by decide) dX9_findJoined_91 ?_
  refine r_sub [0, 1, 2] (ls' := [(0, vR l0), (2, vI l2), (3, vI l3)]) rfl ?_
  exact tX9_findJoined_95 (fun h => hk33 h) (fun h => hk40 h) F h
theorem tbX9_findJoined_40 {E : En} {p : Program} {l : Launch} {e : Env} {s : State} {m : MethodId} {args : Array Value} {below : List Frame} {meth : Method} {c : Code} {q : Int × Mem} {k33 : Int → Int → Mem → Option (Int × Mem)} (hk33 : ∀ {l0 l2 : Int} {M : Mem}, k33 l0 l2 M = some q → G E p l e (rmOf 3 0 0) s m args below meth c 4 (QZ E below args s (rmOf 3 0 0) none q.2) 0 0 M 33 [(0, vR l0), (2, vI l2)] []) {k40 : Int → Int → Int → Mem → Option (Int × Mem)} (hk40 : ∀ {l0 l2 l3 : Int} {M : Mem}, k40 l0 l2 l3 M = some q → G E p l e (rmOf 3 0 0) s m args below meth c 4 (QZ E below args s (rmOf 3 0 0) none q.2) 0 0 M 40 [(0, vR l0), (2, vI l2), (3, vI l3)] []) {l0 l2 l3 : Int} {M : Mem} (F : Fx E p s m args meth c cX9_findJoined 4 yX9_findJoined.cls none yX9_findJoined.name) (h : bX9_findJoined_40 k33 k40 l0 l2 l3 M = some q) : G E p l e (rmOf 3 0 0) s m args below meth c 4 (QZ E below args s (rmOf 3 0 0) none q.2) 0 0 M 40 [(0, vR l0), (2, vI l2), (3, vI l3)] [] := by
  unfold bX9_findJoined_40 at h
  refine r_iload_n (j := 2) F rfl rfl dX9_findJoined_40 ?_
  refine r_bipush F rfl (by decide) dX9_findJoined_41 ?_
  refine r_icmp_ge (tgt := 102) F (by decide) dX9_findJoined_43 (fun hc => ?_) (fun hc => ?_)
  · replace h := ite_p h hc
    refine r_iinc (j := 1) (ls' := [(2, vI (wI (l2 + 1))), (0, vR l0), (3, vI l3)]) F rfl (by decide) rfl dX9_findJoined_102 ?_
    refine r_goto (tgt := 33) F (by decide) dX9_findJoined_105 ?_
    refine r_sub [1, 0] (ls' := [(0, vR l0), (2, vI (wI (l2 + 1)))]) rfl ?_
    exact hk33 h
  · replace h := ite_n h hc
    refine r_aload_n (j := 0) F rfl rfl dX9_findJoined_46 ?_
    replace h := bind_so h
    obtain ⟨a47, h47, h⟩ := h
    refine r_getT (t := 2) rfl clok_9 F (by decide) h47 tw_1344 dX9_findJoined_47 ?_
    refine r_iload_n (j := 2) F rfl rfl dX9_findJoined_50 ?_
    refine r_aload_n (j := 0) F rfl rfl dX9_findJoined_51 ?_
    replace h := bind_so h
    obtain ⟨a52, h52, h⟩ := h
    refine r_getT (t := 2) rfl clok_9 F (by decide) h52 tw_1344 dX9_findJoined_52 ?_
    refine r_iload_n (j := 2) F rfl rfl dX9_findJoined_55 ?_
    replace h := bind_so h
    obtain ⟨a56, h56, h⟩ := h
    refine r_zald F h56 dX9_findJoined_56 ?_
    refine r_if_ne (tgt := 90) F (by decide) dX9_findJoined_57 (fun hc => ?_) (fun hc => ?_)
    · replace h := ite_n h hc
      refine r_sub [0, 1, 2] (ls' := [(0, vR l0), (2, vI l2), (3, vI l3)]) rfl ?_
      exact tX9_findJoined_90 (fun h => hk33 h) (fun h => hk40 h) F h
    · replace h := ite_p h hc
      refine r_aload_n (j := 0) F rfl rfl dX9_findJoined_60 ?_
      replace h := bind_so h
      obtain ⟨a61, h61, h⟩ := h
      refine r_getT (t := 2) rfl clok_9 F (by decide) h61 tw_1344 dX9_findJoined_61 ?_
      refine r_iload_n (j := 2) F rfl rfl dX9_findJoined_64 ?_
      refine r_iload_n (j := 2) F rfl rfl dX9_findJoined_65 ?_
      refine r_iconst F rfl dX9_findJoined_66 ?_
      replace h := bind_so h
      obtain ⟨a67, h67, h⟩ := h
      refine r_iremq F h67 dX9_findJoined_67 ?_
      refine r_isub F dX9_findJoined_68 ?_
      refine r_iload_n (j := 1) F rfl rfl dX9_findJoined_69 ?_
      refine r_iadd F dX9_findJoined_70 ?_
      replace h := bind_so h
      obtain ⟨a71, h71, h⟩ := h
      refine r_zald F h71 dX9_findJoined_71 ?_
      refine r_if_eq (tgt := 94) F (by decide) dX9_findJoined_72 (fun hc => ?_) (fun hc => ?_)
      · replace h := ite_p h hc
        refine r_sub [0, 1, 2] (ls' := [(0, vR l0), (2, vI l2), (3, vI l3)]) rfl ?_
        exact tX9_findJoined_94 (fun h => hk33 h) (fun h => hk40 h) F h
      · replace h := ite_n h hc
        refine r_aload_n (j := 0) F rfl rfl dX9_findJoined_75 ?_
        replace h := bind_so h
        obtain ⟨a76, h76, h⟩ := h
        refine r_getT (t := 2) rfl clok_9 F (by decide) h76 tw_1344 dX9_findJoined_76 ?_
        refine r_iconst F rfl dX9_findJoined_79 ?_
        refine r_iload_n (j := 1) F rfl rfl dX9_findJoined_80 ?_
        refine r_imul F dX9_findJoined_81 ?_
        refine r_iload_n (j := 2) F rfl rfl dX9_findJoined_82 ?_
        refine r_iconst F rfl dX9_findJoined_83 ?_
        replace h := bind_so h
        obtain ⟨a84, h84, h⟩ := h
        refine r_iremq F h84 dX9_findJoined_84 ?_
        refine r_iadd F dX9_findJoined_85 ?_
        replace h := bind_so h
        obtain ⟨a86, h86, h⟩ := h
        refine r_zald F h86 dX9_findJoined_86 ?_
        refine r_if_eq (tgt := 94) F (by decide) dX9_findJoined_87 (fun hc => ?_) (fun hc => ?_)
        · replace h := ite_p h hc
          refine r_sub [0, 1, 2] (ls' := [(0, vR l0), (2, vI l2), (3, vI l3)]) rfl ?_
          exact tX9_findJoined_94 (fun h => hk33 h) (fun h => hk40 h) F h
        · replace h := ite_n h hc
          refine r_sub [0, 1, 2] (ls' := [(0, vR l0), (2, vI l2), (3, vI l3)]) rfl ?_
          exact tX9_findJoined_90 (fun h => hk33 h) (fun h => hk40 h) F h
theorem tX9_findJoined_40 {E : En} {p : Program} {l : Launch} {e : Env} {s : State} {m : MethodId} {args : Array Value} {below : List Frame} {meth : Method} {c : Code} {q : Int × Mem} {k33 : Int → Int → Mem → Option (Int × Mem)} (hk33 : ∀ {l0 l2 : Int} {M : Mem}, k33 l0 l2 M = some q → G E p l e (rmOf 3 0 0) s m args below meth c 4 (QZ E below args s (rmOf 3 0 0) none q.2) 0 0 M 33 [(0, vR l0), (2, vI l2)] []) (F : Fx E p s m args meth c cX9_findJoined 4 yX9_findJoined.cls none yX9_findJoined.name) : ∀ {fu : Nat} {l0 l2 l3 : Int} {M : Mem}, mX9_findJoined_40 k33 fu l0 l2 l3 M = some q → G E p l e (rmOf 3 0 0) s m args below meth c 4 (QZ E below args s (rmOf 3 0 0) none q.2) 0 0 M 40 [(0, vR l0), (2, vI l2), (3, vI l3)] [] := by
  intro fu
  induction fu with
  | zero => intro l0 l2 l3 M h; exact nomatch (show (none : Option (Int × Mem)) = some q from h)
  | succ fu ih => intro l0 l2 l3 M h; exact tbX9_findJoined_40 (fun h => hk33 h) (fun h => ih h) F h
theorem tbX9_findJoined_33 {E : En} {p : Program} {l : Launch} {e : Env} {s : State} {m : MethodId} {args : Array Value} {below : List Frame} {meth : Method} {c : Code} {q : Int × Mem} {k33 : Int → Int → Mem → Option (Int × Mem)} (hk33 : ∀ {l0 l2 : Int} {M : Mem}, k33 l0 l2 M = some q → G E p l e (rmOf 3 0 0) s m args below meth c 4 (QZ E below args s (rmOf 3 0 0) none q.2) 0 0 M 33 [(0, vR l0), (2, vI l2)] []) {l0 l2 : Int} {M : Mem} (F : Fx E p s m args meth c cX9_findJoined 4 yX9_findJoined.cls none yX9_findJoined.name) (h : bX9_findJoined_33 k33 l0 l2 M = some q) : G E p l e (rmOf 3 0 0) s m args below meth c 4 (QZ E below args s (rmOf 3 0 0) none q.2) 0 0 M 33 [(0, vR l0), (2, vI l2)] [] := by
  unfold bX9_findJoined_33 at h
  refine r_iload_n (j := 1) F rfl rfl dX9_findJoined_33 ?_
  refine r_iconst F rfl dX9_findJoined_34 ?_
  refine r_icmp_ge (tgt := 108) F (by decide) dX9_findJoined_35 (fun hc => ?_) (fun hc => ?_)
  · replace h := ite_p h hc
    obtain rfl := Option.some.inj h
    exact r_vret F dX9_findJoined_108
  · replace h := ite_n h hc
    refine r_iconst F rfl dX9_findJoined_38 ?_
    refine r_istore_n (ls' := [(3, vI 0), (0, vR l0), (2, vI l2)]) F rfl (by decide) rfl dX9_findJoined_39 ?_
    refine r_sub [1, 2, 0] (ls' := [(0, vR l0), (2, vI l2), (3, vI 0)]) rfl ?_
    exact tX9_findJoined_40 (fun h => hk33 h) F h
theorem tX9_findJoined_33 {E : En} {p : Program} {l : Launch} {e : Env} {s : State} {m : MethodId} {args : Array Value} {below : List Frame} {meth : Method} {c : Code} {q : Int × Mem} (F : Fx E p s m args meth c cX9_findJoined 4 yX9_findJoined.cls none yX9_findJoined.name) : ∀ {fu : Nat} {l0 l2 : Int} {M : Mem}, mX9_findJoined_33 fu l0 l2 M = some q → G E p l e (rmOf 3 0 0) s m args below meth c 4 (QZ E below args s (rmOf 3 0 0) none q.2) 0 0 M 33 [(0, vR l0), (2, vI l2)] [] := by
  intro fu
  induction fu with
  | zero => intro l0 l2 M h; exact nomatch (show (none : Option (Int × Mem)) = some q from h)
  | succ fu ih => intro l0 l2 M h; exact tbX9_findJoined_33  (fun h => ih h) F h
theorem tbX9_findJoined_2 {E : En} {p : Program} {l : Launch} {e : Env} {s : State} {m : MethodId} {args : Array Value} {below : List Frame} {meth : Method} {c : Code} {q : Int × Mem} {k2 : Int → Int → Int → Mem → Option (Int × Mem)} (hk2 : ∀ {l0 l1 l2 : Int} {M : Mem}, k2 l0 l1 l2 M = some q → G E p l e (rmOf 3 0 0) s m args below meth c 4 (QZ E below args s (rmOf 3 0 0) none q.2) 0 0 M 2 [(0, vR l0), (1, vI l1), (2, vI l2)] []) {l0 l1 l2 : Int} {M : Mem} (F : Fx E p s m args meth c cX9_findJoined 4 yX9_findJoined.cls none yX9_findJoined.name) (h : bX9_findJoined_2 k2 l0 l1 l2 M = some q) : G E p l e (rmOf 3 0 0) s m args below meth c 4 (QZ E below args s (rmOf 3 0 0) none q.2) 0 0 M 2 [(0, vR l0), (1, vI l1), (2, vI l2)] [] := by
  unfold bX9_findJoined_2 at h
  refine r_iload_n (j := 2) F rfl rfl dX9_findJoined_2 ?_
  refine r_bipush F rfl (by decide) dX9_findJoined_3 ?_
  refine r_icmp_ge (tgt := 31) F (by decide) dX9_findJoined_5 (fun hc => ?_) (fun hc => ?_)
  · replace h := ite_p h hc
    refine r_iconst F rfl dX9_findJoined_31 ?_
    refine r_istore_n (ls' := [(2, vI 0), (0, vR l0), (1, vI l1)]) F rfl (by decide) rfl dX9_findJoined_32 ?_
    refine r_sub [1, 0] (ls' := [(0, vR l0), (2, vI 0)]) rfl ?_
    exact tX9_findJoined_33 F h
  · replace h := ite_n h hc
    refine r_aload_n (j := 0) F rfl rfl dX9_findJoined_8 ?_
    replace h := bind_so h
    obtain ⟨a9, h9, h⟩ := h
    refine r_getT (t := 2) rfl clok_9 F (by decide) h9 tw_1344 dX9_findJoined_9 ?_
    refine r_iload_n (j := 2) F rfl rfl dX9_findJoined_12 ?_
    refine r_aload_n (j := 0) F rfl rfl dX9_findJoined_13 ?_
    refine r_iload_n (j := 1) F rfl rfl dX9_findJoined_14 ?_
    refine r_iload_n (j := 2) F rfl rfl dX9_findJoined_15 ?_
    refine r_iconst F rfl dX9_findJoined_16 ?_
    replace h := bind_so h
    obtain ⟨a17, h17, h⟩ := h
    refine r_idivq F h17 dX9_findJoined_17 ?_
    refine r_iload_n (j := 2) F rfl rfl dX9_findJoined_18 ?_
    refine r_iconst F rfl dX9_findJoined_19 ?_
    replace h := bind_so h
    obtain ⟨a20, h20, h⟩ := h
    refine r_iremq F h20 dX9_findJoined_20 ?_
    replace h := bind_so h
    obtain ⟨_, g21, h⟩ := h
    replace h := bind_so h
    obtain ⟨q21, h21, h⟩ := h
    refine r_callV (as := [vI l1, vI a17, vI a20]) (rv := (some (vI q21.1))) (kc := 0) (nc := 0) (tX9_isSo h21) clok_9 F (gK_so g21) tw_1740 tw_1742 tw_91 tw_1743 tw_122 ⟨by decide, by decide, show (parseMethodDescriptor yX9_isSo.desc).map (fun d => d.parameters.length) = some 3 by decide +kernel⟩ ⟨by decide, by decide⟩ (Nat.le_of_ble_eq_true rfl) dX9_findJoined_21 ?_
    replace h := bind_so h
    obtain ⟨M24, h24, h⟩ := h
    refine r_zast F h24 dX9_findJoined_24 ?_
    refine r_iinc (j := 2) (ls' := [(2, vI (wI (l2 + 1))), (0, vR l0), (1, vI l1)]) F rfl (by decide) rfl dX9_findJoined_25 ?_
    refine r_goto (tgt := 2) F (by decide) dX9_findJoined_28 ?_
    refine r_sub [1, 2, 0] (ls' := [(0, vR l0), (1, vI l1), (2, vI (wI (l2 + 1)))]) rfl ?_
    exact hk2 h
theorem tX9_findJoined_2 {E : En} {p : Program} {l : Launch} {e : Env} {s : State} {m : MethodId} {args : Array Value} {below : List Frame} {meth : Method} {c : Code} {q : Int × Mem} (F : Fx E p s m args meth c cX9_findJoined 4 yX9_findJoined.cls none yX9_findJoined.name) : ∀ {fu : Nat} {l0 l1 l2 : Int} {M : Mem}, mX9_findJoined_2 fu l0 l1 l2 M = some q → G E p l e (rmOf 3 0 0) s m args below meth c 4 (QZ E below args s (rmOf 3 0 0) none q.2) 0 0 M 2 [(0, vR l0), (1, vI l1), (2, vI l2)] [] := by
  intro fu
  induction fu with
  | zero => intro l0 l1 l2 M h; exact nomatch (show (none : Option (Int × Mem)) = some q from h)
  | succ fu ih => intro l0 l1 l2 M h; exact tbX9_findJoined_2  (fun h => ih h) F h
theorem tX9_findJoined {l0 l1 : Int} {M : Mem} {q : Int × Mem} (h : mX9_findJoined l0 l1 M = some q) : Ct 3 0 0 yX9_findJoined cX9_findJoined 4 none [vR l0, vI l1] M none q.2 := by
  unfold mX9_findJoined at h
  refine Ct.of (by decide) (Nat.le_of_ble_eq_true rfl) ?_
  intro E p l e s m args below meth c F
  refine r_sub [0, 1] (ls' := [(0, vR l0), (1, vI l1)]) rfl ?_
  refine r_iconst F rfl dX9_findJoined_0 ?_
  refine r_istore_n (ls' := [(2, vI 0), (0, vR l0), (1, vI l1)]) F rfl (by decide) rfl dX9_findJoined_1 ?_
  refine r_sub [1, 2, 0] (ls' := [(0, vR l0), (1, vI l1), (2, vI 0)]) rfl ?_
  exact tX9_findJoined_2 F h
theorem tX9_isTree_79 {E : En} {p : Program} {l : Launch} {e : Env} {s : State} {m : MethodId} {args : Array Value} {below : List Frame} {meth : Method} {c : Code} {q : Int × Mem} {k9 : Int → Int → Int → Int → Mem → Option (Int × Mem)} (hk9 : ∀ {l0 l1 l2 l3 : Int} {M : Mem}, k9 l0 l1 l2 l3 M = some q → G E p l e (rmOf 4 0 0) s m args below meth c 6 (QZ E below args s (rmOf 4 0 0) (some (vI q.1)) q.2) 0 0 M 9 [(0, vR l0), (1, vI l1), (2, vI l2), (3, vI l3)] []) {l0 l1 l3 s0 : Int} {M : Mem} (F : Fx E p s m args meth c cX9_isTree 6 yX9_isTree.cls (some FieldType.boolean) yX9_isTree.name) (h : mX9_isTree_79 k9 l0 l1 l3 s0 M = some q) : G E p l e (rmOf 4 0 0) s m args below meth c 6 (QZ E below args s (rmOf 4 0 0) (some (vI q.1)) q.2) 0 0 M 79 [(0, vR l0), (1, vI l1), (3, vI l3)] [vI s0] := by
  unfold mX9_isTree_79 at h
  refine r_istore_n (ls' := [(2, vI s0), (0, vR l0), (1, vI l1), (3, vI l3)]) F rfl (by decide) rfl dX9_isTree_79 ?_
  refine r_iinc (j := 3) (ls' := [(3, vI (wI (l3 + 1))), (2, vI s0), (0, vR l0), (1, vI l1)]) F rfl (by decide) rfl dX9_isTree_80 ?_
  refine r_goto (tgt := 9) F (by decide) dX9_isTree_83 ?_
  refine r_sub [2, 3, 1, 0] (ls' := [(0, vR l0), (1, vI l1), (2, vI s0), (3, vI (wI (l3 + 1)))]) rfl ?_
  exact hk9 h
theorem tX9_isTree_78 {E : En} {p : Program} {l : Launch} {e : Env} {s : State} {m : MethodId} {args : Array Value} {below : List Frame} {meth : Method} {c : Code} {q : Int × Mem} {k9 : Int → Int → Int → Int → Mem → Option (Int × Mem)} (hk9 : ∀ {l0 l1 l2 l3 : Int} {M : Mem}, k9 l0 l1 l2 l3 M = some q → G E p l e (rmOf 4 0 0) s m args below meth c 6 (QZ E below args s (rmOf 4 0 0) (some (vI q.1)) q.2) 0 0 M 9 [(0, vR l0), (1, vI l1), (2, vI l2), (3, vI l3)] []) {l0 l1 l3 : Int} {M : Mem} (F : Fx E p s m args meth c cX9_isTree 6 yX9_isTree.cls (some FieldType.boolean) yX9_isTree.name) (h : mX9_isTree_78 k9 l0 l1 l3 M = some q) : G E p l e (rmOf 4 0 0) s m args below meth c 6 (QZ E below args s (rmOf 4 0 0) (some (vI q.1)) q.2) 0 0 M 78 [(0, vR l0), (1, vI l1), (3, vI l3)] [] := by
  unfold mX9_isTree_78 at h
  refine r_iconst F rfl dX9_isTree_78 ?_
  refine r_sub [0, 1, 2] (ls' := [(0, vR l0), (1, vI l1), (3, vI l3)]) rfl ?_
  exact tX9_isTree_79 (fun h => hk9 h) F h
theorem tX9_isTree_44 {E : En} {p : Program} {l : Launch} {e : Env} {s : State} {m : MethodId} {args : Array Value} {below : List Frame} {meth : Method} {c : Code} {q : Int × Mem} {k9 : Int → Int → Int → Int → Mem → Option (Int × Mem)} {k20 : Int → Int → Int → Int → Int → Int → Mem → Option (Int × Mem)} (hk9 : ∀ {l0 l1 l2 l3 : Int} {M : Mem}, k9 l0 l1 l2 l3 M = some q → G E p l e (rmOf 4 0 0) s m args below meth c 6 (QZ E below args s (rmOf 4 0 0) (some (vI q.1)) q.2) 0 0 M 9 [(0, vR l0), (1, vI l1), (2, vI l2), (3, vI l3)] []) (hk20 : ∀ {l0 l1 l2 l3 l4 l5 : Int} {M : Mem}, k20 l0 l1 l2 l3 l4 l5 M = some q → G E p l e (rmOf 4 0 0) s m args below meth c 6 (QZ E below args s (rmOf 4 0 0) (some (vI q.1)) q.2) 0 0 M 20 [(0, vR l0), (1, vI l1), (2, vI l2), (3, vI l3), (4, vI l4), (5, vI l5)] []) {l0 l1 l2 l3 l5 s0 s1 : Int} {M : Mem} (F : Fx E p s m args meth c cX9_isTree 6 yX9_isTree.cls (some FieldType.boolean) yX9_isTree.name) (h : mX9_isTree_44 k9 k20 l0 l1 l2 l3 l5 s0 s1 M = some q) : G E p l e (rmOf 4 0 0) s m args below meth c 6 (QZ E below args s (rmOf 4 0 0) (some (vI q.1)) q.2) 0 0 M 44 [(0, vR l0), (1, vI l1), (2, vI l2), (3, vI l3), (5, vI l5)] [vI s1, vI s0] := by
  unfold mX9_isTree_44 at h
  refine r_iadd F dX9_isTree_44 ?_
  refine r_istore (ls' := [(4, vI (wI (s0 + s1))), (0, vR l0), (1, vI l1), (2, vI l2), (3, vI l3), (5, vI l5)]) F (by decide) rfl dX9_isTree_45 ?_
  refine r_iinc (j := 5) (ls' := [(5, vI (wI (l5 + 1))), (4, vI (wI (s0 + s1))), (0, vR l0), (1, vI l1), (2, vI l2), (3, vI l3)]) F rfl (by decide) rfl dX9_isTree_47 ?_
  refine r_goto (tgt := 20) F (by decide) dX9_isTree_50 ?_
  refine r_sub [2, 3, 4, 5, 1, 0] (ls' := [(0, vR l0), (1, vI l1), (2, vI l2), (3, vI l3), (4, vI (wI (s0 + s1))), (5, vI (wI (l5 + 1)))]) rfl ?_
  exact hk20 h
theorem tbX9_isTree_20 {E : En} {p : Program} {l : Launch} {e : Env} {s : State} {m : MethodId} {args : Array Value} {below : List Frame} {meth : Method} {c : Code} {q : Int × Mem} {k9 : Int → Int → Int → Int → Mem → Option (Int × Mem)} (hk9 : ∀ {l0 l1 l2 l3 : Int} {M : Mem}, k9 l0 l1 l2 l3 M = some q → G E p l e (rmOf 4 0 0) s m args below meth c 6 (QZ E below args s (rmOf 4 0 0) (some (vI q.1)) q.2) 0 0 M 9 [(0, vR l0), (1, vI l1), (2, vI l2), (3, vI l3)] []) {k20 : Int → Int → Int → Int → Int → Int → Mem → Option (Int × Mem)} (hk20 : ∀ {l0 l1 l2 l3 l4 l5 : Int} {M : Mem}, k20 l0 l1 l2 l3 l4 l5 M = some q → G E p l e (rmOf 4 0 0) s m args below meth c 6 (QZ E below args s (rmOf 4 0 0) (some (vI q.1)) q.2) 0 0 M 20 [(0, vR l0), (1, vI l1), (2, vI l2), (3, vI l3), (4, vI l4), (5, vI l5)] []) {l0 l1 l2 l3 l4 l5 : Int} {M : Mem} (F : Fx E p s m args meth c cX9_isTree 6 yX9_isTree.cls (some FieldType.boolean) yX9_isTree.name) (h : bX9_isTree_20 k9 k20 l0 l1 l2 l3 l4 l5 M = some q) : G E p l e (rmOf 4 0 0) s m args below meth c 6 (QZ E below args s (rmOf 4 0 0) (some (vI q.1)) q.2) 0 0 M 20 [(0, vR l0), (1, vI l1), (2, vI l2), (3, vI l3), (4, vI l4), (5, vI l5)] [] := by
  unfold bX9_isTree_20 at h
  refine r_iload (j := 5) F rfl dX9_isTree_20 ?_
  refine r_iconst F rfl dX9_isTree_22 ?_
  refine r_icmp_ge (tgt := 53) F (by decide) dX9_isTree_23 (fun hc => ?_) (fun hc => ?_)
  · replace h := ite_p h hc
    refine r_iload_n (j := 2) F rfl rfl dX9_isTree_53 ?_
    refine r_if_eq (tgt := 78) F (by decide) dX9_isTree_54 (fun hc => ?_) (fun hc => ?_)
    · replace h := ite_p h hc
      refine r_sub [0, 1, 3] (ls' := [(0, vR l0), (1, vI l1), (3, vI l3)]) rfl ?_
      exact tX9_isTree_78 (fun h => hk9 h) F h
    · replace h := ite_n h hc
      refine r_iload (j := 4) F rfl dX9_isTree_57 ?_
      refine r_iconst F rfl dX9_isTree_59 ?_
      refine r_icmp_gt (tgt := 78) F (by decide) dX9_isTree_60 (fun hc => ?_) (fun hc => ?_)
      · replace h := ite_p h hc
        refine r_sub [0, 1, 3] (ls' := [(0, vR l0), (1, vI l1), (3, vI l3)]) rfl ?_
        exact tX9_isTree_78 (fun h => hk9 h) F h
      · replace h := ite_n h hc
        refine r_aload_n (j := 0) F rfl rfl dX9_isTree_63 ?_
        replace h := bind_so h
        obtain ⟨a64, h64, h⟩ := h
        refine r_getT (t := 2) rfl clok_9 F (by decide) h64 tw_1344 dX9_isTree_64 ?_
        refine r_iconst F rfl dX9_isTree_67 ?_
        refine r_iload_n (j := 3) F rfl rfl dX9_isTree_68 ?_
        refine r_imul F dX9_isTree_69 ?_
        replace h := bind_so h
        obtain ⟨a70, h70, h⟩ := h
        refine r_zald F h70 dX9_isTree_70 ?_
        refine r_if_ne (tgt := 78) F (by decide) dX9_isTree_71 (fun hc => ?_) (fun hc => ?_)
        · replace h := ite_n h hc
          refine r_sub [0, 1, 3] (ls' := [(0, vR l0), (1, vI l1), (3, vI l3)]) rfl ?_
          exact tX9_isTree_78 (fun h => hk9 h) F h
        · replace h := ite_p h hc
          refine r_iconst F rfl dX9_isTree_74 ?_
          refine r_goto (tgt := 79) F (by decide) dX9_isTree_75 ?_
          refine r_sub [0, 1, 3] (ls' := [(0, vR l0), (1, vI l1), (3, vI l3)]) rfl ?_
          exact tX9_isTree_79 (fun h => hk9 h) F h
  · replace h := ite_n h hc
    refine r_iload (j := 4) F rfl dX9_isTree_26 ?_
    refine r_aload_n (j := 0) F rfl rfl dX9_isTree_28 ?_
    refine r_iload_n (j := 1) F rfl rfl dX9_isTree_29 ?_
    refine r_iload_n (j := 3) F rfl rfl dX9_isTree_30 ?_
    refine r_iload (j := 5) F rfl dX9_isTree_31 ?_
    replace h := bind_so h
    obtain ⟨_, g33, h⟩ := h
    replace h := bind_so h
    obtain ⟨q33, h33, h⟩ := h
    refine r_callV (as := [vI l1, vI l3, vI l5]) (rv := (some (vI q33.1))) (kc := 0) (nc := 0) (tX9_isSo h33) clok_9 F (gK_so g33) tw_1740 tw_1742 tw_91 tw_1743 tw_122 ⟨by decide, by decide, show (parseMethodDescriptor yX9_isSo.desc).map (fun d => d.parameters.length) = some 3 by decide +kernel⟩ ⟨by decide, by decide⟩ (Nat.le_of_ble_eq_true rfl) dX9_isTree_33 ?_
    refine r_if_eq (tgt := 43) F (by decide) dX9_isTree_36 (fun hc => ?_) (fun hc => ?_)
    · replace h := ite_p h hc
      refine r_iconst F rfl dX9_isTree_43 ?_
      refine r_sub [0, 1, 2, 3, 5] (ls' := [(0, vR l0), (1, vI l1), (2, vI l2), (3, vI l3), (5, vI l5)]) rfl ?_
      exact tX9_isTree_44 (fun h => hk9 h) (fun h => hk20 h) F h
    · replace h := ite_n h hc
      refine r_iconst F rfl dX9_isTree_39 ?_
      refine r_goto (tgt := 44) F (by decide) dX9_isTree_40 ?_
      refine r_sub [0, 1, 2, 3, 5] (ls' := [(0, vR l0), (1, vI l1), (2, vI l2), (3, vI l3), (5, vI l5)]) rfl ?_
      exact tX9_isTree_44 (fun h => hk9 h) (fun h => hk20 h) F h
theorem tX9_isTree_20 {E : En} {p : Program} {l : Launch} {e : Env} {s : State} {m : MethodId} {args : Array Value} {below : List Frame} {meth : Method} {c : Code} {q : Int × Mem} {k9 : Int → Int → Int → Int → Mem → Option (Int × Mem)} (hk9 : ∀ {l0 l1 l2 l3 : Int} {M : Mem}, k9 l0 l1 l2 l3 M = some q → G E p l e (rmOf 4 0 0) s m args below meth c 6 (QZ E below args s (rmOf 4 0 0) (some (vI q.1)) q.2) 0 0 M 9 [(0, vR l0), (1, vI l1), (2, vI l2), (3, vI l3)] []) (F : Fx E p s m args meth c cX9_isTree 6 yX9_isTree.cls (some FieldType.boolean) yX9_isTree.name) : ∀ {fu : Nat} {l0 l1 l2 l3 l4 l5 : Int} {M : Mem}, mX9_isTree_20 k9 fu l0 l1 l2 l3 l4 l5 M = some q → G E p l e (rmOf 4 0 0) s m args below meth c 6 (QZ E below args s (rmOf 4 0 0) (some (vI q.1)) q.2) 0 0 M 20 [(0, vR l0), (1, vI l1), (2, vI l2), (3, vI l3), (4, vI l4), (5, vI l5)] [] := by
  intro fu
  induction fu with
  | zero => intro l0 l1 l2 l3 l4 l5 M h; exact nomatch (show (none : Option (Int × Mem)) = some q from h)
  | succ fu ih => intro l0 l1 l2 l3 l4 l5 M h; exact tbX9_isTree_20 (fun h => hk9 h) (fun h => ih h) F h
theorem tbX9_isTree_9 {E : En} {p : Program} {l : Launch} {e : Env} {s : State} {m : MethodId} {args : Array Value} {below : List Frame} {meth : Method} {c : Code} {q : Int × Mem} {k9 : Int → Int → Int → Int → Mem → Option (Int × Mem)} (hk9 : ∀ {l0 l1 l2 l3 : Int} {M : Mem}, k9 l0 l1 l2 l3 M = some q → G E p l e (rmOf 4 0 0) s m args below meth c 6 (QZ E below args s (rmOf 4 0 0) (some (vI q.1)) q.2) 0 0 M 9 [(0, vR l0), (1, vI l1), (2, vI l2), (3, vI l3)] []) {l0 l1 l2 l3 : Int} {M : Mem} (F : Fx E p s m args meth c cX9_isTree 6 yX9_isTree.cls (some FieldType.boolean) yX9_isTree.name) (h : bX9_isTree_9 k9 l0 l1 l2 l3 M = some q) : G E p l e (rmOf 4 0 0) s m args below meth c 6 (QZ E below args s (rmOf 4 0 0) (some (vI q.1)) q.2) 0 0 M 9 [(0, vR l0), (1, vI l1), (2, vI l2), (3, vI l3)] [] := by
  unfold bX9_isTree_9 at h
  refine r_iload_n (j := 3) F rfl rfl dX9_isTree_9 ?_
  refine r_iconst F rfl dX9_isTree_10 ?_
  refine r_icmp_ge (tgt := 86) F (by decide) dX9_isTree_11 (fun hc => ?_) (fun hc => ?_)
  · replace h := ite_p h hc
    refine r_iload_n (j := 2) F rfl rfl dX9_isTree_86 ?_
    replace h := bind_so h
    obtain ⟨z, hz, h⟩ := h
    obtain ⟨hz1, rfl⟩ := ite_so hz
    obtain rfl := Option.some.inj h
    exact r_zret hz1 F dX9_isTree_87
  · replace h := ite_n h hc
    refine r_iconst F rfl dX9_isTree_14 ?_
    refine r_istore (ls' := [(4, vI 0), (0, vR l0), (1, vI l1), (2, vI l2), (3, vI l3)]) F (by decide) rfl dX9_isTree_15 ?_
    refine r_iconst F rfl dX9_isTree_17 ?_
    refine r_istore (ls' := [(5, vI 0), (4, vI 0), (0, vR l0), (1, vI l1), (2, vI l2), (3, vI l3)]) F (by decide) rfl dX9_isTree_18 ?_
    refine r_sub [2, 3, 4, 5, 1, 0] (ls' := [(0, vR l0), (1, vI l1), (2, vI l2), (3, vI l3), (4, vI 0), (5, vI 0)]) rfl ?_
    exact tX9_isTree_20 (fun h => hk9 h) F h
theorem tX9_isTree_9 {E : En} {p : Program} {l : Launch} {e : Env} {s : State} {m : MethodId} {args : Array Value} {below : List Frame} {meth : Method} {c : Code} {q : Int × Mem} (F : Fx E p s m args meth c cX9_isTree 6 yX9_isTree.cls (some FieldType.boolean) yX9_isTree.name) : ∀ {fu : Nat} {l0 l1 l2 l3 : Int} {M : Mem}, mX9_isTree_9 fu l0 l1 l2 l3 M = some q → G E p l e (rmOf 4 0 0) s m args below meth c 6 (QZ E below args s (rmOf 4 0 0) (some (vI q.1)) q.2) 0 0 M 9 [(0, vR l0), (1, vI l1), (2, vI l2), (3, vI l3)] [] := by
  intro fu
  induction fu with
  | zero => intro l0 l1 l2 l3 M h; exact nomatch (show (none : Option (Int × Mem)) = some q from h)
  | succ fu ih => intro l0 l1 l2 l3 M h; exact tbX9_isTree_9  (fun h => ih h) F h
theorem tX9_isTree {l0 l1 : Int} {M : Mem} {q : Int × Mem} (h : mX9_isTree l0 l1 M = some q) : Ct 4 0 0 yX9_isTree cX9_isTree 6 (some FieldType.boolean) [vR l0, vI l1] M (some (vI q.1)) q.2 := by
  unfold mX9_isTree at h
  refine Ct.of (by decide) (Nat.le_of_ble_eq_true rfl) ?_
  intro E p l e s m args below meth c F
  refine r_sub [0, 1] (ls' := [(0, vR l0), (1, vI l1)]) rfl ?_
  refine r_aload_n (j := 0) F rfl rfl dX9_isTree_0 ?_
  refine r_iload_n (j := 1) F rfl rfl dX9_isTree_1 ?_
  replace h := bind_so h
  obtain ⟨_, g2, h⟩ := h
  replace h := bind_so h
  obtain ⟨q2, h2, h⟩ := h
  refine r_callV (as := [vI l1]) (rv := none) (kc := 0) (nc := 0) (tX9_findJoined h2) clok_9 F (gK_so g2) tw_1736 tw_1738 tw_90 tw_1739 tw_122 ⟨by decide, by decide, show (parseMethodDescriptor yX9_findJoined.desc).map (fun d => d.parameters.length) = some 1 by decide +kernel⟩ ⟨by decide, by decide⟩ (Nat.le_of_ble_eq_true rfl) dX9_isTree_2 ?_
  refine r_iconst F rfl dX9_isTree_5 ?_
  refine r_istore_n (ls' := [(2, vI 1), (0, vR l0), (1, vI l1)]) F rfl (by decide) rfl dX9_isTree_6 ?_
  refine r_iconst F rfl dX9_isTree_7 ?_
  refine r_istore_n (ls' := [(3, vI 0), (2, vI 1), (0, vR l0), (1, vI l1)]) F rfl (by decide) rfl dX9_isTree_8 ?_
  refine r_sub [2, 3, 1, 0] (ls' := [(0, vR l0), (1, vI l1), (2, vI 1), (3, vI 0)]) rfl ?_
  exact tX9_isTree_9 F h
theorem tX9_leaf_216 {E : En} {p : Program} {l : Launch} {e : Env} {s : State} {m : MethodId} {args : Array Value} {below : List Frame} {meth : Method} {c : Code} {q : Int × Mem} {k51 : Int → Int → Int → Int → Int → Mem → Option (Int × Mem)} (hk51 : ∀ {l0 l1 l2 l3 l4 : Int} {M : Mem}, k51 l0 l1 l2 l3 l4 M = some q → G E p l e (rmOf 5 0 0) s m args below meth c 6 (QZ E below args s (rmOf 5 0 0) none q.2) 0 0 M 51 [(0, vR l0), (1, vI l1), (2, vI l2), (3, vI l3), (4, vI l4)] []) {l0 l1 l2 l3 l4 l5 : Int} {M : Mem} (F : Fx E p s m args meth c cX9_leaf 6 yX9_leaf.cls none yX9_leaf.name) (h : mX9_leaf_216 k51 l0 l1 l2 l3 l4 l5 M = some q) : G E p l e (rmOf 5 0 0) s m args below meth c 6 (QZ E below args s (rmOf 5 0 0) none q.2) 0 0 M 216 [(0, vR l0), (1, vI l1), (2, vI l2), (3, vI l3), (4, vI l4), (5, vI l5)] [] := by
  unfold mX9_leaf_216 at h
  refine r_aload_n (j := 0) F rfl rfl dX9_leaf_216 ?_
  replace h := bind_so h
  obtain ⟨a217, h217, h⟩ := h
  refine r_getT (t := 2) rfl clok_9 F (by decide) h217 tw_1342 dX9_leaf_217 ?_
  refine r_bipush F rfl (by decide) dX9_leaf_220 ?_
  refine r_aload_n (j := 0) F rfl rfl dX9_leaf_222 ?_
  replace h := bind_so h
  obtain ⟨a223, h223, h⟩ := h
  refine r_getT (t := 0) rfl clok_9 F (by decide) h223 tw_1343 dX9_leaf_223 ?_
  refine r_imul F dX9_leaf_226 ?_
  refine r_iload (j := 4) F rfl dX9_leaf_227 ?_
  refine r_iadd F dX9_leaf_229 ?_
  refine r_iload (j := 5) F rfl dX9_leaf_230 ?_
  replace h := bind_so h
  obtain ⟨M232, h232, h⟩ := h
  refine r_zast F h232 dX9_leaf_232 ?_
  refine r_iinc (j := 4) (ls' := [(4, vI (wI (l4 + 1))), (0, vR l0), (1, vI l1), (2, vI l2), (3, vI l3), (5, vI l5)]) F rfl (by decide) rfl dX9_leaf_233 ?_
  refine r_goto (tgt := 51) F (by decide) dX9_leaf_236 ?_
  refine r_sub [1, 2, 3, 4, 0] (ls' := [(0, vR l0), (1, vI l1), (2, vI l2), (3, vI l3), (4, vI (wI (l4 + 1)))]) rfl ?_
  exact hk51 h
theorem tX9_leaf_97 {E : En} {p : Program} {l : Launch} {e : Env} {s : State} {m : MethodId} {args : Array Value} {below : List Frame} {meth : Method} {c : Code} {q : Int × Mem} {k51 : Int → Int → Int → Int → Int → Mem → Option (Int × Mem)} (hk51 : ∀ {l0 l1 l2 l3 l4 : Int} {M : Mem}, k51 l0 l1 l2 l3 l4 M = some q → G E p l e (rmOf 5 0 0) s m args below meth c 6 (QZ E below args s (rmOf 5 0 0) none q.2) 0 0 M 51 [(0, vR l0), (1, vI l1), (2, vI l2), (3, vI l3), (4, vI l4)] []) {l0 l1 l2 l3 l4 s0 : Int} {M : Mem} (F : Fx E p s m args meth c cX9_leaf 6 yX9_leaf.cls none yX9_leaf.name) (h : mX9_leaf_97 k51 l0 l1 l2 l3 l4 s0 M = some q) : G E p l e (rmOf 5 0 0) s m args below meth c 6 (QZ E below args s (rmOf 5 0 0) none q.2) 0 0 M 97 [(0, vR l0), (1, vI l1), (2, vI l2), (3, vI l3), (4, vI l4)] [vI s0] := by
  unfold mX9_leaf_97 at h
  refine r_istore (ls' := [(5, vI s0), (0, vR l0), (1, vI l1), (2, vI l2), (3, vI l3), (4, vI l4)]) F (by decide) rfl dX9_leaf_97 ?_
  refine r_goto (tgt := 216) F (by decide) dX9_leaf_99 ?_
  refine r_sub [1, 2, 3, 4, 5, 0] (ls' := [(0, vR l0), (1, vI l1), (2, vI l2), (3, vI l3), (4, vI l4), (5, vI s0)]) rfl ?_
  exact tX9_leaf_216 (fun h => hk51 h) F h
theorem tbX9_leaf_51 {E : En} {p : Program} {l : Launch} {e : Env} {s : State} {m : MethodId} {args : Array Value} {below : List Frame} {meth : Method} {c : Code} {q : Int × Mem} {k51 : Int → Int → Int → Int → Int → Mem → Option (Int × Mem)} (hk51 : ∀ {l0 l1 l2 l3 l4 : Int} {M : Mem}, k51 l0 l1 l2 l3 l4 M = some q → G E p l e (rmOf 5 0 0) s m args below meth c 6 (QZ E below args s (rmOf 5 0 0) none q.2) 0 0 M 51 [(0, vR l0), (1, vI l1), (2, vI l2), (3, vI l3), (4, vI l4)] []) {l0 l1 l2 l3 l4 : Int} {M : Mem} (F : Fx E p s m args meth c cX9_leaf 6 yX9_leaf.cls none yX9_leaf.name) (h : bX9_leaf_51 k51 l0 l1 l2 l3 l4 M = some q) : G E p l e (rmOf 5 0 0) s m args below meth c 6 (QZ E below args s (rmOf 5 0 0) none q.2) 0 0 M 51 [(0, vR l0), (1, vI l1), (2, vI l2), (3, vI l3), (4, vI l4)] [] := by
  unfold bX9_leaf_51 at h
  refine r_iload (j := 4) F rfl dX9_leaf_51 ?_
  refine r_bipush F rfl (by decide) dX9_leaf_53 ?_
  refine r_icmp_ge (tgt := 239) F (by decide) dX9_leaf_55 (fun hc => ?_) (fun hc => ?_)
  · replace h := ite_p h hc
    refine r_aload_n (j := 0) F rfl rfl dX9_leaf_239 ?_
    refine r_dup1 F rfl dX9_leaf_240 ?_
    replace h := bind_so h
    obtain ⟨a241, h241, h⟩ := h
    refine r_getT (t := 0) rfl clok_9 F (by decide) h241 tw_1343 dX9_leaf_241 ?_
    refine r_iconst F rfl dX9_leaf_244 ?_
    refine r_iadd F dX9_leaf_245 ?_
    replace h := bind_so h
    obtain ⟨M246, h246, h⟩ := h
    refine r_put clok_9 F (by decide) rfl (by decide) (by decide) h246 tw_1343 dX9_leaf_246 ?_
    obtain rfl := Option.some.inj h
    exact r_vret F dX9_leaf_249
  · replace h := ite_n h hc
    refine r_iload_n (j := 3) F rfl rfl dX9_leaf_58 ?_
    refine r_istore (ls' := [(5, vI l3), (0, vR l0), (1, vI l1), (2, vI l2), (3, vI l3), (4, vI l4)]) F (by decide) rfl dX9_leaf_59 ?_
    refine r_iload_n (j := 3) F rfl rfl dX9_leaf_61 ?_
    refine r_bipush F rfl (by decide) dX9_leaf_62 ?_
    refine r_icmp_ne (tgt := 102) F (by decide) dX9_leaf_64 (fun hc => ?_) (fun hc => ?_)
    · replace h := ite_n h hc
      refine r_iload_n (j := 3) F rfl rfl dX9_leaf_102 ?_
      refine r_bipush F rfl (by decide) dX9_leaf_103 ?_
      refine r_icmp_ne (tgt := 143) F (by decide) dX9_leaf_105 (fun hc => ?_) (fun hc => ?_)
      · replace h := ite_n h hc
        refine r_iload_n (j := 3) F rfl rfl dX9_leaf_143 ?_
        refine r_bipush F rfl (by decide) dX9_leaf_144 ?_
        refine r_icmp_ne (tgt := 176) F (by decide) dX9_leaf_146 (fun hc => ?_) (fun hc => ?_)
        · replace h := ite_n h hc
          refine r_iload_n (j := 3) F rfl rfl dX9_leaf_176 ?_
          refine r_bipush F rfl (by decide) dX9_leaf_177 ?_
          refine r_icmp_ne (tgt := 216) F (by decide) dX9_leaf_179 (fun hc => ?_) (fun hc => ?_)
          · replace h := ite_n h hc
            refine r_sub [1, 2, 3, 4, 5, 0] (ls' := [(0, vR l0), (1, vI l1), (2, vI l2), (3, vI l3), (4, vI l4), (5, vI l3)]) rfl ?_
            exact tX9_leaf_216 (fun h => hk51 h) F h
          · replace h := ite_p h hc
            refine r_aload_n (j := 1) F rfl rfl dX9_leaf_182 ?_
            refine r_aload_n (j := 1) F rfl rfl dX9_leaf_183 ?_
            replace h := bind_so h
            obtain ⟨a184, h184, h⟩ := h
            refine r_getT (t := 2) rfl clok_9 F (by decide) h184 tw_1314 dX9_leaf_184 ?_
            refine r_iload_n (j := 2) F rfl rfl dX9_leaf_187 ?_
            replace h := bind_so h
            obtain ⟨a188, h188, h⟩ := h
            refine r_iald F h188 dX9_leaf_188 ?_
            refine r_iload (j := 5) F rfl dX9_leaf_189 ?_
            refine r_aload_n (j := 1) F rfl rfl dX9_leaf_191 ?_
            replace h := bind_so h
            obtain ⟨a192, h192, h⟩ := h
            refine r_getT (t := 2) rfl clok_9 F (by decide) h192 tw_1315 dX9_leaf_192 ?_
            refine r_iload_n (j := 2) F rfl rfl dX9_leaf_195 ?_
            replace h := bind_so h
            obtain ⟨a196, h196, h⟩ := h
            refine r_iald F h196 dX9_leaf_196 ?_
            replace h := bind_so h
            obtain ⟨q197, h197, h⟩ := h
            refine r_callS (as := [vI l4, vI a196]) (rv := (some (vI q197.1))) (kc := 0) (nc := 0) (tX9_valueIn h197) F tw_1744 tw_1745 tw_1746 tw_122 ⟨by decide, by decide, show (parseMethodDescriptor yX9_valueIn.desc).map (fun d => d.parameters.length) = some 2 by decide +kernel⟩ ⟨by decide, by decide⟩ (Nat.le_of_ble_eq_true rfl) dX9_leaf_197 ?_
            refine r_iload (j := 5) F rfl dX9_leaf_200 ?_
            refine r_aload_n (j := 1) F rfl rfl dX9_leaf_202 ?_
            replace h := bind_so h
            obtain ⟨a203, h203, h⟩ := h
            refine r_getT (t := 2) rfl clok_9 F (by decide) h203 tw_1316 dX9_leaf_203 ?_
            refine r_iload_n (j := 2) F rfl rfl dX9_leaf_206 ?_
            replace h := bind_so h
            obtain ⟨a207, h207, h⟩ := h
            refine r_iald F h207 dX9_leaf_207 ?_
            replace h := bind_so h
            obtain ⟨q208, h208, h⟩ := h
            refine r_callS (as := [vI l4, vI a207]) (rv := (some (vI q208.1))) (kc := 0) (nc := 0) (tX9_valueIn h208) F tw_1744 tw_1745 tw_1746 tw_122 ⟨by decide, by decide, show (parseMethodDescriptor yX9_valueIn.desc).map (fun d => d.parameters.length) = some 2 by decide +kernel⟩ ⟨by decide, by decide⟩ (Nat.le_of_ble_eq_true rfl) dX9_leaf_208 ?_
            replace h := bind_so h
            obtain ⟨_, g211, h⟩ := h
            replace h := bind_so h
            obtain ⟨q211, h211, h⟩ := h
            refine r_callV (as := [vI a188, vI q197.1, vI q208.1]) (rv := (some (vI q211.1))) (kc := 0) (nc := 0) (tX9_isSo h211) clok_9 F (gK_so g211) tw_1740 tw_1742 tw_91 tw_1743 tw_122 ⟨by decide, by decide, show (parseMethodDescriptor yX9_isSo.desc).map (fun d => d.parameters.length) = some 3 by decide +kernel⟩ ⟨by decide, by decide⟩ (Nat.le_of_ble_eq_true rfl) dX9_leaf_211 ?_
            refine r_istore (ls' := [(5, vI q211.1), (0, vR l0), (1, vI l1), (2, vI l2), (3, vI l3), (4, vI l4)]) F (by decide) rfl dX9_leaf_214 ?_
            refine r_sub [1, 2, 3, 4, 5, 0] (ls' := [(0, vR l0), (1, vI l1), (2, vI l2), (3, vI l3), (4, vI l4), (5, vI q211.1)]) rfl ?_
            exact tX9_leaf_216 (fun h => hk51 h) F h
        · replace h := ite_p h hc
          refine r_aload_n (j := 1) F rfl rfl dX9_leaf_149 ?_
          refine r_aload_n (j := 1) F rfl rfl dX9_leaf_150 ?_
          replace h := bind_so h
          obtain ⟨a151, h151, h⟩ := h
          refine r_getT (t := 2) rfl clok_9 F (by decide) h151 tw_1314 dX9_leaf_151 ?_
          refine r_iload_n (j := 2) F rfl rfl dX9_leaf_154 ?_
          replace h := bind_so h
          obtain ⟨a155, h155, h⟩ := h
          refine r_iald F h155 dX9_leaf_155 ?_
          refine r_iload (j := 5) F rfl dX9_leaf_156 ?_
          refine r_aload_n (j := 1) F rfl rfl dX9_leaf_158 ?_
          replace h := bind_so h
          obtain ⟨a159, h159, h⟩ := h
          refine r_getT (t := 2) rfl clok_9 F (by decide) h159 tw_1315 dX9_leaf_159 ?_
          refine r_iload_n (j := 2) F rfl rfl dX9_leaf_162 ?_
          replace h := bind_so h
          obtain ⟨a163, h163, h⟩ := h
          refine r_iald F h163 dX9_leaf_163 ?_
          replace h := bind_so h
          obtain ⟨q164, h164, h⟩ := h
          refine r_callS (as := [vI l4, vI a163]) (rv := (some (vI q164.1))) (kc := 0) (nc := 0) (tX9_valueIn h164) F tw_1744 tw_1745 tw_1746 tw_122 ⟨by decide, by decide, show (parseMethodDescriptor yX9_valueIn.desc).map (fun d => d.parameters.length) = some 2 by decide +kernel⟩ ⟨by decide, by decide⟩ (Nat.le_of_ble_eq_true rfl) dX9_leaf_164 ?_
          refine r_iconst F rfl dX9_leaf_167 ?_
          replace h := bind_so h
          obtain ⟨_, g168, h⟩ := h
          replace h := bind_so h
          obtain ⟨q168, h168, h⟩ := h
          refine r_callV (as := [vI a155, vI q164.1, vI 0]) (rv := (some (vI q168.1))) (kc := 0) (nc := 0) (tX9_isSo h168) clok_9 F (gK_so g168) tw_1740 tw_1742 tw_91 tw_1743 tw_122 ⟨by decide, by decide, show (parseMethodDescriptor yX9_isSo.desc).map (fun d => d.parameters.length) = some 3 by decide +kernel⟩ ⟨by decide, by decide⟩ (Nat.le_of_ble_eq_true rfl) dX9_leaf_168 ?_
          refine r_istore (ls' := [(5, vI q168.1), (0, vR l0), (1, vI l1), (2, vI l2), (3, vI l3), (4, vI l4)]) F (by decide) rfl dX9_leaf_171 ?_
          refine r_goto (tgt := 216) F (by decide) dX9_leaf_173 ?_
          refine r_sub [1, 2, 3, 4, 5, 0] (ls' := [(0, vR l0), (1, vI l1), (2, vI l2), (3, vI l3), (4, vI l4), (5, vI q168.1)]) rfl ?_
          exact tX9_leaf_216 (fun h => hk51 h) F h
      · replace h := ite_p h hc
        refine r_aload_n (j := 1) F rfl rfl dX9_leaf_108 ?_
        replace h := bind_so h
        obtain ⟨a109, h109, h⟩ := h
        refine r_getT (t := 2) rfl clok_9 F (by decide) h109 tw_1344 dX9_leaf_109 ?_
        refine r_iconst F rfl dX9_leaf_112 ?_
        refine r_iload (j := 5) F rfl dX9_leaf_113 ?_
        refine r_aload_n (j := 1) F rfl rfl dX9_leaf_115 ?_
        replace h := bind_so h
        obtain ⟨a116, h116, h⟩ := h
        refine r_getT (t := 2) rfl clok_9 F (by decide) h116 tw_1315 dX9_leaf_116 ?_
        refine r_iload_n (j := 2) F rfl rfl dX9_leaf_119 ?_
        replace h := bind_so h
        obtain ⟨a120, h120, h⟩ := h
        refine r_iald F h120 dX9_leaf_120 ?_
        replace h := bind_so h
        obtain ⟨q121, h121, h⟩ := h
        refine r_callS (as := [vI l4, vI a120]) (rv := (some (vI q121.1))) (kc := 0) (nc := 0) (tX9_valueIn h121) F tw_1744 tw_1745 tw_1746 tw_122 ⟨by decide, by decide, show (parseMethodDescriptor yX9_valueIn.desc).map (fun d => d.parameters.length) = some 2 by decide +kernel⟩ ⟨by decide, by decide⟩ (Nat.le_of_ble_eq_true rfl) dX9_leaf_121 ?_
        refine r_imul F dX9_leaf_124 ?_
        refine r_iload (j := 5) F rfl dX9_leaf_125 ?_
        refine r_aload_n (j := 1) F rfl rfl dX9_leaf_127 ?_
        replace h := bind_so h
        obtain ⟨a128, h128, h⟩ := h
        refine r_getT (t := 2) rfl clok_9 F (by decide) h128 tw_1316 dX9_leaf_128 ?_
        refine r_iload_n (j := 2) F rfl rfl dX9_leaf_131 ?_
        replace h := bind_so h
        obtain ⟨a132, h132, h⟩ := h
        refine r_iald F h132 dX9_leaf_132 ?_
        replace h := bind_so h
        obtain ⟨q133, h133, h⟩ := h
        refine r_callS (as := [vI l4, vI a132]) (rv := (some (vI q133.1))) (kc := 0) (nc := 0) (tX9_valueIn h133) F tw_1744 tw_1745 tw_1746 tw_122 ⟨by decide, by decide, show (parseMethodDescriptor yX9_valueIn.desc).map (fun d => d.parameters.length) = some 2 by decide +kernel⟩ ⟨by decide, by decide⟩ (Nat.le_of_ble_eq_true rfl) dX9_leaf_133 ?_
        refine r_iadd F dX9_leaf_136 ?_
        replace h := bind_so h
        obtain ⟨a137, h137, h⟩ := h
        refine r_zald F h137 dX9_leaf_137 ?_
        refine r_istore (ls' := [(5, vI a137), (0, vR l0), (1, vI l1), (2, vI l2), (3, vI l3), (4, vI l4)]) F (by decide) rfl dX9_leaf_138 ?_
        refine r_goto (tgt := 216) F (by decide) dX9_leaf_140 ?_
        refine r_sub [1, 2, 3, 4, 5, 0] (ls' := [(0, vR l0), (1, vI l1), (2, vI l2), (3, vI l3), (4, vI l4), (5, vI a137)]) rfl ?_
        exact tX9_leaf_216 (fun h => hk51 h) F h
    · replace h := ite_p h hc
      refine r_iload (j := 5) F rfl dX9_leaf_67 ?_
      refine r_aload_n (j := 1) F rfl rfl dX9_leaf_69 ?_
      replace h := bind_so h
      obtain ⟨a70, h70, h⟩ := h
      refine r_getT (t := 2) rfl clok_9 F (by decide) h70 tw_1314 dX9_leaf_70 ?_
      refine r_iload_n (j := 2) F rfl rfl dX9_leaf_73 ?_
      replace h := bind_so h
      obtain ⟨a74, h74, h⟩ := h
      refine r_iald F h74 dX9_leaf_74 ?_
      replace h := bind_so h
      obtain ⟨q75, h75, h⟩ := h
      refine r_callS (as := [vI l4, vI a74]) (rv := (some (vI q75.1))) (kc := 0) (nc := 0) (tX9_valueIn h75) F tw_1744 tw_1745 tw_1746 tw_122 ⟨by decide, by decide, show (parseMethodDescriptor yX9_valueIn.desc).map (fun d => d.parameters.length) = some 2 by decide +kernel⟩ ⟨by decide, by decide⟩ (Nat.le_of_ble_eq_true rfl) dX9_leaf_75 ?_
      refine r_iload (j := 5) F rfl dX9_leaf_78 ?_
      refine r_aload_n (j := 1) F rfl rfl dX9_leaf_80 ?_
      replace h := bind_so h
      obtain ⟨a81, h81, h⟩ := h
      refine r_getT (t := 2) rfl clok_9 F (by decide) h81 tw_1315 dX9_leaf_81 ?_
      refine r_iload_n (j := 2) F rfl rfl dX9_leaf_84 ?_
      replace h := bind_so h
      obtain ⟨a85, h85, h⟩ := h
      refine r_iald F h85 dX9_leaf_85 ?_
      replace h := bind_so h
      obtain ⟨q86, h86, h⟩ := h
      refine r_callS (as := [vI l4, vI a85]) (rv := (some (vI q86.1))) (kc := 0) (nc := 0) (tX9_valueIn h86) F tw_1744 tw_1745 tw_1746 tw_122 ⟨by decide, by decide, show (parseMethodDescriptor yX9_valueIn.desc).map (fun d => d.parameters.length) = some 2 by decide +kernel⟩ ⟨by decide, by decide⟩ (Nat.le_of_ble_eq_true rfl) dX9_leaf_86 ?_
      refine r_icmp_ne (tgt := 96) F (by decide) dX9_leaf_89 (fun hc => ?_) (fun hc => ?_)
      · replace h := ite_n h hc
        refine r_iconst F rfl dX9_leaf_96 ?_
        refine r_sub [1, 2, 3, 4, 5] (ls' := [(0, vR l0), (1, vI l1), (2, vI l2), (3, vI l3), (4, vI l4)]) rfl ?_
        exact tX9_leaf_97 (fun h => hk51 h) F h
      · replace h := ite_p h hc
        refine r_iconst F rfl dX9_leaf_92 ?_
        refine r_goto (tgt := 97) F (by decide) dX9_leaf_93 ?_
        refine r_sub [1, 2, 3, 4, 5] (ls' := [(0, vR l0), (1, vI l1), (2, vI l2), (3, vI l3), (4, vI l4)]) rfl ?_
        exact tX9_leaf_97 (fun h => hk51 h) F h
theorem tX9_leaf_51 {E : En} {p : Program} {l : Launch} {e : Env} {s : State} {m : MethodId} {args : Array Value} {below : List Frame} {meth : Method} {c : Code} {q : Int × Mem} (F : Fx E p s m args meth c cX9_leaf 6 yX9_leaf.cls none yX9_leaf.name) : ∀ {fu : Nat} {l0 l1 l2 l3 l4 : Int} {M : Mem}, mX9_leaf_51 fu l0 l1 l2 l3 l4 M = some q → G E p l e (rmOf 5 0 0) s m args below meth c 6 (QZ E below args s (rmOf 5 0 0) none q.2) 0 0 M 51 [(0, vR l0), (1, vI l1), (2, vI l2), (3, vI l3), (4, vI l4)] [] := by
  intro fu
  induction fu with
  | zero => intro l0 l1 l2 l3 l4 M h; exact nomatch (show (none : Option (Int × Mem)) = some q from h)
  | succ fu ih => intro l0 l1 l2 l3 l4 M h; exact tbX9_leaf_51  (fun h => ih h) F h
theorem tX9_leaf_48 {E : En} {p : Program} {l : Launch} {e : Env} {s : State} {m : MethodId} {args : Array Value} {below : List Frame} {meth : Method} {c : Code} {q : Int × Mem} {l0 l1 l2 l3 : Int} {M : Mem} (F : Fx E p s m args meth c cX9_leaf 6 yX9_leaf.cls none yX9_leaf.name) (h : mX9_leaf_48 l0 l1 l2 l3 M = some q) : G E p l e (rmOf 5 0 0) s m args below meth c 6 (QZ E below args s (rmOf 5 0 0) none q.2) 0 0 M 48 [(0, vR l0), (1, vI l1), (2, vI l2), (3, vI l3)] [] := by
  unfold mX9_leaf_48 at h
  refine r_iconst F rfl dX9_leaf_48 ?_
  refine r_istore (ls' := [(4, vI 0), (0, vR l0), (1, vI l1), (2, vI l2), (3, vI l3)]) F (by decide) rfl dX9_leaf_49 ?_
  refine r_sub [1, 2, 3, 4, 0] (ls' := [(0, vR l0), (1, vI l1), (2, vI l2), (3, vI l3), (4, vI 0)]) rfl ?_
  exact tX9_leaf_51 F h
theorem tX9_leaf_31 {E : En} {p : Program} {l : Launch} {e : Env} {s : State} {m : MethodId} {args : Array Value} {below : List Frame} {meth : Method} {c : Code} {q : Int × Mem} {l0 l1 l2 s0 : Int} {M : Mem} (F : Fx E p s m args meth c cX9_leaf 6 yX9_leaf.cls none yX9_leaf.name) (h : mX9_leaf_31 l0 l1 l2 s0 M = some q) : G E p l e (rmOf 5 0 0) s m args below meth c 6 (QZ E below args s (rmOf 5 0 0) none q.2) 0 0 M 31 [(0, vR l0), (1, vI l1), (2, vI l2)] [vI s0] := by
  unfold mX9_leaf_31 at h
  refine r_istore_n (ls' := [(3, vI s0), (0, vR l0), (1, vI l1), (2, vI l2)]) F rfl (by decide) rfl dX9_leaf_31 ?_
  refine r_iload_n (j := 3) F rfl rfl dX9_leaf_32 ?_
  refine r_bipush F rfl (by decide) dX9_leaf_33 ?_
  refine r_icmp_ne (tgt := 48) F (by decide) dX9_leaf_35 (fun hc => ?_) (fun hc => ?_)
  · replace h := ite_n h hc
    refine r_sub [1, 2, 3, 0] (ls' := [(0, vR l0), (1, vI l1), (2, vI l2), (3, vI s0)]) rfl ?_
    exact tX9_leaf_48 F h
  · replace h := ite_p h hc
    refine r_aload_n (j := 1) F rfl rfl dX9_leaf_38 ?_
    refine r_aload_n (j := 1) F rfl rfl dX9_leaf_39 ?_
    replace h := bind_so h
    obtain ⟨a40, h40, h⟩ := h
    refine r_getT (t := 2) rfl clok_9 F (by decide) h40 tw_1314 dX9_leaf_40 ?_
    refine r_iload_n (j := 2) F rfl rfl dX9_leaf_43 ?_
    replace h := bind_so h
    obtain ⟨a44, h44, h⟩ := h
    refine r_iald F h44 dX9_leaf_44 ?_
    replace h := bind_so h
    obtain ⟨_, g45, h⟩ := h
    replace h := bind_so h
    obtain ⟨q45, h45, h⟩ := h
    refine r_callV (as := [vI a44]) (rv := none) (kc := 0) (nc := 0) (tX9_findJoined h45) clok_9 F (gK_so g45) tw_1736 tw_1738 tw_90 tw_1739 tw_122 ⟨by decide, by decide, show (parseMethodDescriptor yX9_findJoined.desc).map (fun d => d.parameters.length) = some 1 by decide +kernel⟩ ⟨by decide, by decide⟩ (Nat.le_of_ble_eq_true rfl) dX9_leaf_45 ?_
    refine r_sub [1, 2, 3, 0] (ls' := [(0, vR l0), (1, vI l1), (2, vI l2), (3, vI s0)]) rfl ?_
    exact tX9_leaf_48 F h
theorem tX9_leaf_30 {E : En} {p : Program} {l : Launch} {e : Env} {s : State} {m : MethodId} {args : Array Value} {below : List Frame} {meth : Method} {c : Code} {q : Int × Mem} {l0 l1 l2 : Int} {M : Mem} (F : Fx E p s m args meth c cX9_leaf 6 yX9_leaf.cls none yX9_leaf.name) (h : mX9_leaf_30 l0 l1 l2 M = some q) : G E p l e (rmOf 5 0 0) s m args below meth c 6 (QZ E below args s (rmOf 5 0 0) none q.2) 0 0 M 30 [(0, vR l0), (1, vI l1), (2, vI l2)] [] := by
  unfold mX9_leaf_30 at h
  refine r_iconst F rfl dX9_leaf_30 ?_
  refine r_sub [0, 1, 2] (ls' := [(0, vR l0), (1, vI l1), (2, vI l2)]) rfl ?_
  exact tX9_leaf_31 F h
theorem tX9_leaf {l0 l1 : Int} {M : Mem} {q : Int × Mem} (h : mX9_leaf l0 l1 M = some q) : Ct 5 0 0 yX9_leaf cX9_leaf 6 none [vR l0, vI l1] M none q.2 := by
  unfold mX9_leaf at h
  refine Ct.of (by decide) (Nat.le_of_ble_eq_true rfl) ?_
  intro E p l e s m args below meth c F
  refine r_sub [0, 1] (ls' := [(0, vR l0), (1, vI l1)]) rfl ?_
  refine r_aload_n (j := 0) F rfl rfl dX9_leaf_0 ?_
  replace h := bind_so h
  obtain ⟨a1, h1, h⟩ := h
  refine r_getT (t := 2) rfl clok_9 F (by decide) h1 tw_1313 dX9_leaf_1 ?_
  refine r_iload_n (j := 1) F rfl rfl dX9_leaf_4 ?_
  replace h := bind_so h
  obtain ⟨a5, h5, h⟩ := h
  refine r_iald F h5 dX9_leaf_5 ?_
  refine r_istore_n (ls' := [(2, vI a5), (0, vR l0), (1, vI l1)]) F rfl (by decide) rfl dX9_leaf_6 ?_
  refine r_iload_n (j := 0) F rfl rfl dX9_leaf_7 ?_
  refine r_bipush F rfl (by decide) dX9_leaf_8 ?_
  refine r_icmp_ne (tgt := 30) F (by decide) dX9_leaf_10 (fun hc => ?_) (fun hc => ?_)
  · replace h := ite_n h hc
    refine r_sub [1, 2, 0] (ls' := [(0, vR l0), (1, vI l1), (2, vI a5)]) rfl ?_
    exact tX9_leaf_30 F h
  · replace h := ite_p h hc
    refine r_aload_n (j := 1) F rfl rfl dX9_leaf_13 ?_
    refine r_aload_n (j := 1) F rfl rfl dX9_leaf_14 ?_
    replace h := bind_so h
    obtain ⟨a15, h15, h⟩ := h
    refine r_getT (t := 2) rfl clok_9 F (by decide) h15 tw_1314 dX9_leaf_15 ?_
    refine r_iload_n (j := 2) F rfl rfl dX9_leaf_18 ?_
    replace h := bind_so h
    obtain ⟨a19, h19, h⟩ := h
    refine r_iald F h19 dX9_leaf_19 ?_
    replace h := bind_so h
    obtain ⟨_, g20, h⟩ := h
    replace h := bind_so h
    obtain ⟨q20, h20, h⟩ := h
    refine r_callV (as := [vI a19]) (rv := (some (vI q20.1))) (kc := 0) (nc := 0) (tX9_isTree h20) clok_9 F (gK_so g20) tw_1732 tw_1734 tw_89 tw_1735 tw_122 ⟨by decide, by decide, show (parseMethodDescriptor yX9_isTree.desc).map (fun d => d.parameters.length) = some 1 by decide +kernel⟩ ⟨by decide, by decide⟩ (Nat.le_of_ble_eq_true rfl) dX9_leaf_20 ?_
    refine r_if_eq (tgt := 30) F (by decide) dX9_leaf_23 (fun hc => ?_) (fun hc => ?_)
    · replace h := ite_p h hc
      refine r_sub [1, 2, 0] (ls' := [(0, vR l0), (1, vI l1), (2, vI a5)]) rfl ?_
      exact tX9_leaf_30 F h
    · replace h := ite_n h hc
      refine r_iconst F rfl dX9_leaf_26 ?_
      refine r_goto (tgt := 31) F (by decide) dX9_leaf_27 ?_
      refine r_sub [1, 2, 0] (ls' := [(0, vR l0), (1, vI l1), (2, vI a5)]) rfl ?_
      exact tX9_leaf_31 F h
theorem tX9_bind_226 {E : En} {p : Program} {l : Launch} {e : Env} {s : State} {m : MethodId} {args : Array Value} {below : List Frame} {meth : Method} {c : Code} {q : Int × Mem} {k36 : Int → Int → Int → Int → Int → Int → Mem → Option (Int × Mem)} (hk36 : ∀ {l0 l1 l2 l3 l4 l5 : Int} {M : Mem}, k36 l0 l1 l2 l3 l4 l5 M = some q → G E p l e (rmOf 1 0 0) s m args below meth c 9 (QZ E below args s (rmOf 1 0 0) none q.2) 0 0 M 36 [(0, vR l0), (1, vI l1), (2, vI l2), (3, vI l3), (4, vI l4), (5, vI l5)] []) {l0 l1 l2 l3 l4 l5 : Int} {M : Mem} (F : Fx E p s m args meth c cX9_bind 9 yX9_bind.cls none yX9_bind.name) (h : mX9_bind_226 k36 l0 l1 l2 l3 l4 l5 M = some q) : G E p l e (rmOf 1 0 0) s m args below meth c 9 (QZ E below args s (rmOf 1 0 0) none q.2) 0 0 M 226 [(0, vR l0), (1, vI l1), (2, vI l2), (3, vI l3), (4, vI l4), (5, vI l5)] [] := by
  unfold mX9_bind_226 at h
  refine r_iinc (j := 5) (ls' := [(5, vI (wI (l5 + 1))), (0, vR l0), (1, vI l1), (2, vI l2), (3, vI l3), (4, vI l4)]) F rfl (by decide) rfl dX9_bind_226 ?_
  refine r_goto (tgt := 36) F (by decide) dX9_bind_229 ?_
  refine r_sub [1, 2, 3, 4, 5, 0] (ls' := [(0, vR l0), (1, vI l1), (2, vI l2), (3, vI l3), (4, vI l4), (5, vI (wI (l5 + 1)))]) rfl ?_
  exact hk36 h
theorem tbX9_bind_197 {E : En} {p : Program} {l : Launch} {e : Env} {s : State} {m : MethodId} {args : Array Value} {below : List Frame} {meth : Method} {c : Code} {q : Int × Mem} {k36 : Int → Int → Int → Int → Int → Int → Mem → Option (Int × Mem)} (hk36 : ∀ {l0 l1 l2 l3 l4 l5 : Int} {M : Mem}, k36 l0 l1 l2 l3 l4 l5 M = some q → G E p l e (rmOf 1 0 0) s m args below meth c 9 (QZ E below args s (rmOf 1 0 0) none q.2) 0 0 M 36 [(0, vR l0), (1, vI l1), (2, vI l2), (3, vI l3), (4, vI l4), (5, vI l5)] []) {k197 : Int → Int → Int → Int → Int → Int → Int → Int → Mem → Option (Int × Mem)} (hk197 : ∀ {l0 l1 l2 l3 l4 l5 l7 l8 : Int} {M : Mem}, k197 l0 l1 l2 l3 l4 l5 l7 l8 M = some q → G E p l e (rmOf 1 0 0) s m args below meth c 9 (QZ E below args s (rmOf 1 0 0) none q.2) 0 0 M 197 [(0, vR l0), (1, vI l1), (2, vI l2), (3, vI l3), (4, vI l4), (5, vI l5), (7, vI l7), (8, vI l8)] []) {l0 l1 l2 l3 l4 l5 l7 l8 : Int} {M : Mem} (F : Fx E p s m args meth c cX9_bind 9 yX9_bind.cls none yX9_bind.name) (h : bX9_bind_197 k36 k197 l0 l1 l2 l3 l4 l5 l7 l8 M = some q) : G E p l e (rmOf 1 0 0) s m args below meth c 9 (QZ E below args s (rmOf 1 0 0) none q.2) 0 0 M 197 [(0, vR l0), (1, vI l1), (2, vI l2), (3, vI l3), (4, vI l4), (5, vI l5), (7, vI l7), (8, vI l8)] [] := by
  unfold bX9_bind_197 at h
  refine r_iload (j := 7) F rfl dX9_bind_197 ?_
  refine r_iconst F rfl dX9_bind_199 ?_
  refine r_icmp_ge (tgt := 226) F (by decide) dX9_bind_200 (fun hc => ?_) (fun hc => ?_)
  · replace h := ite_p h hc
    refine r_sub [0, 1, 2, 3, 4, 5] (ls' := [(0, vR l0), (1, vI l1), (2, vI l2), (3, vI l3), (4, vI l4), (5, vI l5)]) rfl ?_
    exact tX9_bind_226 (fun h => hk36 h) F h
  · replace h := ite_n h hc
    refine r_aload_n (j := 0) F rfl rfl dX9_bind_203 ?_
    replace h := bind_so h
    obtain ⟨a204, h204, h⟩ := h
    refine r_getT (t := 2) rfl clok_9 F (by decide) h204 tw_1342 dX9_bind_204 ?_
    refine r_iload (j := 4) F rfl dX9_bind_207 ?_
    refine r_iload (j := 5) F rfl dX9_bind_209 ?_
    refine r_iadd F dX9_bind_211 ?_
    refine r_iload (j := 7) F rfl dX9_bind_212 ?_
    refine r_iload_n (j := 2) F rfl rfl dX9_bind_214 ?_
    refine r_imul F dX9_bind_215 ?_
    refine r_iadd F dX9_bind_216 ?_
    refine r_iload (j := 6) F rfl dX9_bind_217 ?_
    replace h := bind_so h
    obtain ⟨M219, h219, h⟩ := h
    refine r_zast F h219 dX9_bind_219 ?_
    refine r_iinc (j := 7) (ls' := [(8, vI (wI (l8 + 1))), (0, vR l0), (1, vI l1), (2, vI l2), (3, vI l3), (4, vI l4), (5, vI l5), (7, vI l7)]) F rfl (by decide) rfl dX9_bind_220 ?_
    refine r_goto (tgt := 197) F (by decide) dX9_bind_223 ?_
    refine r_sub [1, 2, 3, 4, 5, 6, 7, 0] (ls' := [(0, vR l0), (1, vI l1), (2, vI l2), (3, vI l3), (4, vI l4), (5, vI l5), (7, vI l7), (8, vI (wI (l8 + 1)))]) rfl ?_
    exact hk197 h
theorem tX9_bind_197 {E : En} {p : Program} {l : Launch} {e : Env} {s : State} {m : MethodId} {args : Array Value} {below : List Frame} {meth : Method} {c : Code} {q : Int × Mem} {k36 : Int → Int → Int → Int → Int → Int → Mem → Option (Int × Mem)} (hk36 : ∀ {l0 l1 l2 l3 l4 l5 : Int} {M : Mem}, k36 l0 l1 l2 l3 l4 l5 M = some q → G E p l e (rmOf 1 0 0) s m args below meth c 9 (QZ E below args s (rmOf 1 0 0) none q.2) 0 0 M 36 [(0, vR l0), (1, vI l1), (2, vI l2), (3, vI l3), (4, vI l4), (5, vI l5)] []) (F : Fx E p s m args meth c cX9_bind 9 yX9_bind.cls none yX9_bind.name) : ∀ {fu : Nat} {l0 l1 l2 l3 l4 l5 l7 l8 : Int} {M : Mem}, mX9_bind_197 k36 fu l0 l1 l2 l3 l4 l5 l7 l8 M = some q → G E p l e (rmOf 1 0 0) s m args below meth c 9 (QZ E below args s (rmOf 1 0 0) none q.2) 0 0 M 197 [(0, vR l0), (1, vI l1), (2, vI l2), (3, vI l3), (4, vI l4), (5, vI l5), (7, vI l7), (8, vI l8)] [] := by
  intro fu
  induction fu with
  | zero => intro l0 l1 l2 l3 l4 l5 l7 l8 M h; exact nomatch (show (none : Option (Int × Mem)) = some q from h)
  | succ fu ih => intro l0 l1 l2 l3 l4 l5 l7 l8 M h; exact tbX9_bind_197 (fun h => hk36 h) (fun h => ih h) F h
theorem tX9_bind_192 {E : En} {p : Program} {l : Launch} {e : Env} {s : State} {m : MethodId} {args : Array Value} {below : List Frame} {meth : Method} {c : Code} {q : Int × Mem} {k36 : Int → Int → Int → Int → Int → Int → Mem → Option (Int × Mem)} (hk36 : ∀ {l0 l1 l2 l3 l4 l5 : Int} {M : Mem}, k36 l0 l1 l2 l3 l4 l5 M = some q → G E p l e (rmOf 1 0 0) s m args below meth c 9 (QZ E below args s (rmOf 1 0 0) none q.2) 0 0 M 36 [(0, vR l0), (1, vI l1), (2, vI l2), (3, vI l3), (4, vI l4), (5, vI l5)] []) {l0 l1 l2 l3 l4 l5 s0 : Int} {M : Mem} (F : Fx E p s m args meth c cX9_bind 9 yX9_bind.cls none yX9_bind.name) (h : mX9_bind_192 k36 l0 l1 l2 l3 l4 l5 s0 M = some q) : G E p l e (rmOf 1 0 0) s m args below meth c 9 (QZ E below args s (rmOf 1 0 0) none q.2) 0 0 M 192 [(0, vR l0), (1, vI l1), (2, vI l2), (3, vI l3), (4, vI l4), (5, vI l5)] [vI s0] := by
  unfold mX9_bind_192 at h
  refine r_istore (ls' := [(7, vI s0), (0, vR l0), (1, vI l1), (2, vI l2), (3, vI l3), (4, vI l4), (5, vI l5)]) F (by decide) rfl dX9_bind_192 ?_
  refine r_iconst F rfl dX9_bind_194 ?_
  refine r_istore (ls' := [(8, vI 0), (7, vI s0), (0, vR l0), (1, vI l1), (2, vI l2), (3, vI l3), (4, vI l4), (5, vI l5)]) F (by decide) rfl dX9_bind_195 ?_
  refine r_sub [2, 3, 4, 5, 6, 7, 1, 0] (ls' := [(0, vR l0), (1, vI l1), (2, vI l2), (3, vI l3), (4, vI l4), (5, vI l5), (7, vI s0), (8, vI 0)]) rfl ?_
  exact tX9_bind_197 (fun h => hk36 h) F h
theorem tX9_bind_92 {E : En} {p : Program} {l : Launch} {e : Env} {s : State} {m : MethodId} {args : Array Value} {below : List Frame} {meth : Method} {c : Code} {q : Int × Mem} {k36 : Int → Int → Int → Int → Int → Int → Mem → Option (Int × Mem)} {k61 : Int → Int → Int → Int → Int → Int → Int → Int → Mem → Option (Int × Mem)} (hk36 : ∀ {l0 l1 l2 l3 l4 l5 : Int} {M : Mem}, k36 l0 l1 l2 l3 l4 l5 M = some q → G E p l e (rmOf 1 0 0) s m args below meth c 9 (QZ E below args s (rmOf 1 0 0) none q.2) 0 0 M 36 [(0, vR l0), (1, vI l1), (2, vI l2), (3, vI l3), (4, vI l4), (5, vI l5)] []) (hk61 : ∀ {l0 l1 l2 l3 l4 l5 l6 l7 : Int} {M : Mem}, k61 l0 l1 l2 l3 l4 l5 l6 l7 M = some q → G E p l e (rmOf 1 0 0) s m args below meth c 9 (QZ E below args s (rmOf 1 0 0) none q.2) 0 0 M 61 [(0, vR l0), (1, vI l1), (2, vI l2), (3, vI l3), (4, vI l4), (5, vI l5), (6, vI l6), (7, vI l7)] []) {l0 l1 l2 l3 l4 l5 l7 s0 s1 : Int} {M : Mem} (F : Fx E p s m args meth c cX9_bind 9 yX9_bind.cls none yX9_bind.name) (h : mX9_bind_92 k36 k61 l0 l1 l2 l3 l4 l5 l7 s0 s1 M = some q) : G E p l e (rmOf 1 0 0) s m args below meth c 9 (QZ E below args s (rmOf 1 0 0) none q.2) 0 0 M 92 [(0, vR l0), (1, vI l1), (2, vI l2), (3, vI l3), (4, vI l4), (5, vI l5), (7, vI l7)] [vI s1, vI s0] := by
  unfold mX9_bind_92 at h
  refine r_iadd F dX9_bind_92 ?_
  refine r_istore (ls' := [(6, vI (wI (s0 + s1))), (0, vR l0), (1, vI l1), (2, vI l2), (3, vI l3), (4, vI l4), (5, vI l5), (7, vI l7)]) F (by decide) rfl dX9_bind_93 ?_
  refine r_iinc (j := 7) (ls' := [(7, vI (wI (l7 + 1))), (6, vI (wI (s0 + s1))), (0, vR l0), (1, vI l1), (2, vI l2), (3, vI l3), (4, vI l4), (5, vI l5)]) F rfl (by decide) rfl dX9_bind_95 ?_
  refine r_goto (tgt := 61) F (by decide) dX9_bind_98 ?_
  refine r_sub [2, 3, 4, 5, 6, 7, 1, 0] (ls' := [(0, vR l0), (1, vI l1), (2, vI l2), (3, vI l3), (4, vI l4), (5, vI l5), (6, vI (wI (s0 + s1))), (7, vI (wI (l7 + 1)))]) rfl ?_
  exact hk61 h
theorem tbX9_bind_61 {E : En} {p : Program} {l : Launch} {e : Env} {s : State} {m : MethodId} {args : Array Value} {below : List Frame} {meth : Method} {c : Code} {q : Int × Mem} {k36 : Int → Int → Int → Int → Int → Int → Mem → Option (Int × Mem)} (hk36 : ∀ {l0 l1 l2 l3 l4 l5 : Int} {M : Mem}, k36 l0 l1 l2 l3 l4 l5 M = some q → G E p l e (rmOf 1 0 0) s m args below meth c 9 (QZ E below args s (rmOf 1 0 0) none q.2) 0 0 M 36 [(0, vR l0), (1, vI l1), (2, vI l2), (3, vI l3), (4, vI l4), (5, vI l5)] []) {k61 : Int → Int → Int → Int → Int → Int → Int → Int → Mem → Option (Int × Mem)} (hk61 : ∀ {l0 l1 l2 l3 l4 l5 l6 l7 : Int} {M : Mem}, k61 l0 l1 l2 l3 l4 l5 l6 l7 M = some q → G E p l e (rmOf 1 0 0) s m args below meth c 9 (QZ E below args s (rmOf 1 0 0) none q.2) 0 0 M 61 [(0, vR l0), (1, vI l1), (2, vI l2), (3, vI l3), (4, vI l4), (5, vI l5), (6, vI l6), (7, vI l7)] []) {l0 l1 l2 l3 l4 l5 l6 l7 : Int} {M : Mem} (F : Fx E p s m args meth c cX9_bind 9 yX9_bind.cls none yX9_bind.name) (h : bX9_bind_61 k36 k61 l0 l1 l2 l3 l4 l5 l6 l7 M = some q) : G E p l e (rmOf 1 0 0) s m args below meth c 9 (QZ E below args s (rmOf 1 0 0) none q.2) 0 0 M 61 [(0, vR l0), (1, vI l1), (2, vI l2), (3, vI l3), (4, vI l4), (5, vI l5), (6, vI l6), (7, vI l7)] [] := by
  unfold bX9_bind_61 at h
  refine r_iload (j := 7) F rfl dX9_bind_61 ?_
  refine r_iload_n (j := 3) F rfl rfl dX9_bind_63 ?_
  refine r_icmp_ge (tgt := 101) F (by decide) dX9_bind_64 (fun hc => ?_) (fun hc => ?_)
  · replace h := ite_p h hc
    refine r_aload_n (j := 0) F rfl rfl dX9_bind_101 ?_
    replace h := bind_so h
    obtain ⟨a102, h102, h⟩ := h
    refine r_getT (t := 2) rfl clok_9 F (by decide) h102 tw_1313 dX9_bind_102 ?_
    refine r_iload_n (j := 1) F rfl rfl dX9_bind_105 ?_
    replace h := bind_so h
    obtain ⟨a106, h106, h⟩ := h
    refine r_iald F h106 dX9_bind_106 ?_
    refine r_if_ne (tgt := 124) F (by decide) dX9_bind_107 (fun hc => ?_) (fun hc => ?_)
    · replace h := ite_n h hc
      refine r_aload_n (j := 0) F rfl rfl dX9_bind_124 ?_
      replace h := bind_so h
      obtain ⟨a125, h125, h⟩ := h
      refine r_getT (t := 2) rfl clok_9 F (by decide) h125 tw_1313 dX9_bind_125 ?_
      refine r_iload_n (j := 1) F rfl rfl dX9_bind_128 ?_
      replace h := bind_so h
      obtain ⟨a129, h129, h⟩ := h
      refine r_iald F h129 dX9_bind_129 ?_
      refine r_iconst F rfl dX9_bind_130 ?_
      refine r_icmp_ne (tgt := 147) F (by decide) dX9_bind_131 (fun hc => ?_) (fun hc => ?_)
      · replace h := ite_n h hc
        refine r_aload_n (j := 0) F rfl rfl dX9_bind_147 ?_
        replace h := bind_so h
        obtain ⟨a148, h148, h⟩ := h
        refine r_getT (t := 2) rfl clok_9 F (by decide) h148 tw_1313 dX9_bind_148 ?_
        refine r_iload_n (j := 1) F rfl rfl dX9_bind_151 ?_
        replace h := bind_so h
        obtain ⟨a152, h152, h⟩ := h
        refine r_iald F h152 dX9_bind_152 ?_
        refine r_iconst F rfl dX9_bind_153 ?_
        refine r_icmp_ne (tgt := 176) F (by decide) dX9_bind_154 (fun hc => ?_) (fun hc => ?_)
        · replace h := ite_n h hc
          refine r_iload (j := 6) F rfl dX9_bind_176 ?_
          refine r_aload_n (j := 0) F rfl rfl dX9_bind_178 ?_
          replace h := bind_so h
          obtain ⟨a179, h179, h⟩ := h
          refine r_getT (t := 2) rfl clok_9 F (by decide) h179 tw_1316 dX9_bind_179 ?_
          refine r_iload_n (j := 1) F rfl rfl dX9_bind_182 ?_
          replace h := bind_so h
          obtain ⟨a183, h183, h⟩ := h
          refine r_iald F h183 dX9_bind_183 ?_
          refine r_icmp_gt (tgt := 191) F (by decide) dX9_bind_184 (fun hc => ?_) (fun hc => ?_)
          · replace h := ite_p h hc
            refine r_iconst F rfl dX9_bind_191 ?_
            refine r_sub [0, 1, 2, 3, 4, 5] (ls' := [(0, vR l0), (1, vI l1), (2, vI l2), (3, vI l3), (4, vI l4), (5, vI l5)]) rfl ?_
            exact tX9_bind_192 (fun h => hk36 h) F h
          · replace h := ite_n h hc
            refine r_iconst F rfl dX9_bind_187 ?_
            refine r_goto (tgt := 192) F (by decide) dX9_bind_188 ?_
            refine r_sub [0, 1, 2, 3, 4, 5] (ls' := [(0, vR l0), (1, vI l1), (2, vI l2), (3, vI l3), (4, vI l4), (5, vI l5)]) rfl ?_
            exact tX9_bind_192 (fun h => hk36 h) F h
        · replace h := ite_p h hc
          refine r_iload (j := 6) F rfl dX9_bind_157 ?_
          refine r_aload_n (j := 0) F rfl rfl dX9_bind_159 ?_
          replace h := bind_so h
          obtain ⟨a160, h160, h⟩ := h
          refine r_getT (t := 2) rfl clok_9 F (by decide) h160 tw_1316 dX9_bind_160 ?_
          refine r_iload_n (j := 1) F rfl rfl dX9_bind_163 ?_
          replace h := bind_so h
          obtain ⟨a164, h164, h⟩ := h
          refine r_iald F h164 dX9_bind_164 ?_
          refine r_icmp_lt (tgt := 172) F (by decide) dX9_bind_165 (fun hc => ?_) (fun hc => ?_)
          · replace h := ite_p h hc
            refine r_iconst F rfl dX9_bind_172 ?_
            refine r_goto (tgt := 192) F (by decide) dX9_bind_173 ?_
            refine r_sub [0, 1, 2, 3, 4, 5] (ls' := [(0, vR l0), (1, vI l1), (2, vI l2), (3, vI l3), (4, vI l4), (5, vI l5)]) rfl ?_
            exact tX9_bind_192 (fun h => hk36 h) F h
          · replace h := ite_n h hc
            refine r_iconst F rfl dX9_bind_168 ?_
            refine r_goto (tgt := 192) F (by decide) dX9_bind_169 ?_
            refine r_sub [0, 1, 2, 3, 4, 5] (ls' := [(0, vR l0), (1, vI l1), (2, vI l2), (3, vI l3), (4, vI l4), (5, vI l5)]) rfl ?_
            exact tX9_bind_192 (fun h => hk36 h) F h
      · replace h := ite_p h hc
        refine r_iload (j := 6) F rfl dX9_bind_134 ?_
        refine r_if_le (tgt := 143) F (by decide) dX9_bind_136 (fun hc => ?_) (fun hc => ?_)
        · replace h := ite_p h hc
          refine r_iconst F rfl dX9_bind_143 ?_
          refine r_goto (tgt := 192) F (by decide) dX9_bind_144 ?_
          refine r_sub [0, 1, 2, 3, 4, 5] (ls' := [(0, vR l0), (1, vI l1), (2, vI l2), (3, vI l3), (4, vI l4), (5, vI l5)]) rfl ?_
          exact tX9_bind_192 (fun h => hk36 h) F h
        · replace h := ite_n h hc
          refine r_iconst F rfl dX9_bind_139 ?_
          refine r_goto (tgt := 192) F (by decide) dX9_bind_140 ?_
          refine r_sub [0, 1, 2, 3, 4, 5] (ls' := [(0, vR l0), (1, vI l1), (2, vI l2), (3, vI l3), (4, vI l4), (5, vI l5)]) rfl ?_
          exact tX9_bind_192 (fun h => hk36 h) F h
    · replace h := ite_p h hc
      refine r_iload (j := 6) F rfl dX9_bind_110 ?_
      refine r_iload_n (j := 3) F rfl rfl dX9_bind_112 ?_
      refine r_icmp_ne (tgt := 120) F (by decide) dX9_bind_113 (fun hc => ?_) (fun hc => ?_)
      · replace h := ite_n h hc
        refine r_iconst F rfl dX9_bind_120 ?_
        refine r_goto (tgt := 192) F (by decide) dX9_bind_121 ?_
        refine r_sub [0, 1, 2, 3, 4, 5] (ls' := [(0, vR l0), (1, vI l1), (2, vI l2), (3, vI l3), (4, vI l4), (5, vI l5)]) rfl ?_
        exact tX9_bind_192 (fun h => hk36 h) F h
      · replace h := ite_p h hc
        refine r_iconst F rfl dX9_bind_116 ?_
        refine r_goto (tgt := 192) F (by decide) dX9_bind_117 ?_
        refine r_sub [0, 1, 2, 3, 4, 5] (ls' := [(0, vR l0), (1, vI l1), (2, vI l2), (3, vI l3), (4, vI l4), (5, vI l5)]) rfl ?_
        exact tX9_bind_192 (fun h => hk36 h) F h
  · replace h := ite_n h hc
    refine r_iload (j := 6) F rfl dX9_bind_67 ?_
    refine r_aload_n (j := 0) F rfl rfl dX9_bind_69 ?_
    replace h := bind_so h
    obtain ⟨a70, h70, h⟩ := h
    refine r_getT (t := 2) rfl clok_9 F (by decide) h70 tw_1342 dX9_bind_70 ?_
    refine r_iload (j := 4) F rfl dX9_bind_73 ?_
    refine r_iload (j := 5) F rfl dX9_bind_75 ?_
    refine r_iadd F dX9_bind_77 ?_
    refine r_iload (j := 7) F rfl dX9_bind_78 ?_
    refine r_iload_n (j := 2) F rfl rfl dX9_bind_80 ?_
    refine r_imul F dX9_bind_81 ?_
    refine r_iadd F dX9_bind_82 ?_
    replace h := bind_so h
    obtain ⟨a83, h83, h⟩ := h
    refine r_zald F h83 dX9_bind_83 ?_
    refine r_if_eq (tgt := 91) F (by decide) dX9_bind_84 (fun hc => ?_) (fun hc => ?_)
    · replace h := ite_p h hc
      refine r_iconst F rfl dX9_bind_91 ?_
      refine r_sub [0, 1, 2, 3, 4, 5, 7] (ls' := [(0, vR l0), (1, vI l1), (2, vI l2), (3, vI l3), (4, vI l4), (5, vI l5), (7, vI l7)]) rfl ?_
      exact tX9_bind_92 (fun h => hk36 h) (fun h => hk61 h) F h
    · replace h := ite_n h hc
      refine r_iconst F rfl dX9_bind_87 ?_
      refine r_goto (tgt := 92) F (by decide) dX9_bind_88 ?_
      refine r_sub [0, 1, 2, 3, 4, 5, 7] (ls' := [(0, vR l0), (1, vI l1), (2, vI l2), (3, vI l3), (4, vI l4), (5, vI l5), (7, vI l7)]) rfl ?_
      exact tX9_bind_92 (fun h => hk36 h) (fun h => hk61 h) F h
theorem tX9_bind_61 {E : En} {p : Program} {l : Launch} {e : Env} {s : State} {m : MethodId} {args : Array Value} {below : List Frame} {meth : Method} {c : Code} {q : Int × Mem} {k36 : Int → Int → Int → Int → Int → Int → Mem → Option (Int × Mem)} (hk36 : ∀ {l0 l1 l2 l3 l4 l5 : Int} {M : Mem}, k36 l0 l1 l2 l3 l4 l5 M = some q → G E p l e (rmOf 1 0 0) s m args below meth c 9 (QZ E below args s (rmOf 1 0 0) none q.2) 0 0 M 36 [(0, vR l0), (1, vI l1), (2, vI l2), (3, vI l3), (4, vI l4), (5, vI l5)] []) (F : Fx E p s m args meth c cX9_bind 9 yX9_bind.cls none yX9_bind.name) : ∀ {fu : Nat} {l0 l1 l2 l3 l4 l5 l6 l7 : Int} {M : Mem}, mX9_bind_61 k36 fu l0 l1 l2 l3 l4 l5 l6 l7 M = some q → G E p l e (rmOf 1 0 0) s m args below meth c 9 (QZ E below args s (rmOf 1 0 0) none q.2) 0 0 M 61 [(0, vR l0), (1, vI l1), (2, vI l2), (3, vI l3), (4, vI l4), (5, vI l5), (6, vI l6), (7, vI l7)] [] := by
  intro fu
  induction fu with
  | zero => intro l0 l1 l2 l3 l4 l5 l6 l7 M h; exact nomatch (show (none : Option (Int × Mem)) = some q from h)
  | succ fu ih => intro l0 l1 l2 l3 l4 l5 l6 l7 M h; exact tbX9_bind_61 (fun h => hk36 h) (fun h => ih h) F h
theorem tbX9_bind_36 {E : En} {p : Program} {l : Launch} {e : Env} {s : State} {m : MethodId} {args : Array Value} {below : List Frame} {meth : Method} {c : Code} {q : Int × Mem} {k36 : Int → Int → Int → Int → Int → Int → Mem → Option (Int × Mem)} (hk36 : ∀ {l0 l1 l2 l3 l4 l5 : Int} {M : Mem}, k36 l0 l1 l2 l3 l4 l5 M = some q → G E p l e (rmOf 1 0 0) s m args below meth c 9 (QZ E below args s (rmOf 1 0 0) none q.2) 0 0 M 36 [(0, vR l0), (1, vI l1), (2, vI l2), (3, vI l3), (4, vI l4), (5, vI l5)] []) {l0 l1 l2 l3 l4 l5 : Int} {M : Mem} (F : Fx E p s m args meth c cX9_bind 9 yX9_bind.cls none yX9_bind.name) (h : bX9_bind_36 k36 l0 l1 l2 l3 l4 l5 M = some q) : G E p l e (rmOf 1 0 0) s m args below meth c 9 (QZ E below args s (rmOf 1 0 0) none q.2) 0 0 M 36 [(0, vR l0), (1, vI l1), (2, vI l2), (3, vI l3), (4, vI l4), (5, vI l5)] [] := by
  unfold bX9_bind_36 at h
  refine r_iload (j := 5) F rfl dX9_bind_36 ?_
  refine r_bipush F rfl (by decide) dX9_bind_38 ?_
  refine r_icmp_ge (tgt := 232) F (by decide) dX9_bind_40 (fun hc => ?_) (fun hc => ?_)
  · replace h := ite_p h hc
    obtain rfl := Option.some.inj h
    exact r_vret F dX9_bind_232
  · replace h := ite_n h hc
    refine r_iload (j := 5) F rfl dX9_bind_43 ?_
    refine r_iload_n (j := 2) F rfl rfl dX9_bind_45 ?_
    replace h := bind_so h
    obtain ⟨a46, h46, h⟩ := h
    refine r_idivq F h46 dX9_bind_46 ?_
    refine r_iconst F rfl dX9_bind_47 ?_
    replace h := bind_so h
    obtain ⟨a48, h48, h⟩ := h
    refine r_iremq F h48 dX9_bind_48 ?_
    refine r_if_le (tgt := 55) F (by decide) dX9_bind_49 (fun hc => ?_) (fun hc => ?_)
    · replace h := ite_p h hc
      refine r_iconst F rfl dX9_bind_55 ?_
      refine r_istore (ls' := [(6, vI 0), (0, vR l0), (1, vI l1), (2, vI l2), (3, vI l3), (4, vI l4), (5, vI l5)]) F (by decide) rfl dX9_bind_56 ?_
      refine r_iconst F rfl dX9_bind_58 ?_
      refine r_istore (ls' := [(7, vI 0), (6, vI 0), (0, vR l0), (1, vI l1), (2, vI l2), (3, vI l3), (4, vI l4), (5, vI l5)]) F (by decide) rfl dX9_bind_59 ?_
      refine r_sub [2, 3, 4, 5, 6, 7, 1, 0] (ls' := [(0, vR l0), (1, vI l1), (2, vI l2), (3, vI l3), (4, vI l4), (5, vI l5), (6, vI 0), (7, vI 0)]) rfl ?_
      exact tX9_bind_61 (fun h => hk36 h) F h
    · replace h := ite_n h hc
      refine r_goto (tgt := 226) F (by decide) dX9_bind_52 ?_
      refine r_sub [0, 1, 2, 3, 4, 5] (ls' := [(0, vR l0), (1, vI l1), (2, vI l2), (3, vI l3), (4, vI l4), (5, vI l5)]) rfl ?_
      exact tX9_bind_226 (fun h => hk36 h) F h
theorem tX9_bind_36 {E : En} {p : Program} {l : Launch} {e : Env} {s : State} {m : MethodId} {args : Array Value} {below : List Frame} {meth : Method} {c : Code} {q : Int × Mem} (F : Fx E p s m args meth c cX9_bind 9 yX9_bind.cls none yX9_bind.name) : ∀ {fu : Nat} {l0 l1 l2 l3 l4 l5 : Int} {M : Mem}, mX9_bind_36 fu l0 l1 l2 l3 l4 l5 M = some q → G E p l e (rmOf 1 0 0) s m args below meth c 9 (QZ E below args s (rmOf 1 0 0) none q.2) 0 0 M 36 [(0, vR l0), (1, vI l1), (2, vI l2), (3, vI l3), (4, vI l4), (5, vI l5)] [] := by
  intro fu
  induction fu with
  | zero => intro l0 l1 l2 l3 l4 l5 M h; exact nomatch (show (none : Option (Int × Mem)) = some q from h)
  | succ fu ih => intro l0 l1 l2 l3 l4 l5 M h; exact tbX9_bind_36  (fun h => ih h) F h
theorem tX9_bind {l0 l1 : Int} {M : Mem} {q : Int × Mem} (h : mX9_bind l0 l1 M = some q) : Ct 1 0 0 yX9_bind cX9_bind 9 none [vR l0, vI l1] M none q.2 := by
  unfold mX9_bind at h
  refine Ct.of (by decide) (Nat.le_of_ble_eq_true rfl) ?_
  intro E p l e s m args below meth c F
  refine r_sub [0, 1] (ls' := [(0, vR l0), (1, vI l1)]) rfl ?_
  refine r_aload_n (j := 0) F rfl rfl dX9_bind_0 ?_
  replace h := bind_so h
  obtain ⟨a1, h1, h⟩ := h
  refine r_getT (t := 2) rfl clok_9 F (by decide) h1 tw_1314 dX9_bind_1 ?_
  refine r_iload_n (j := 1) F rfl rfl dX9_bind_4 ?_
  replace h := bind_so h
  obtain ⟨a5, h5, h⟩ := h
  refine r_iald F h5 dX9_bind_5 ?_
  replace h := bind_so h
  obtain ⟨q6, h6, h⟩ := h
  refine r_callS (as := [vI a5]) (rv := (some (vI q6.1))) (kc := 0) (nc := 0) (tX9_unit h6) F tw_1747 tw_1748 tw_1749 tw_122 ⟨by decide, by decide, show (parseMethodDescriptor yX9_unit.desc).map (fun d => d.parameters.length) = some 1 by decide +kernel⟩ ⟨by decide, by decide⟩ (Nat.le_of_ble_eq_true rfl) dX9_bind_6 ?_
  refine r_istore_n (ls' := [(2, vI q6.1), (0, vR l0), (1, vI l1)]) F rfl (by decide) rfl dX9_bind_9 ?_
  refine r_aload_n (j := 1) F rfl rfl dX9_bind_10 ?_
  replace h := bind_so h
  obtain ⟨a11, h11, h⟩ := h
  refine r_getT (t := 2) rfl clok_9 F (by decide) h11 tw_1323 dX9_bind_11 ?_
  refine r_aload_n (j := 1) F rfl rfl dX9_bind_14 ?_
  replace h := bind_so h
  obtain ⟨a15, h15, h⟩ := h
  refine r_getT (t := 2) rfl clok_9 F (by decide) h15 tw_1315 dX9_bind_15 ?_
  refine r_iload_n (j := 2) F rfl rfl dX9_bind_18 ?_
  replace h := bind_so h
  obtain ⟨a19, h19, h⟩ := h
  refine r_iald F h19 dX9_bind_19 ?_
  replace h := bind_so h
  obtain ⟨a20, h20, h⟩ := h
  refine r_iald F h20 dX9_bind_20 ?_
  refine r_istore_n (ls' := [(3, vI a20), (2, vI q6.1), (0, vR l0), (1, vI l1)]) F rfl (by decide) rfl dX9_bind_21 ?_
  refine r_bipush F rfl (by decide) dX9_bind_22 ?_
  refine r_aload_n (j := 2) F rfl rfl dX9_bind_24 ?_
  replace h := bind_so h
  obtain ⟨a25, h25, h⟩ := h
  refine r_getT (t := 0) rfl clok_9 F (by decide) h25 tw_1343 dX9_bind_25 ?_
  refine r_iconst F rfl dX9_bind_28 ?_
  refine r_isub F dX9_bind_29 ?_
  refine r_imul F dX9_bind_30 ?_
  replace h := bind_so h
  obtain ⟨b31, e31, h⟩ := h
  refine r_eq (y := b31) (Option.some.inj e31) ?_
  refine r_istore (ls' := [(4, vI b31), (3, vI a20), (2, vI q6.1), (0, vR l0), (1, vI l1)]) F (by decide) rfl dX9_bind_31 ?_
  refine r_iconst F rfl dX9_bind_33 ?_
  refine r_istore (ls' := [(5, vI 0), (4, vI b31), (3, vI a20), (2, vI q6.1), (0, vR l0), (1, vI l1)]) F (by decide) rfl dX9_bind_34 ?_
  refine r_sub [4, 5, 3, 2, 1, 0] (ls' := [(0, vR l0), (1, vI l1), (2, vI q6.1), (3, vI a20), (4, vI b31), (5, vI 0)]) rfl ?_
  exact tX9_bind_36 F h
