theorem tX9_join_183 {E : En} {p : Program} {l : Launch} {e : Env} {s : State} {m : MethodId} {args : Array Value} {below : List Frame} {meth : Method} {c : Code} {q : Int × Mem} {k78 : Int → Int → Int → Int → Mem → Option (Int × Mem)} (hk78 : ∀ {l0 l2 l3 l4 : Int} {M : Mem}, k78 l0 l2 l3 l4 M = some q → G E p l e (rmOf 0 0 0) s m args below meth c 7 (QZ E below args s (rmOf 0 0 0) none q.2) 0 0 M 78 [(0, vR l0), (2, vI l2), (3, vI l3), (4, vI l4)] []) {l0 l2 l3 l4 s0 s1 s2 : Int} {M : Mem} (F : Fx E p s m args meth c cX9_join 7 yX9_join.cls none yX9_join.name) (h : mX9_join_183 k78 l0 l2 l3 l4 s0 s1 s2 M = some q) : G E p l e (rmOf 0 0 0) s m args below meth c 7 (QZ E below args s (rmOf 0 0 0) none q.2) 0 0 M 183 [(0, vR l0), (2, vI l2), (3, vI l3), (4, vI l4)] [vI s2, vI s1, vR s0] := by
  unfold mX9_join_183 at h
  replace h := bind_so h
  obtain ⟨M183, h183, h⟩ := h
  refine r_zast F h183 dX9_join_183 ?_
  refine r_iinc (j := 3) (ls' := [(4, vI (wI (l4 + 1))), (0, vR l0), (2, vI l2), (3, vI l3)]) F rfl (by decide) rfl dX9_join_184 ?_
  refine r_goto (tgt := 78) F (by decide) dX9_join_187 ?_
  refine r_sub [1, 2, 3, 0] (ls' := [(0, vR l0), (2, vI l2), (3, vI l3), (4, vI (wI (l4 + 1)))]) rfl ?_
  exact hk78 h
theorem tX9_join_178 {E : En} {p : Program} {l : Launch} {e : Env} {s : State} {m : MethodId} {args : Array Value} {below : List Frame} {meth : Method} {c : Code} {q : Int × Mem} {k78 : Int → Int → Int → Int → Mem → Option (Int × Mem)} (hk78 : ∀ {l0 l2 l3 l4 : Int} {M : Mem}, k78 l0 l2 l3 l4 M = some q → G E p l e (rmOf 0 0 0) s m args below meth c 7 (QZ E below args s (rmOf 0 0 0) none q.2) 0 0 M 78 [(0, vR l0), (2, vI l2), (3, vI l3), (4, vI l4)] []) {l0 l2 l3 l4 s0 s1 : Int} {M : Mem} (F : Fx E p s m args meth c cX9_join 7 yX9_join.cls none yX9_join.name) (h : mX9_join_178 k78 l0 l2 l3 l4 s0 s1 M = some q) : G E p l e (rmOf 0 0 0) s m args below meth c 7 (QZ E below args s (rmOf 0 0 0) none q.2) 0 0 M 178 [(0, vR l0), (2, vI l2), (3, vI l3), (4, vI l4)] [vI s1, vR s0] := by
  unfold mX9_join_178 at h
  refine r_iconst F rfl dX9_join_178 ?_
  refine r_goto (tgt := 183) F (by decide) dX9_join_179 ?_
  refine r_sub [0, 1, 2, 3] (ls' := [(0, vR l0), (2, vI l2), (3, vI l3), (4, vI l4)]) rfl ?_
  exact tX9_join_183 (fun h => hk78 h) F h
theorem tX9_join_160 {E : En} {p : Program} {l : Launch} {e : Env} {s : State} {m : MethodId} {args : Array Value} {below : List Frame} {meth : Method} {c : Code} {q : Int × Mem} {k78 : Int → Int → Int → Int → Mem → Option (Int × Mem)} (hk78 : ∀ {l0 l2 l3 l4 : Int} {M : Mem}, k78 l0 l2 l3 l4 M = some q → G E p l e (rmOf 0 0 0) s m args below meth c 7 (QZ E below args s (rmOf 0 0 0) none q.2) 0 0 M 78 [(0, vR l0), (2, vI l2), (3, vI l3), (4, vI l4)] []) {l0 l2 l3 l4 s0 s1 : Int} {M : Mem} (F : Fx E p s m args meth c cX9_join 7 yX9_join.cls none yX9_join.name) (h : mX9_join_160 k78 l0 l2 l3 l4 s0 s1 M = some q) : G E p l e (rmOf 0 0 0) s m args below meth c 7 (QZ E below args s (rmOf 0 0 0) none q.2) 0 0 M 160 [(0, vR l0), (2, vI l2), (3, vI l3), (4, vI l4)] [vI s1, vR s0] := by
  unfold mX9_join_160 at h
  refine r_iconst F rfl dX9_join_160 ?_
  refine r_goto (tgt := 183) F (by decide) dX9_join_161 ?_
  refine r_sub [0, 1, 2, 3] (ls' := [(0, vR l0), (2, vI l2), (3, vI l3), (4, vI l4)]) rfl ?_
  exact tX9_join_183 (fun h => hk78 h) F h
theorem tX9_join_140 {E : En} {p : Program} {l : Launch} {e : Env} {s : State} {m : MethodId} {args : Array Value} {below : List Frame} {meth : Method} {c : Code} {q : Int × Mem} {k78 : Int → Int → Int → Int → Mem → Option (Int × Mem)} (hk78 : ∀ {l0 l2 l3 l4 : Int} {M : Mem}, k78 l0 l2 l3 l4 M = some q → G E p l e (rmOf 0 0 0) s m args below meth c 7 (QZ E below args s (rmOf 0 0 0) none q.2) 0 0 M 78 [(0, vR l0), (2, vI l2), (3, vI l3), (4, vI l4)] []) {l0 l2 l3 l4 s0 s1 : Int} {M : Mem} (F : Fx E p s m args meth c cX9_join 7 yX9_join.cls none yX9_join.name) (h : mX9_join_140 k78 l0 l2 l3 l4 s0 s1 M = some q) : G E p l e (rmOf 0 0 0) s m args below meth c 7 (QZ E below args s (rmOf 0 0 0) none q.2) 0 0 M 140 [(0, vR l0), (2, vI l2), (3, vI l3), (4, vI l4)] [vI s1, vR s0] := by
  unfold mX9_join_140 at h
  refine r_iconst F rfl dX9_join_140 ?_
  refine r_goto (tgt := 183) F (by decide) dX9_join_141 ?_
  refine r_sub [0, 1, 2, 3] (ls' := [(0, vR l0), (2, vI l2), (3, vI l3), (4, vI l4)]) rfl ?_
  exact tX9_join_183 (fun h => hk78 h) F h
theorem tbX9_join_78 {E : En} {p : Program} {l : Launch} {e : Env} {s : State} {m : MethodId} {args : Array Value} {below : List Frame} {meth : Method} {c : Code} {q : Int × Mem} {k78 : Int → Int → Int → Int → Mem → Option (Int × Mem)} (hk78 : ∀ {l0 l2 l3 l4 : Int} {M : Mem}, k78 l0 l2 l3 l4 M = some q → G E p l e (rmOf 0 0 0) s m args below meth c 7 (QZ E below args s (rmOf 0 0 0) none q.2) 0 0 M 78 [(0, vR l0), (2, vI l2), (3, vI l3), (4, vI l4)] []) {l0 l2 l3 l4 : Int} {M : Mem} (F : Fx E p s m args meth c cX9_join 7 yX9_join.cls none yX9_join.name) (h : bX9_join_78 k78 l0 l2 l3 l4 M = some q) : G E p l e (rmOf 0 0 0) s m args below meth c 7 (QZ E below args s (rmOf 0 0 0) none q.2) 0 0 M 78 [(0, vR l0), (2, vI l2), (3, vI l3), (4, vI l4)] [] := by
  unfold bX9_join_78 at h
  refine r_iload (j := 3) F rfl dX9_join_78 ?_
  refine r_bipush F rfl (by decide) dX9_join_80 ?_
  refine r_icmp_ge (tgt := 190) F (by decide) dX9_join_82 (fun hc => ?_) (fun hc => ?_)
  · replace h := ite_p h hc
    obtain rfl := Option.some.inj h
    exact r_vret F dX9_join_190
  · replace h := ite_n h hc
    refine r_aload_n (j := 0) F rfl rfl dX9_join_85 ?_
    replace h := bind_so h
    obtain ⟨a86, h86, h⟩ := h
    refine r_getT (t := 2) rfl clok_9 F (by decide) h86 tw_1342 dX9_join_86 ?_
    refine r_iload_n (j := 2) F rfl rfl dX9_join_89 ?_
    refine r_iload (j := 3) F rfl dX9_join_90 ?_
    refine r_iadd F dX9_join_92 ?_
    replace h := bind_so h
    obtain ⟨a93, h93, h⟩ := h
    refine r_zald F h93 dX9_join_93 ?_
    refine r_istore (ls' := [(5, vI a93), (0, vR l0), (2, vI l2), (3, vI l3), (4, vI l4)]) F (by decide) rfl dX9_join_94 ?_
    refine r_aload_n (j := 1) F rfl rfl dX9_join_96 ?_
    replace h := bind_so h
    obtain ⟨a97, h97, h⟩ := h
    refine r_getT (t := 2) rfl clok_9 F (by decide) h97 tw_1342 dX9_join_97 ?_
    refine r_iload_n (j := 3) F rfl rfl dX9_join_100 ?_
    refine r_bipush F rfl (by decide) dX9_join_101 ?_
    refine r_isub F dX9_join_103 ?_
    refine r_iload (j := 4) F rfl dX9_join_104 ?_
    refine r_iadd F dX9_join_106 ?_
    replace h := bind_so h
    obtain ⟨a107, h107, h⟩ := h
    refine r_zald F h107 dX9_join_107 ?_
    refine r_istore (ls' := [(6, vI a107), (5, vI a93), (0, vR l0), (2, vI l2), (3, vI l3), (4, vI l4)]) F (by decide) rfl dX9_join_108 ?_
    refine r_aload_n (j := 2) F rfl rfl dX9_join_110 ?_
    replace h := bind_so h
    obtain ⟨a111, h111, h⟩ := h
    refine r_getT (t := 2) rfl clok_9 F (by decide) h111 tw_1342 dX9_join_111 ?_
    refine r_iload_n (j := 4) F rfl rfl dX9_join_114 ?_
    refine r_bipush F rfl (by decide) dX9_join_115 ?_
    refine r_isub F dX9_join_117 ?_
    refine r_iload (j := 5) F rfl dX9_join_118 ?_
    refine r_iadd F dX9_join_120 ?_
    refine r_iload_n (j := 3) F rfl rfl dX9_join_121 ?_
    refine r_iconst F rfl dX9_join_122 ?_
    refine r_icmp_ne (tgt := 144) F (by decide) dX9_join_123 (fun hc => ?_) (fun hc => ?_)
    · replace h := ite_n h hc
      refine r_iload_n (j := 3) F rfl rfl dX9_join_144 ?_
      refine r_bipush F rfl (by decide) dX9_join_145 ?_
      refine r_icmp_ne (tgt := 168) F (by decide) dX9_join_147 (fun hc => ?_) (fun hc => ?_)
      · replace h := ite_n h hc
        refine r_iload (j := 1) F rfl dX9_join_168 ?_
        refine r_if_eq (tgt := 178) F (by decide) dX9_join_170 (fun hc => ?_) (fun hc => ?_)
        · replace h := ite_p h hc
          refine r_sub [2, 3, 4, 5] (ls' := [(0, vR l0), (2, vI l2), (3, vI l3), (4, vI l4)]) rfl ?_
          exact tX9_join_178 (fun h => hk78 h) F h
        · replace h := ite_n h hc
          refine r_iload (j := 0) F rfl dX9_join_173 ?_
          refine r_if_eq (tgt := 182) F (by decide) dX9_join_175 (fun hc => ?_) (fun hc => ?_)
          · replace h := ite_p h hc
            refine r_iconst F rfl dX9_join_182 ?_
            refine r_sub [2, 3, 4, 5] (ls' := [(0, vR l0), (2, vI l2), (3, vI l3), (4, vI l4)]) rfl ?_
            exact tX9_join_183 (fun h => hk78 h) F h
          · replace h := ite_n h hc
            refine r_sub [2, 3, 4, 5] (ls' := [(0, vR l0), (2, vI l2), (3, vI l3), (4, vI l4)]) rfl ?_
            exact tX9_join_178 (fun h => hk78 h) F h
      · replace h := ite_p h hc
        refine r_iload (j := 1) F rfl dX9_join_150 ?_
        refine r_if_ne (tgt := 160) F (by decide) dX9_join_152 (fun hc => ?_) (fun hc => ?_)
        · replace h := ite_n h hc
          refine r_sub [2, 3, 4, 5] (ls' := [(0, vR l0), (2, vI l2), (3, vI l3), (4, vI l4)]) rfl ?_
          exact tX9_join_160 (fun h => hk78 h) F h
        · replace h := ite_p h hc
          refine r_iload (j := 0) F rfl dX9_join_155 ?_
          refine r_if_eq (tgt := 164) F (by decide) dX9_join_157 (fun hc => ?_) (fun hc => ?_)
          · replace h := ite_p h hc
            refine r_iconst F rfl dX9_join_164 ?_
            refine r_goto (tgt := 183) F (by decide) dX9_join_165 ?_
            refine r_sub [2, 3, 4, 5] (ls' := [(0, vR l0), (2, vI l2), (3, vI l3), (4, vI l4)]) rfl ?_
            exact tX9_join_183 (fun h => hk78 h) F h
          · replace h := ite_n h hc
            refine r_sub [2, 3, 4, 5] (ls' := [(0, vR l0), (2, vI l2), (3, vI l3), (4, vI l4)]) rfl ?_
            exact tX9_join_160 (fun h => hk78 h) F h
    · replace h := ite_p h hc
      refine r_iload (j := 1) F rfl dX9_join_126 ?_
      refine r_if_eq (tgt := 140) F (by decide) dX9_join_128 (fun hc => ?_) (fun hc => ?_)
      · replace h := ite_p h hc
        refine r_sub [2, 3, 4, 5] (ls' := [(0, vR l0), (2, vI l2), (3, vI l3), (4, vI l4)]) rfl ?_
        exact tX9_join_140 (fun h => hk78 h) F h
      · replace h := ite_n h hc
        refine r_iload (j := 0) F rfl dX9_join_131 ?_
        refine r_if_eq (tgt := 140) F (by decide) dX9_join_133 (fun hc => ?_) (fun hc => ?_)
        · replace h := ite_p h hc
          refine r_sub [2, 3, 4, 5] (ls' := [(0, vR l0), (2, vI l2), (3, vI l3), (4, vI l4)]) rfl ?_
          exact tX9_join_140 (fun h => hk78 h) F h
        · replace h := ite_n h hc
          refine r_iconst F rfl dX9_join_136 ?_
          refine r_goto (tgt := 183) F (by decide) dX9_join_137 ?_
          refine r_sub [2, 3, 4, 5] (ls' := [(0, vR l0), (2, vI l2), (3, vI l3), (4, vI l4)]) rfl ?_
          exact tX9_join_183 (fun h => hk78 h) F h
theorem tX9_join_78 {E : En} {p : Program} {l : Launch} {e : Env} {s : State} {m : MethodId} {args : Array Value} {below : List Frame} {meth : Method} {c : Code} {q : Int × Mem} (F : Fx E p s m args meth c cX9_join 7 yX9_join.cls none yX9_join.name) : ∀ {fu : Nat} {l0 l2 l3 l4 : Int} {M : Mem}, mX9_join_78 fu l0 l2 l3 l4 M = some q → G E p l e (rmOf 0 0 0) s m args below meth c 7 (QZ E below args s (rmOf 0 0 0) none q.2) 0 0 M 78 [(0, vR l0), (2, vI l2), (3, vI l3), (4, vI l4)] [] := by
  intro fu
  induction fu with
  | zero => intro l0 l2 l3 l4 M h; exact nomatch (show (none : Option (Int × Mem)) = some q from h)
  | succ fu ih => intro l0 l2 l3 l4 M h; exact tbX9_join_78  (fun h => ih h) F h
theorem tX9_join_57 {E : En} {p : Program} {l : Launch} {e : Env} {s : State} {m : MethodId} {args : Array Value} {below : List Frame} {meth : Method} {c : Code} {q : Int × Mem} {k25 : Int → Int → Int → Mem → Option (Int × Mem)} (hk25 : ∀ {l0 l3 l4 : Int} {M : Mem}, k25 l0 l3 l4 M = some q → G E p l e (rmOf 0 0 0) s m args below meth c 7 (QZ E below args s (rmOf 0 0 0) none q.2) 0 0 M 25 [(0, vR l0), (3, vI l3), (4, vI l4)] []) {l0 l3 l4 s0 s1 s2 : Int} {M : Mem} (F : Fx E p s m args meth c cX9_join 7 yX9_join.cls none yX9_join.name) (h : mX9_join_57 k25 l0 l3 l4 s0 s1 s2 M = some q) : G E p l e (rmOf 0 0 0) s m args below meth c 7 (QZ E below args s (rmOf 0 0 0) none q.2) 0 0 M 57 [(0, vR l0), (3, vI l3), (4, vI l4)] [vI s2, vI s1, vR s0] := by
  unfold mX9_join_57 at h
  replace h := bind_so h
  obtain ⟨M57, h57, h⟩ := h
  refine r_zast F h57 dX9_join_57 ?_
  refine r_iinc (j := 2) (ls' := [(4, vI (wI (l4 + 1))), (0, vR l0), (3, vI l3)]) F rfl (by decide) rfl dX9_join_58 ?_
  refine r_goto (tgt := 25) F (by decide) dX9_join_61 ?_
  refine r_sub [1, 2, 0] (ls' := [(0, vR l0), (3, vI l3), (4, vI (wI (l4 + 1)))]) rfl ?_
  exact hk25 h
theorem tbX9_join_25 {E : En} {p : Program} {l : Launch} {e : Env} {s : State} {m : MethodId} {args : Array Value} {below : List Frame} {meth : Method} {c : Code} {q : Int × Mem} {k25 : Int → Int → Int → Mem → Option (Int × Mem)} (hk25 : ∀ {l0 l3 l4 : Int} {M : Mem}, k25 l0 l3 l4 M = some q → G E p l e (rmOf 0 0 0) s m args below meth c 7 (QZ E below args s (rmOf 0 0 0) none q.2) 0 0 M 25 [(0, vR l0), (3, vI l3), (4, vI l4)] []) {l0 l3 l4 : Int} {M : Mem} (F : Fx E p s m args meth c cX9_join 7 yX9_join.cls none yX9_join.name) (h : bX9_join_25 k25 l0 l3 l4 M = some q) : G E p l e (rmOf 0 0 0) s m args below meth c 7 (QZ E below args s (rmOf 0 0 0) none q.2) 0 0 M 25 [(0, vR l0), (3, vI l3), (4, vI l4)] [] := by
  unfold bX9_join_25 at h
  refine r_iload (j := 2) F rfl dX9_join_25 ?_
  refine r_bipush F rfl (by decide) dX9_join_27 ?_
  refine r_icmp_ge (tgt := 64) F (by decide) dX9_join_29 (fun hc => ?_) (fun hc => ?_)
  · replace h := ite_p h hc
    obtain rfl := Option.some.inj h
    exact r_vret F dX9_join_64
  · replace h := ite_n h hc
    refine r_aload_n (j := 0) F rfl rfl dX9_join_32 ?_
    replace h := bind_so h
    obtain ⟨a33, h33, h⟩ := h
    refine r_getT (t := 2) rfl clok_9 F (by decide) h33 tw_1342 dX9_join_33 ?_
    refine r_iload_n (j := 1) F rfl rfl dX9_join_36 ?_
    refine r_iload (j := 2) F rfl dX9_join_37 ?_
    refine r_iadd F dX9_join_39 ?_
    refine r_aload_n (j := 0) F rfl rfl dX9_join_40 ?_
    replace h := bind_so h
    obtain ⟨a41, h41, h⟩ := h
    refine r_getT (t := 2) rfl clok_9 F (by decide) h41 tw_1342 dX9_join_41 ?_
    refine r_iload_n (j := 1) F rfl rfl dX9_join_44 ?_
    refine r_iload (j := 2) F rfl dX9_join_45 ?_
    refine r_iadd F dX9_join_47 ?_
    replace h := bind_so h
    obtain ⟨a48, h48, h⟩ := h
    refine r_zald F h48 dX9_join_48 ?_
    refine r_if_ne (tgt := 56) F (by decide) dX9_join_49 (fun hc => ?_) (fun hc => ?_)
    · replace h := ite_n h hc
      refine r_iconst F rfl dX9_join_56 ?_
      refine r_sub [0, 1, 2] (ls' := [(0, vR l0), (3, vI l3), (4, vI l4)]) rfl ?_
      exact tX9_join_57 (fun h => hk25 h) F h
    · replace h := ite_p h hc
      refine r_iconst F rfl dX9_join_52 ?_
      refine r_goto (tgt := 57) F (by decide) dX9_join_53 ?_
      refine r_sub [0, 1, 2] (ls' := [(0, vR l0), (3, vI l3), (4, vI l4)]) rfl ?_
      exact tX9_join_57 (fun h => hk25 h) F h
theorem tX9_join_25 {E : En} {p : Program} {l : Launch} {e : Env} {s : State} {m : MethodId} {args : Array Value} {below : List Frame} {meth : Method} {c : Code} {q : Int × Mem} (F : Fx E p s m args meth c cX9_join 7 yX9_join.cls none yX9_join.name) : ∀ {fu : Nat} {l0 l3 l4 : Int} {M : Mem}, mX9_join_25 fu l0 l3 l4 M = some q → G E p l e (rmOf 0 0 0) s m args below meth c 7 (QZ E below args s (rmOf 0 0 0) none q.2) 0 0 M 25 [(0, vR l0), (3, vI l3), (4, vI l4)] [] := by
  intro fu
  induction fu with
  | zero => intro l0 l3 l4 M h; exact nomatch (show (none : Option (Int × Mem)) = some q from h)
  | succ fu ih => intro l0 l3 l4 M h; exact tbX9_join_25  (fun h => ih h) F h
theorem tX9_join {l0 l1 : Int} {M : Mem} {q : Int × Mem} (h : mX9_join l0 l1 M = some q) : Ct 0 0 0 yX9_join cX9_join 7 none [vR l0, vI l1] M none q.2 := by
  unfold mX9_join at h
  refine Ct.of (by decide) (Nat.le_of_ble_eq_true rfl) ?_
  intro E p l e s m args below meth c F
  refine r_sub [0, 1] (ls' := [(0, vR l0), (1, vI l1)]) rfl ?_
  refine r_aload_n (j := 0) F rfl rfl dX9_join_0 ?_
  replace h := bind_so h
  obtain ⟨a1, h1, h⟩ := h
  refine r_getT (t := 2) rfl clok_9 F (by decide) h1 tw_1313 dX9_join_1 ?_
  refine r_iload_n (j := 1) F rfl rfl dX9_join_4 ?_
  replace h := bind_so h
  obtain ⟨a5, h5, h⟩ := h
  refine r_iald F h5 dX9_join_5 ?_
  refine r_istore_n (ls' := [(2, vI a5), (0, vR l0), (1, vI l1)]) F rfl (by decide) rfl dX9_join_6 ?_
  refine r_bipush F rfl (by decide) dX9_join_7 ?_
  refine r_aload_n (j := 1) F rfl rfl dX9_join_9 ?_
  replace h := bind_so h
  obtain ⟨a10, h10, h⟩ := h
  refine r_getT (t := 0) rfl clok_9 F (by decide) h10 tw_1343 dX9_join_10 ?_
  refine r_iconst F rfl dX9_join_13 ?_
  refine r_isub F dX9_join_14 ?_
  refine r_imul F dX9_join_15 ?_
  replace h := bind_so h
  obtain ⟨b16, e16, h⟩ := h
  refine r_eq (y := b16) (Option.some.inj e16) ?_
  refine r_istore_n (ls' := [(3, vI b16), (2, vI a5), (0, vR l0), (1, vI l1)]) F rfl (by decide) rfl dX9_join_16 ?_
  refine r_iload_n (j := 1) F rfl rfl dX9_join_17 ?_
  refine r_iconst F rfl dX9_join_18 ?_
  refine r_icmp_ne (tgt := 65) F (by decide) dX9_join_19 (fun hc => ?_) (fun hc => ?_)
  · replace h := ite_n h hc
    refine r_aload_n (j := 2) F rfl rfl dX9_join_65 ?_
    refine r_dup1 F rfl dX9_join_66 ?_
    replace h := bind_so h
    obtain ⟨a67, h67, h⟩ := h
    refine r_getT (t := 0) rfl clok_9 F (by decide) h67 tw_1343 dX9_join_67 ?_
    refine r_iconst F rfl dX9_join_70 ?_
    refine r_isub F dX9_join_71 ?_
    replace h := bind_so h
    obtain ⟨M72, h72, h⟩ := h
    refine r_put clok_9 F (by decide) rfl (by decide) (by decide) h72 tw_1343 dX9_join_72 ?_
    refine r_iconst F rfl dX9_join_75 ?_
    refine r_istore (ls' := [(4, vI 0), (3, vI b16), (2, vI a5), (0, vR l0), (1, vI l1)]) F (by decide) rfl dX9_join_76 ?_
    refine r_sub [3, 2, 1, 0] (ls' := [(0, vR l0), (2, vI a5), (3, vI b16), (4, vI 0)]) rfl ?_
    exact tX9_join_78 F h
  · replace h := ite_p h hc
    refine r_iconst F rfl dX9_join_22 ?_
    refine r_istore (ls' := [(4, vI 0), (3, vI b16), (2, vI a5), (0, vR l0), (1, vI l1)]) F (by decide) rfl dX9_join_23 ?_
    refine r_sub [3, 1, 0] (ls' := [(0, vR l0), (3, vI b16), (4, vI 0)]) rfl ?_
    exact tX9_join_25 F h
theorem tX9_work_74 {E : En} {p : Program} {l : Launch} {e : Env} {s : State} {m : MethodId} {args : Array Value} {below : List Frame} {meth : Method} {c : Code} {q : Int × Mem} {k14 : Int → Int → Int → Int → Mem → Option (Int × Mem)} (hk14 : ∀ {l0 l1 l2 l3 : Int} {M : Mem}, k14 l0 l1 l2 l3 M = some q → G E p l e (rmOf 6 0 0) s m args below meth c 5 (QZ E below args s (rmOf 6 0 0) none q.2) 0 0 M 14 [(0, vR l0), (1, vI l1), (2, vI l2), (3, vI l3)] []) {l0 l1 l2 l3 : Int} {M : Mem} (F : Fx E p s m args meth c cX9_work 5 yX9_work.cls none yX9_work.name) (h : mX9_work_74 k14 l0 l1 l2 l3 M = some q) : G E p l e (rmOf 6 0 0) s m args below meth c 5 (QZ E below args s (rmOf 6 0 0) none q.2) 0 0 M 74 [(0, vR l0), (1, vI l1), (2, vI l2), (3, vI l3)] [] := by
  unfold mX9_work_74 at h
  refine r_iinc (j := 3) (ls' := [(3, vI (wI (l3 + (-1)))), (0, vR l0), (1, vI l1), (2, vI l2)]) F rfl (by decide) rfl dX9_work_74 ?_
  refine r_goto (tgt := 14) F (by decide) dX9_work_77 ?_
  refine r_sub [1, 2, 3, 0] (ls' := [(0, vR l0), (1, vI l1), (2, vI l2), (3, vI (wI (l3 + (-1))))]) rfl ?_
  exact hk14 h
theorem tbX9_work_14 {E : En} {p : Program} {l : Launch} {e : Env} {s : State} {m : MethodId} {args : Array Value} {below : List Frame} {meth : Method} {c : Code} {q : Int × Mem} {k14 : Int → Int → Int → Int → Mem → Option (Int × Mem)} (hk14 : ∀ {l0 l1 l2 l3 : Int} {M : Mem}, k14 l0 l1 l2 l3 M = some q → G E p l e (rmOf 6 0 0) s m args below meth c 5 (QZ E below args s (rmOf 6 0 0) none q.2) 0 0 M 14 [(0, vR l0), (1, vI l1), (2, vI l2), (3, vI l3)] []) {l0 l1 l2 l3 : Int} {M : Mem} (F : Fx E p s m args meth c cX9_work 5 yX9_work.cls none yX9_work.name) (h : bX9_work_14 k14 l0 l1 l2 l3 M = some q) : G E p l e (rmOf 6 0 0) s m args below meth c 5 (QZ E below args s (rmOf 6 0 0) none q.2) 0 0 M 14 [(0, vR l0), (1, vI l1), (2, vI l2), (3, vI l3)] [] := by
  unfold bX9_work_14 at h
  refine r_iload_n (j := 3) F rfl rfl dX9_work_14 ?_
  refine r_iload_n (j := 2) F rfl rfl dX9_work_15 ?_
  refine r_icmp_lt (tgt := 80) F (by decide) dX9_work_16 (fun hc => ?_) (fun hc => ?_)
  · replace h := ite_p h hc
    obtain rfl := Option.some.inj h
    exact r_vret F dX9_work_80
  · replace h := ite_n h hc
    refine r_bipush F rfl (by decide) dX9_work_19 ?_
    refine r_iload_n (j := 1) F rfl rfl dX9_work_21 ?_
    refine r_imul F dX9_work_22 ?_
    refine r_iload_n (j := 3) F rfl rfl dX9_work_23 ?_
    refine r_iadd F dX9_work_24 ?_
    replace h := bind_so h
    obtain ⟨b25, e25, h⟩ := h
    refine r_eq (y := b25) (Option.some.inj e25) ?_
    refine r_istore (ls' := [(4, vI b25), (0, vR l0), (1, vI l1), (2, vI l2), (3, vI l3)]) F (by decide) rfl dX9_work_25 ?_
    refine r_aload_n (j := 1) F rfl rfl dX9_work_27 ?_
    replace h := bind_so h
    obtain ⟨a28, h28, h⟩ := h
    refine r_getT (t := 2) rfl clok_9 F (by decide) h28 tw_1313 dX9_work_28 ?_
    refine r_iload (j := 0) F rfl dX9_work_31 ?_
    replace h := bind_so h
    obtain ⟨a33, h33, h⟩ := h
    refine r_iald F h33 dX9_work_33 ?_
    refine r_bipush F rfl (by decide) dX9_work_34 ?_
    refine r_icmp_lt (tgt := 48) F (by decide) dX9_work_36 (fun hc => ?_) (fun hc => ?_)
    · replace h := ite_p h hc
      refine r_aload_n (j := 1) F rfl rfl dX9_work_48 ?_
      replace h := bind_so h
      obtain ⟨a49, h49, h⟩ := h
      refine r_getT (t := 2) rfl clok_9 F (by decide) h49 tw_1313 dX9_work_49 ?_
      refine r_iload (j := 0) F rfl dX9_work_52 ?_
      replace h := bind_so h
      obtain ⟨a54, h54, h⟩ := h
      refine r_iald F h54 dX9_work_54 ?_
      refine r_iconst F rfl dX9_work_55 ?_
      refine r_icmp_gt (tgt := 68) F (by decide) dX9_work_56 (fun hc => ?_) (fun hc => ?_)
      · replace h := ite_p h hc
        refine r_aload_n (j := 1) F rfl rfl dX9_work_68 ?_
        refine r_iload (j := 0) F rfl dX9_work_69 ?_
        replace h := bind_so h
        obtain ⟨_, g71, h⟩ := h
        replace h := bind_so h
        obtain ⟨q71, h71, h⟩ := h
        refine r_callV (as := [vI b25]) (rv := none) (kc := 0) (nc := 0) (tX9_join h71) clok_9 F (gK_so g71) tw_1754 tw_1756 tw_93 tw_1757 tw_122 ⟨by decide, by decide, show (parseMethodDescriptor yX9_join.desc).map (fun d => d.parameters.length) = some 1 by decide +kernel⟩ ⟨by decide, by decide⟩ (Nat.le_of_ble_eq_true rfl) dX9_work_71 ?_
        refine r_sub [1, 2, 3, 4] (ls' := [(0, vR l0), (1, vI l1), (2, vI l2), (3, vI l3)]) rfl ?_
        exact tX9_work_74 (fun h => hk14 h) F h
      · replace h := ite_n h hc
        refine r_aload_n (j := 1) F rfl rfl dX9_work_59 ?_
        refine r_iload (j := 0) F rfl dX9_work_60 ?_
        replace h := bind_so h
        obtain ⟨_, g62, h⟩ := h
        replace h := bind_so h
        obtain ⟨q62, h62, h⟩ := h
        refine r_callV (as := [vI b25]) (rv := none) (kc := 0) (nc := 0) (tX9_bind h62) clok_9 F (gK_so g62) tw_1750 tw_1752 tw_92 tw_1753 tw_122 ⟨by decide, by decide, show (parseMethodDescriptor yX9_bind.desc).map (fun d => d.parameters.length) = some 1 by decide +kernel⟩ ⟨by decide, by decide⟩ (Nat.le_of_ble_eq_true rfl) dX9_work_62 ?_
        refine r_goto (tgt := 74) F (by decide) dX9_work_65 ?_
        refine r_sub [1, 2, 3, 4] (ls' := [(0, vR l0), (1, vI l1), (2, vI l2), (3, vI l3)]) rfl ?_
        exact tX9_work_74 (fun h => hk14 h) F h
    · replace h := ite_n h hc
      refine r_aload_n (j := 1) F rfl rfl dX9_work_39 ?_
      refine r_iload (j := 0) F rfl dX9_work_40 ?_
      replace h := bind_so h
      obtain ⟨_, g42, h⟩ := h
      replace h := bind_so h
      obtain ⟨q42, h42, h⟩ := h
      refine r_callV (as := [vI b25]) (rv := none) (kc := 0) (nc := 0) (tX9_leaf h42) clok_9 F (gK_so g42) tw_1728 tw_1730 tw_88 tw_1731 tw_122 ⟨by decide, by decide, show (parseMethodDescriptor yX9_leaf.desc).map (fun d => d.parameters.length) = some 1 by decide +kernel⟩ ⟨by decide, by decide⟩ (Nat.le_of_ble_eq_true rfl) dX9_work_42 ?_
      refine r_goto (tgt := 74) F (by decide) dX9_work_45 ?_
      refine r_sub [1, 2, 3, 4] (ls' := [(0, vR l0), (1, vI l1), (2, vI l2), (3, vI l3)]) rfl ?_
      exact tX9_work_74 (fun h => hk14 h) F h
theorem tX9_work_14 {E : En} {p : Program} {l : Launch} {e : Env} {s : State} {m : MethodId} {args : Array Value} {below : List Frame} {meth : Method} {c : Code} {q : Int × Mem} (F : Fx E p s m args meth c cX9_work 5 yX9_work.cls none yX9_work.name) : ∀ {fu : Nat} {l0 l1 l2 l3 : Int} {M : Mem}, mX9_work_14 fu l0 l1 l2 l3 M = some q → G E p l e (rmOf 6 0 0) s m args below meth c 5 (QZ E below args s (rmOf 6 0 0) none q.2) 0 0 M 14 [(0, vR l0), (1, vI l1), (2, vI l2), (3, vI l3)] [] := by
  intro fu
  induction fu with
  | zero => intro l0 l1 l2 l3 M h; exact nomatch (show (none : Option (Int × Mem)) = some q from h)
  | succ fu ih => intro l0 l1 l2 l3 M h; exact tbX9_work_14  (fun h => ih h) F h
theorem tX9_work {l0 l1 l2 : Int} {M : Mem} {q : Int × Mem} (h : mX9_work l0 l1 l2 M = some q) : Ct 6 0 0 yX9_work cX9_work 5 none [vR l0, vI l1, vI l2] M none q.2 := by
  unfold mX9_work at h
  refine Ct.of (by decide) (Nat.le_of_ble_eq_true rfl) ?_
  intro E p l e s m args below meth c F
  refine r_sub [0, 1, 2] (ls' := [(0, vR l0), (1, vI l1), (2, vI l2)]) rfl ?_
  refine r_aload_n (j := 0) F rfl rfl dX9_work_0 ?_
  refine r_iconst F rfl dX9_work_1 ?_
  replace h := bind_so h
  obtain ⟨M2, h2, h⟩ := h
  refine r_put clok_9 F (by decide) rfl (by decide) (by decide) h2 tw_1343 dX9_work_2 ?_
  refine r_aload_n (j := 0) F rfl rfl dX9_work_5 ?_
  replace h := bind_so h
  obtain ⟨a6, h6, h⟩ := h
  refine r_getT (t := 2) rfl clok_9 F (by decide) h6 tw_1312 dX9_work_6 ?_
  refine r_iload_n (j := 1) F rfl rfl dX9_work_9 ?_
  replace h := bind_so h
  obtain ⟨a10, h10, h⟩ := h
  refine r_iald F h10 dX9_work_10 ?_
  refine r_iconst F rfl dX9_work_11 ?_
  refine r_isub F dX9_work_12 ?_
  refine r_istore_n (ls' := [(3, vI (wI (a10 - 1))), (0, vR l0), (1, vI l1), (2, vI l2)]) F rfl (by decide) rfl dX9_work_13 ?_
  refine r_sub [1, 2, 3, 0] (ls' := [(0, vR l0), (1, vI l1), (2, vI l2), (3, vI (wI (a10 - 1)))]) rfl ?_
  exact tX9_work_14 F h
theorem tX9_means {l0 l1 : Int} {M : Mem} {q : Int × Mem} (h : mX9_means l0 l1 M = some q) : Ct 7 0 0 yX9_means cX9_means 2 (some FieldType.boolean) [vR l0, vI l1] M (some (vI q.1)) q.2 := by
  unfold mX9_means at h
  refine Ct.of (by decide) (Nat.le_of_ble_eq_true rfl) ?_
  intro E p l e s m args below meth c F
  refine r_sub [0, 1] (ls' := [(0, vR l0), (1, vI l1)]) rfl ?_
  refine r_aload_n (j := 0) F rfl rfl dX9_means_0 ?_
  refine r_iload_n (j := 1) F rfl rfl dX9_means_1 ?_
  refine r_iconst F rfl dX9_means_2 ?_
  replace h := bind_so h
  obtain ⟨_, g3, h⟩ := h
  replace h := bind_so h
  obtain ⟨q3, h3, h⟩ := h
  refine r_callV (as := [vI l1, vI 0]) (rv := none) (kc := 0) (nc := 0) (tX9_work h3) clok_9 F (gK_so g3) tw_1724 tw_1726 tw_87 tw_1727 tw_122 ⟨by decide, by decide, show (parseMethodDescriptor yX9_work.desc).map (fun d => d.parameters.length) = some 2 by decide +kernel⟩ ⟨by decide, by decide⟩ (Nat.le_of_ble_eq_true rfl) dX9_means_3 ?_
  refine r_aload_n (j := 0) F rfl rfl dX9_means_6 ?_
  replace h := bind_so h
  obtain ⟨a7, h7, h⟩ := h
  refine r_getT (t := 2) rfl clok_9 F (by decide) h7 tw_1342 dX9_means_7 ?_
  refine r_iconst F rfl dX9_means_10 ?_
  replace h := bind_so h
  obtain ⟨a11, h11, h⟩ := h
  refine r_zald F h11 dX9_means_11 ?_
  replace h := bind_so h
  obtain ⟨z, hz, h⟩ := h
  obtain ⟨hz1, rfl⟩ := ite_so hz
  obtain rfl := Option.some.inj h
  exact r_zret hz1 F dX9_means_12
theorem tX9_so_53 {E : En} {p : Program} {l : Launch} {e : Env} {s : State} {m : MethodId} {args : Array Value} {below : List Frame} {meth : Method} {c : Code} {q : Int × Mem} {l0 l2 : Int} {M : Mem} (F : Fx E p s m args meth c cX9_so 3 yX9_so.cls (some FieldType.int) yX9_so.name) (h : mX9_so_53 l0 l2 M = some q) : G E p l e (rmOf 8 0 0) s m args below meth c 3 (QZ E below args s (rmOf 8 0 0) (some (vI q.1)) q.2) 0 0 M 53 [(0, vR l0), (2, vI l2)] [] := by
  unfold mX9_so_53 at h
  refine r_aload_n (j := 0) F rfl rfl dX9_so_53 ?_
  replace h := bind_so h
  obtain ⟨_, g54, h⟩ := h
  replace h := bind_so h
  obtain ⟨q54, h54, h⟩ := h
  refine r_callV (as := []) (rv := none) (kc := 0) (nc := 0) (tX9_bringWorld h54) clok_9 F (gK_so g54) tw_1716 tw_1718 tw_85 tw_1719 tw_122 ⟨by decide, by decide, show (parseMethodDescriptor yX9_bringWorld.desc).map (fun d => d.parameters.length) = some 0 by decide +kernel⟩ ⟨by decide, by decide⟩ (Nat.le_of_ble_eq_true rfl) dX9_so_54 ?_
  refine r_aload_n (j := 0) F rfl rfl dX9_so_57 ?_
  refine r_iload_n (j := 1) F rfl rfl dX9_so_58 ?_
  replace h := bind_so h
  obtain ⟨_, g59, h⟩ := h
  replace h := bind_so h
  obtain ⟨q59, h59, h⟩ := h
  refine r_callV (as := [vI l2]) (rv := (some (vI q59.1))) (kc := 0) (nc := 0) (tX9_means h59) clok_9 F (gK_so g59) tw_1720 tw_1722 tw_86 tw_1723 tw_122 ⟨by decide, by decide, show (parseMethodDescriptor yX9_means.desc).map (fun d => d.parameters.length) = some 1 by decide +kernel⟩ ⟨by decide, by decide⟩ (Nat.le_of_ble_eq_true rfl) dX9_so_59 ?_
  refine r_if_eq (tgt := 69) F (by decide) dX9_so_62 (fun hc => ?_) (fun hc => ?_)
  · replace h := ite_p h hc
    refine r_iconst F rfl dX9_so_69 ?_
    obtain rfl := Option.some.inj h
    exact r_iret F dX9_so_70
  · replace h := ite_n h hc
    refine r_iconst F rfl dX9_so_65 ?_
    refine r_goto (tgt := 70) F (by decide) dX9_so_66 ?_
    obtain rfl := Option.some.inj h
    exact r_iret F dX9_so_70
theorem tX9_so_16 {E : En} {p : Program} {l : Launch} {e : Env} {s : State} {m : MethodId} {args : Array Value} {below : List Frame} {meth : Method} {c : Code} {q : Int × Mem} {l0 l1 s0 : Int} {M : Mem} (F : Fx E p s m args meth c cX9_so 3 yX9_so.cls (some FieldType.int) yX9_so.name) (h : mX9_so_16 l0 l1 s0 M = some q) : G E p l e (rmOf 8 0 0) s m args below meth c 3 (QZ E below args s (rmOf 8 0 0) (some (vI q.1)) q.2) 0 0 M 16 [(0, vR l0), (1, vI l1)] [vI s0] := by
  unfold mX9_so_16 at h
  refine r_istore_n (ls' := [(2, vI s0), (0, vR l0), (1, vI l1)]) F rfl (by decide) rfl dX9_so_16 ?_
  refine r_iload_n (j := 2) F rfl rfl dX9_so_17 ?_
  refine r_iconst F rfl dX9_so_18 ?_
  refine r_icmp_ne (tgt := 35) F (by decide) dX9_so_19 (fun hc => ?_) (fun hc => ?_)
  · replace h := ite_n h hc
    refine r_iload_n (j := 2) F rfl rfl dX9_so_35 ?_
    refine r_iconst F rfl dX9_so_36 ?_
    refine r_aload_n (j := 1) F rfl rfl dX9_so_37 ?_
    replace h := bind_so h
    obtain ⟨a38, h38, h⟩ := h
    refine r_getT (t := 2) rfl clok_9 F (by decide) h38 tw_1309 dX9_so_38 ?_
    refine r_iconst F rfl dX9_so_41 ?_
    replace h := bind_so h
    obtain ⟨a42, h42, h⟩ := h
    refine r_iald F h42 dX9_so_42 ?_
    refine r_iconst F rfl dX9_so_43 ?_
    refine r_isub F dX9_so_44 ?_
    replace h := bind_so h
    obtain ⟨q45, h45, h⟩ := h
    refine r_callS (as := [vI l1, vI 0, vI (wI (a42 - 1))]) (rv := (some (vI q45.1))) (kc := 0) (nc := 0) (tX9_in h45) F tw_1491 tw_1492 tw_1493 tw_122 ⟨by decide, by decide, show (parseMethodDescriptor yX9_in.desc).map (fun d => d.parameters.length) = some 3 by decide +kernel⟩ ⟨by decide, by decide⟩ (Nat.le_of_ble_eq_true rfl) dX9_so_45 ?_
    refine r_if_ne (tgt := 53) F (by decide) dX9_so_48 (fun hc => ?_) (fun hc => ?_)
    · replace h := ite_n h hc
      refine r_sub [1, 0] (ls' := [(0, vR l0), (2, vI s0)]) rfl ?_
      exact tX9_so_53 F h
    · replace h := ite_p h hc
      refine r_iconst F rfl dX9_so_51 ?_
      obtain rfl := Option.some.inj h
      exact r_iret F dX9_so_52
  · replace h := ite_p h hc
    refine r_aload_n (j := 1) F rfl rfl dX9_so_22 ?_
    replace h := bind_so h
    obtain ⟨a23, h23, h⟩ := h
    refine r_getT (t := 2) rfl clok_9 F (by decide) h23 tw_1312 dX9_so_23 ?_
    refine r_bipush F rfl (by decide) dX9_so_26 ?_
    replace h := bind_so h
    obtain ⟨a28, h28, h⟩ := h
    refine r_iald F h28 dX9_so_28 ?_
    refine r_if_ne (tgt := 53) F (by decide) dX9_so_29 (fun hc => ?_) (fun hc => ?_)
    · replace h := ite_n h hc
      refine r_sub [1, 0] (ls' := [(0, vR l0), (2, vI s0)]) rfl ?_
      exact tX9_so_53 F h
    · replace h := ite_p h hc
      refine r_goto (tgt := 51) F (by decide) dX9_so_32 ?_
      refine r_iconst F rfl dX9_so_51 ?_
      obtain rfl := Option.some.inj h
      exact r_iret F dX9_so_52
theorem tX9_so {l0 l1 : Int} {M : Mem} {q : Int × Mem} (h : mX9_so l0 l1 M = some q) : Ct 8 0 0 yX9_so cX9_so 3 (some FieldType.int) [vR l0, vI l1] M (some (vI q.1)) q.2 := by
  unfold mX9_so at h
  refine Ct.of (by decide) (Nat.le_of_ble_eq_true rfl) ?_
  intro E p l e s m args below meth c F
  refine r_sub [0, 1] (ls' := [(0, vR l0), (1, vI l1)]) rfl ?_
  refine r_aload_n (j := 0) F rfl rfl dX9_so_0 ?_
  refine r_iconst F rfl dX9_so_1 ?_
  replace h := bind_so h
  obtain ⟨M2, h2, h⟩ := h
  refine r_put clok_9 F (by decide) rfl (by decide) (by decide) h2 tw_1297 dX9_so_2 ?_
  refine r_iload_n (j := 1) F rfl rfl dX9_so_5 ?_
  refine r_iconst F rfl dX9_so_6 ?_
  refine r_icmp_ne (tgt := 15) F (by decide) dX9_so_7 (fun hc => ?_) (fun hc => ?_)
  · replace h := ite_n h hc
    refine r_iload_n (j := 1) F rfl rfl dX9_so_15 ?_
    refine r_sub [0, 1] (ls' := [(0, vR l0), (1, vI l1)]) rfl ?_
    exact tX9_so_16 F h
  · replace h := ite_p h hc
    refine r_bipush F rfl (by decide) dX9_so_10 ?_
    refine r_goto (tgt := 16) F (by decide) dX9_so_12 ?_
    refine r_sub [0, 1] (ls' := [(0, vR l0), (1, vI l1)]) rfl ?_
    exact tX9_so_16 F h
theorem tX9_breaks_234 {E : En} {p : Program} {l : Launch} {e : Env} {s : State} {m : MethodId} {args : Array Value} {below : List Frame} {meth : Method} {c : Code} {q : Int × Mem} {k103 : Int → Int → Int → Int → Int → Int → Mem → Option (Int × Mem)} {k128 : Int → Int → Int → Int → Int → Int → Int → Int → Int → Int → Int → Mem → Option (Int × Mem)} (hk103 : ∀ {l0 l1 l2 l3 l4 l5 : Int} {M : Mem}, k103 l0 l1 l2 l3 l4 l5 M = some q → G E p l e (rmOf 8 0 0) s m args below meth c 14 (QZ E below args s (rmOf 8 0 0) (some (vI q.1)) q.2) 0 0 M 103 [(0, vR l0), (1, vI l1), (2, vI l2), (3, vI l3), (4, vI l4), (5, vI l5)] []) (hk128 : ∀ {l0 l1 l2 l3 l4 l5 l6 l7 l8 l9 l10 : Int} {M : Mem}, k128 l0 l1 l2 l3 l4 l5 l6 l7 l8 l9 l10 M = some q → G E p l e (rmOf 8 0 0) s m args below meth c 14 (QZ E below args s (rmOf 8 0 0) (some (vI q.1)) q.2) 0 0 M 128 [(0, vR l0), (1, vI l1), (2, vI l2), (3, vI l3), (4, vI l4), (5, vI l5), (6, vI l6), (7, vI l7), (8, vI l8), (9, vI l9), (10, vI l10)] []) {l0 l1 l2 l3 l4 l5 l6 l7 l9 l10 s0 : Int} {M : Mem} (F : Fx E p s m args meth c cX9_breaks 14 yX9_breaks.cls (some FieldType.int) yX9_breaks.name) (h : mX9_breaks_234 k103 k128 l0 l1 l2 l3 l4 l5 l6 l7 l9 l10 s0 M = some q) : G E p l e (rmOf 8 0 0) s m args below meth c 14 (QZ E below args s (rmOf 8 0 0) (some (vI q.1)) q.2) 0 0 M 234 [(0, vR l0), (1, vI l1), (2, vI l2), (3, vI l3), (4, vI l4), (5, vI l5), (6, vI l6), (7, vI l7), (9, vI l9), (10, vI l10)] [vI s0] := by
  unfold mX9_breaks_234 at h
  refine r_istore (ls' := [(8, vI s0), (0, vR l0), (1, vI l1), (2, vI l2), (3, vI l3), (4, vI l4), (5, vI l5), (6, vI l6), (7, vI l7), (9, vI l9), (10, vI l10)]) F (by decide) rfl dX9_breaks_234 ?_
  refine r_iinc (j := 10) (ls' := [(10, vI (wI (l10 + (-1)))), (8, vI s0), (0, vR l0), (1, vI l1), (2, vI l2), (3, vI l3), (4, vI l4), (5, vI l5), (6, vI l6), (7, vI l7), (9, vI l9)]) F rfl (by decide) rfl dX9_breaks_236 ?_
  refine r_goto (tgt := 128) F (by decide) dX9_breaks_239 ?_
  refine r_sub [2, 3, 4, 5, 6, 7, 8, 9, 1, 10, 0] (ls' := [(0, vR l0), (1, vI l1), (2, vI l2), (3, vI l3), (4, vI l4), (5, vI l5), (6, vI l6), (7, vI l7), (8, vI s0), (9, vI l9), (10, vI (wI (l10 + (-1))))]) rfl ?_
  exact hk128 h
theorem tX9_breaks_204 {E : En} {p : Program} {l : Launch} {e : Env} {s : State} {m : MethodId} {args : Array Value} {below : List Frame} {meth : Method} {c : Code} {q : Int × Mem} {k103 : Int → Int → Int → Int → Int → Int → Mem → Option (Int × Mem)} {k128 : Int → Int → Int → Int → Int → Int → Int → Int → Int → Int → Int → Mem → Option (Int × Mem)} (hk103 : ∀ {l0 l1 l2 l3 l4 l5 : Int} {M : Mem}, k103 l0 l1 l2 l3 l4 l5 M = some q → G E p l e (rmOf 8 0 0) s m args below meth c 14 (QZ E below args s (rmOf 8 0 0) (some (vI q.1)) q.2) 0 0 M 103 [(0, vR l0), (1, vI l1), (2, vI l2), (3, vI l3), (4, vI l4), (5, vI l5)] []) (hk128 : ∀ {l0 l1 l2 l3 l4 l5 l6 l7 l8 l9 l10 : Int} {M : Mem}, k128 l0 l1 l2 l3 l4 l5 l6 l7 l8 l9 l10 M = some q → G E p l e (rmOf 8 0 0) s m args below meth c 14 (QZ E below args s (rmOf 8 0 0) (some (vI q.1)) q.2) 0 0 M 128 [(0, vR l0), (1, vI l1), (2, vI l2), (3, vI l3), (4, vI l4), (5, vI l5), (6, vI l6), (7, vI l7), (8, vI l8), (9, vI l9), (10, vI l10)] []) {l0 l1 l2 l3 l4 l5 l6 l8 l9 l10 l11 l13 s0 s1 : Int} {M : Mem} (F : Fx E p s m args meth c cX9_breaks 14 yX9_breaks.cls (some FieldType.int) yX9_breaks.name) (h : mX9_breaks_204 k103 k128 l0 l1 l2 l3 l4 l5 l6 l8 l9 l10 l11 l13 s0 s1 M = some q) : G E p l e (rmOf 8 0 0) s m args below meth c 14 (QZ E below args s (rmOf 8 0 0) (some (vI q.1)) q.2) 0 0 M 204 [(0, vR l0), (1, vI l1), (2, vI l2), (3, vI l3), (4, vI l4), (5, vI l5), (6, vI l6), (8, vI l8), (9, vI l9), (10, vI l10), (11, vI l11), (13, vI l13)] [vI s1, vI s0] := by
  unfold mX9_breaks_204 at h
  refine r_iadd F dX9_breaks_204 ?_
  refine r_istore (ls' := [(7, vI (wI (s0 + s1))), (0, vR l0), (1, vI l1), (2, vI l2), (3, vI l3), (4, vI l4), (5, vI l5), (6, vI l6), (8, vI l8), (9, vI l9), (10, vI l10), (11, vI l11), (13, vI l13)]) F (by decide) rfl dX9_breaks_205 ?_
  refine r_iload (j := 9) F rfl dX9_breaks_207 ?_
  refine r_iconst F rfl dX9_breaks_209 ?_
  refine r_aload_n (j := 1) F rfl rfl dX9_breaks_210 ?_
  replace h := bind_so h
  obtain ⟨a211, h211, h⟩ := h
  refine r_getT (t := 2) rfl clok_9 F (by decide) h211 tw_1314 dX9_breaks_211 ?_
  refine r_iload (j := 11) F rfl dX9_breaks_214 ?_
  replace h := bind_so h
  obtain ⟨a216, h216, h⟩ := h
  refine r_iald F h216 dX9_breaks_216 ?_
  refine r_ishl F dX9_breaks_217 ?_
  refine r_ior F dX9_breaks_218 ?_
  refine r_istore (ls' := [(9, vI (ior l9 (ishl 1 a216))), (7, vI (wI (s0 + s1))), (0, vR l0), (1, vI l1), (2, vI l2), (3, vI l3), (4, vI l4), (5, vI l5), (6, vI l6), (8, vI l8), (10, vI l10), (11, vI l11), (13, vI l13)]) F (by decide) rfl dX9_breaks_219 ?_
  refine r_iload (j := 10) F rfl dX9_breaks_221 ?_
  refine r_iload_n (j := 4) F rfl rfl dX9_breaks_223 ?_
  refine r_icmp_ne (tgt := 232) F (by decide) dX9_breaks_224 (fun hc => ?_) (fun hc => ?_)
  · replace h := ite_n h hc
    refine r_iload (j := 9) F rfl dX9_breaks_232 ?_
    refine r_sub [2, 3, 4, 5, 6, 7, 8, 1, 0, 10] (ls' := [(0, vR l0), (1, vI l1), (2, vI l2), (3, vI l3), (4, vI l4), (5, vI l5), (6, vI l6), (7, vI (wI (s0 + s1))), (9, vI (ior l9 (ishl 1 a216))), (10, vI l10)]) rfl ?_
    exact tX9_breaks_234 (fun h => hk103 h) (fun h => hk128 h) F h
  · replace h := ite_p h hc
    refine r_iload (j := 12) F rfl dX9_breaks_227 ?_
    refine r_goto (tgt := 234) F (by decide) dX9_breaks_229 ?_
    refine r_sub [2, 3, 4, 5, 6, 7, 8, 1, 0, 10] (ls' := [(0, vR l0), (1, vI l1), (2, vI l2), (3, vI l3), (4, vI l4), (5, vI l5), (6, vI l6), (7, vI (wI (s0 + s1))), (9, vI (ior l9 (ishl 1 a216))), (10, vI l10)]) rfl ?_
    exact tX9_breaks_234 (fun h => hk103 h) (fun h => hk128 h) F h
theorem tbX9_breaks_128 {E : En} {p : Program} {l : Launch} {e : Env} {s : State} {m : MethodId} {args : Array Value} {below : List Frame} {meth : Method} {c : Code} {q : Int × Mem} {k103 : Int → Int → Int → Int → Int → Int → Mem → Option (Int × Mem)} (hk103 : ∀ {l0 l1 l2 l3 l4 l5 : Int} {M : Mem}, k103 l0 l1 l2 l3 l4 l5 M = some q → G E p l e (rmOf 8 0 0) s m args below meth c 14 (QZ E below args s (rmOf 8 0 0) (some (vI q.1)) q.2) 0 0 M 103 [(0, vR l0), (1, vI l1), (2, vI l2), (3, vI l3), (4, vI l4), (5, vI l5)] []) {k128 : Int → Int → Int → Int → Int → Int → Int → Int → Int → Int → Int → Mem → Option (Int × Mem)} (hk128 : ∀ {l0 l1 l2 l3 l4 l5 l6 l7 l8 l9 l10 : Int} {M : Mem}, k128 l0 l1 l2 l3 l4 l5 l6 l7 l8 l9 l10 M = some q → G E p l e (rmOf 8 0 0) s m args below meth c 14 (QZ E below args s (rmOf 8 0 0) (some (vI q.1)) q.2) 0 0 M 128 [(0, vR l0), (1, vI l1), (2, vI l2), (3, vI l3), (4, vI l4), (5, vI l5), (6, vI l6), (7, vI l7), (8, vI l8), (9, vI l9), (10, vI l10)] []) {l0 l1 l2 l3 l4 l5 l6 l7 l8 l9 l10 : Int} {M : Mem} (F : Fx E p s m args meth c cX9_breaks 14 yX9_breaks.cls (some FieldType.int) yX9_breaks.name) (h : bX9_breaks_128 k103 k128 l0 l1 l2 l3 l4 l5 l6 l7 l8 l9 l10 M = some q) : G E p l e (rmOf 8 0 0) s m args below meth c 14 (QZ E below args s (rmOf 8 0 0) (some (vI q.1)) q.2) 0 0 M 128 [(0, vR l0), (1, vI l1), (2, vI l2), (3, vI l3), (4, vI l4), (5, vI l5), (6, vI l6), (7, vI l7), (8, vI l8), (9, vI l9), (10, vI l10)] [] := by
  unfold bX9_breaks_128 at h
  refine r_iload (j := 10) F rfl dX9_breaks_128 ?_
  refine r_if_lt (tgt := 242) F (by decide) dX9_breaks_130 (fun hc => ?_) (fun hc => ?_)
  · replace h := ite_p h hc
    refine r_aload_n (j := 0) F rfl rfl dX9_breaks_242 ?_
    replace h := bind_so h
    obtain ⟨a243, h243, h⟩ := h
    refine r_getT (t := 2) rfl clok_9 F (by decide) h243 tw_1342 dX9_breaks_243 ?_
    refine r_iload (j := 7) F rfl dX9_breaks_246 ?_
    replace h := bind_so h
    obtain ⟨a248, h248, h⟩ := h
    refine r_zald F h248 dX9_breaks_248 ?_
    refine r_if_ne (tgt := 255) F (by decide) dX9_breaks_249 (fun hc => ?_) (fun hc => ?_)
    · replace h := ite_n h hc
      refine r_iinc (j := 5) (ls' := [(5, vI (wI (l5 + 1))), (0, vR l0), (1, vI l1), (2, vI l2), (3, vI l3), (4, vI l4), (6, vI l6), (7, vI l7), (8, vI l8), (9, vI l9), (10, vI l10)]) F rfl (by decide) rfl dX9_breaks_255 ?_
      refine r_goto (tgt := 103) F (by decide) dX9_breaks_258 ?_
      refine r_sub [1, 2, 3, 4, 5, 0] (ls' := [(0, vR l0), (1, vI l1), (2, vI l2), (3, vI l3), (4, vI l4), (5, vI (wI (l5 + 1)))]) rfl ?_
      exact hk103 h
    · replace h := ite_p h hc
      refine r_iload (j := 8) F rfl dX9_breaks_252 ?_
      obtain rfl := Option.some.inj h
      exact r_iret F dX9_breaks_254
  · replace h := ite_n h hc
    refine r_bipush F rfl (by decide) dX9_breaks_133 ?_
    refine r_iload_n (j := 1) F rfl rfl dX9_breaks_135 ?_
    refine r_imul F dX9_breaks_136 ?_
    refine r_iload (j := 10) F rfl dX9_breaks_137 ?_
    refine r_iadd F dX9_breaks_139 ?_
    replace h := bind_so h
    obtain ⟨b140, e140, h⟩ := h
    refine r_eq (y := b140) (Option.some.inj e140) ?_
    refine r_istore (ls' := [(11, vI b140), (0, vR l0), (1, vI l1), (2, vI l2), (3, vI l3), (4, vI l4), (5, vI l5), (6, vI l6), (7, vI l7), (8, vI l8), (9, vI l9), (10, vI l10)]) F (by decide) rfl dX9_breaks_140 ?_
    refine r_aload_n (j := 1) F rfl rfl dX9_breaks_142 ?_
    replace h := bind_so h
    obtain ⟨a143, h143, h⟩ := h
    refine r_getT (t := 2) rfl clok_9 F (by decide) h143 tw_1323 dX9_breaks_143 ?_
    refine r_aload_n (j := 1) F rfl rfl dX9_breaks_146 ?_
    replace h := bind_so h
    obtain ⟨a147, h147, h⟩ := h
    refine r_getT (t := 2) rfl clok_9 F (by decide) h147 tw_1315 dX9_breaks_147 ?_
    refine r_iload (j := 0) F rfl dX9_breaks_150 ?_
    replace h := bind_so h
    obtain ⟨a152, h152, h⟩ := h
    refine r_iald F h152 dX9_breaks_152 ?_
    replace h := bind_so h
    obtain ⟨a153, h153, h⟩ := h
    refine r_iald F h153 dX9_breaks_153 ?_
    refine r_istore (ls' := [(12, vI a153), (11, vI b140), (0, vR l0), (1, vI l1), (2, vI l2), (3, vI l3), (4, vI l4), (5, vI l5), (6, vI l6), (7, vI l7), (8, vI l8), (9, vI l9), (10, vI l10)]) F (by decide) rfl dX9_breaks_154 ?_
    refine r_iload (j := 8) F rfl dX9_breaks_156 ?_
    refine r_iload (j := 0) F rfl dX9_breaks_158 ?_
    replace h := bind_so h
    obtain ⟨a160, h160, h⟩ := h
    refine r_iremq F h160 dX9_breaks_160 ?_
    refine r_istore (ls' := [(13, vI a160), (12, vI a153), (11, vI b140), (0, vR l0), (1, vI l1), (2, vI l2), (3, vI l3), (4, vI l4), (5, vI l5), (6, vI l6), (7, vI l7), (8, vI l8), (9, vI l9), (10, vI l10)]) F (by decide) rfl dX9_breaks_161 ?_
    refine r_iload (j := 9) F rfl dX9_breaks_163 ?_
    refine r_iload (j := 1) F rfl dX9_breaks_165 ?_
    replace h := bind_so h
    obtain ⟨a167, h167, h⟩ := h
    refine r_idivq F h167 dX9_breaks_167 ?_
    refine r_istore (ls' := [(6, vI a167), (13, vI a160), (12, vI a153), (11, vI b140), (0, vR l0), (1, vI l1), (2, vI l2), (3, vI l3), (4, vI l4), (5, vI l5), (7, vI l7), (8, vI l8), (9, vI l9), (10, vI l10)]) F (by decide) rfl dX9_breaks_168 ?_
    refine r_iload (j := 10) F rfl dX9_breaks_170 ?_
    refine r_iload (j := 12) F rfl dX9_breaks_172 ?_
    refine r_aload_n (j := 4) F rfl rfl dX9_breaks_174 ?_
    replace h := bind_so h
    obtain ⟨a175, h175, h⟩ := h
    refine r_getT (t := 2) rfl clok_9 F (by decide) h175 tw_1314 dX9_breaks_175 ?_
    refine r_iload (j := 3) F rfl dX9_breaks_178 ?_
    replace h := bind_so h
    obtain ⟨a180, h180, h⟩ := h
    refine r_iald F h180 dX9_breaks_180 ?_
    refine r_ishr F dX9_breaks_181 ?_
    refine r_iconst F rfl dX9_breaks_182 ?_
    refine r_iand F dX9_breaks_183 ?_
    refine r_if_ne (tgt := 203) F (by decide) dX9_breaks_184 (fun hc => ?_) (fun hc => ?_)
    · replace h := ite_n h hc
      refine r_iconst F rfl dX9_breaks_203 ?_
      refine r_sub [4, 5, 6, 7, 8, 9, 0, 11, 12, 13, 3, 1] (ls' := [(0, vR l0), (1, vI l1), (2, vI l2), (3, vI l3), (4, vI l4), (5, vI l5), (6, vI a167), (8, vI l8), (9, vI l9), (10, vI l10), (11, vI b140), (13, vI a160)]) rfl ?_
      exact tX9_breaks_204 (fun h => hk103 h) (fun h => hk128 h) F h
    · replace h := ite_p h hc
      refine r_iload (j := 1) F rfl dX9_breaks_187 ?_
      refine r_aload_n (j := 4) F rfl rfl dX9_breaks_189 ?_
      replace h := bind_so h
      obtain ⟨a190, h190, h⟩ := h
      refine r_getT (t := 2) rfl clok_9 F (by decide) h190 tw_1314 dX9_breaks_190 ?_
      refine r_iload (j := 3) F rfl dX9_breaks_193 ?_
      replace h := bind_so h
      obtain ⟨a195, h195, h⟩ := h
      refine r_iald F h195 dX9_breaks_195 ?_
      replace h := bind_so h
      obtain ⟨q196, h196, h⟩ := h
      refine r_callS (as := [vI a195]) (rv := (some (vI q196.1))) (kc := 0) (nc := 0) (tX9_unit h196) F tw_1747 tw_1748 tw_1749 tw_122 ⟨by decide, by decide, show (parseMethodDescriptor yX9_unit.desc).map (fun d => d.parameters.length) = some 1 by decide +kernel⟩ ⟨by decide, by decide⟩ (Nat.le_of_ble_eq_true rfl) dX9_breaks_196 ?_
      refine r_imul F dX9_breaks_199 ?_
      refine r_goto (tgt := 204) F (by decide) dX9_breaks_200 ?_
      refine r_sub [4, 5, 6, 7, 8, 9, 0, 11, 12, 13, 3, 1] (ls' := [(0, vR l0), (1, vI l1), (2, vI l2), (3, vI l3), (4, vI l4), (5, vI l5), (6, vI a167), (8, vI l8), (9, vI l9), (10, vI l10), (11, vI b140), (13, vI a160)]) rfl ?_
      exact tX9_breaks_204 (fun h => hk103 h) (fun h => hk128 h) F h
theorem tX9_breaks_128 {E : En} {p : Program} {l : Launch} {e : Env} {s : State} {m : MethodId} {args : Array Value} {below : List Frame} {meth : Method} {c : Code} {q : Int × Mem} {k103 : Int → Int → Int → Int → Int → Int → Mem → Option (Int × Mem)} (hk103 : ∀ {l0 l1 l2 l3 l4 l5 : Int} {M : Mem}, k103 l0 l1 l2 l3 l4 l5 M = some q → G E p l e (rmOf 8 0 0) s m args below meth c 14 (QZ E below args s (rmOf 8 0 0) (some (vI q.1)) q.2) 0 0 M 103 [(0, vR l0), (1, vI l1), (2, vI l2), (3, vI l3), (4, vI l4), (5, vI l5)] []) (F : Fx E p s m args meth c cX9_breaks 14 yX9_breaks.cls (some FieldType.int) yX9_breaks.name) : ∀ {fu : Nat} {l0 l1 l2 l3 l4 l5 l6 l7 l8 l9 l10 : Int} {M : Mem}, mX9_breaks_128 k103 fu l0 l1 l2 l3 l4 l5 l6 l7 l8 l9 l10 M = some q → G E p l e (rmOf 8 0 0) s m args below meth c 14 (QZ E below args s (rmOf 8 0 0) (some (vI q.1)) q.2) 0 0 M 128 [(0, vR l0), (1, vI l1), (2, vI l2), (3, vI l3), (4, vI l4), (5, vI l5), (6, vI l6), (7, vI l7), (8, vI l8), (9, vI l9), (10, vI l10)] [] := by
  intro fu
  induction fu with
  | zero => intro l0 l1 l2 l3 l4 l5 l6 l7 l8 l9 l10 M h; exact nomatch (show (none : Option (Int × Mem)) = some q from h)
  | succ fu ih => intro l0 l1 l2 l3 l4 l5 l6 l7 l8 l9 l10 M h; exact tbX9_breaks_128 (fun h => hk103 h) (fun h => ih h) F h
theorem tbX9_breaks_103 {E : En} {p : Program} {l : Launch} {e : Env} {s : State} {m : MethodId} {args : Array Value} {below : List Frame} {meth : Method} {c : Code} {q : Int × Mem} {k103 : Int → Int → Int → Int → Int → Int → Mem → Option (Int × Mem)} (hk103 : ∀ {l0 l1 l2 l3 l4 l5 : Int} {M : Mem}, k103 l0 l1 l2 l3 l4 l5 M = some q → G E p l e (rmOf 8 0 0) s m args below meth c 14 (QZ E below args s (rmOf 8 0 0) (some (vI q.1)) q.2) 0 0 M 103 [(0, vR l0), (1, vI l1), (2, vI l2), (3, vI l3), (4, vI l4), (5, vI l5)] []) {l0 l1 l2 l3 l4 l5 : Int} {M : Mem} (F : Fx E p s m args meth c cX9_breaks 14 yX9_breaks.cls (some FieldType.int) yX9_breaks.name) (h : bX9_breaks_103 k103 l0 l1 l2 l3 l4 l5 M = some q) : G E p l e (rmOf 8 0 0) s m args below meth c 14 (QZ E below args s (rmOf 8 0 0) (some (vI q.1)) q.2) 0 0 M 103 [(0, vR l0), (1, vI l1), (2, vI l2), (3, vI l3), (4, vI l4), (5, vI l5)] [] := by
  unfold bX9_breaks_103 at h
  refine r_iload (j := 5) F rfl dX9_breaks_103 ?_
  refine r_iload (j := 4) F rfl dX9_breaks_105 ?_
  refine r_icmp_ge (tgt := 261) F (by decide) dX9_breaks_107 (fun hc => ?_) (fun hc => ?_)
  · replace h := ite_p h hc
    refine r_iconst F rfl dX9_breaks_261 ?_
    obtain rfl := Option.some.inj h
    exact r_iret F dX9_breaks_262
  · replace h := ite_n h hc
    refine r_iload (j := 5) F rfl dX9_breaks_110 ?_
    refine r_istore (ls' := [(6, vI l5), (0, vR l0), (1, vI l1), (2, vI l2), (3, vI l3), (4, vI l4), (5, vI l5)]) F (by decide) rfl dX9_breaks_112 ?_
    refine r_iconst F rfl dX9_breaks_114 ?_
    refine r_istore (ls' := [(7, vI 0), (6, vI l5), (0, vR l0), (1, vI l1), (2, vI l2), (3, vI l3), (4, vI l4), (5, vI l5)]) F (by decide) rfl dX9_breaks_115 ?_
    refine r_iconst F rfl dX9_breaks_117 ?_
    refine r_istore (ls' := [(8, vI 0), (7, vI 0), (6, vI l5), (0, vR l0), (1, vI l1), (2, vI l2), (3, vI l3), (4, vI l4), (5, vI l5)]) F (by decide) rfl dX9_breaks_118 ?_
    refine r_iconst F rfl dX9_breaks_120 ?_
    refine r_istore (ls' := [(9, vI 0), (8, vI 0), (7, vI 0), (6, vI l5), (0, vR l0), (1, vI l1), (2, vI l2), (3, vI l3), (4, vI l4), (5, vI l5)]) F (by decide) rfl dX9_breaks_121 ?_
    refine r_iload_n (j := 7) F rfl rfl dX9_breaks_123 ?_
    refine r_iconst F rfl dX9_breaks_124 ?_
    refine r_isub F dX9_breaks_125 ?_
    refine r_istore (ls' := [(10, vI (wI (l3 - 1))), (9, vI 0), (8, vI 0), (7, vI 0), (6, vI l5), (0, vR l0), (1, vI l1), (2, vI l2), (3, vI l3), (4, vI l4), (5, vI l5)]) F (by decide) rfl dX9_breaks_126 ?_
    refine r_sub [5, 6, 7, 8, 9, 10, 4, 3, 2, 1, 0] (ls' := [(0, vR l0), (1, vI l1), (2, vI l2), (3, vI l3), (4, vI l4), (5, vI l5), (6, vI l5), (7, vI 0), (8, vI 0), (9, vI 0), (10, vI (wI (l3 - 1)))]) rfl ?_
    exact tX9_breaks_128 (fun h => hk103 h) F h
theorem tX9_breaks_103 {E : En} {p : Program} {l : Launch} {e : Env} {s : State} {m : MethodId} {args : Array Value} {below : List Frame} {meth : Method} {c : Code} {q : Int × Mem} (F : Fx E p s m args meth c cX9_breaks 14 yX9_breaks.cls (some FieldType.int) yX9_breaks.name) : ∀ {fu : Nat} {l0 l1 l2 l3 l4 l5 : Int} {M : Mem}, mX9_breaks_103 fu l0 l1 l2 l3 l4 l5 M = some q → G E p l e (rmOf 8 0 0) s m args below meth c 14 (QZ E below args s (rmOf 8 0 0) (some (vI q.1)) q.2) 0 0 M 103 [(0, vR l0), (1, vI l1), (2, vI l2), (3, vI l3), (4, vI l4), (5, vI l5)] [] := by
  intro fu
  induction fu with
  | zero => intro l0 l1 l2 l3 l4 l5 M h; exact nomatch (show (none : Option (Int × Mem)) = some q from h)
  | succ fu ih => intro l0 l1 l2 l3 l4 l5 M h; exact tbX9_breaks_103  (fun h => ih h) F h
theorem tbX9_breaks_32 {E : En} {p : Program} {l : Launch} {e : Env} {s : State} {m : MethodId} {args : Array Value} {below : List Frame} {meth : Method} {c : Code} {q : Int × Mem} {k32 : Int → Int → Int → Int → Int → Mem → Option (Int × Mem)} (hk32 : ∀ {l0 l1 l2 l3 l4 : Int} {M : Mem}, k32 l0 l1 l2 l3 l4 M = some q → G E p l e (rmOf 8 0 0) s m args below meth c 14 (QZ E below args s (rmOf 8 0 0) (some (vI q.1)) q.2) 0 0 M 32 [(0, vR l0), (1, vI l1), (2, vI l2), (3, vI l3), (4, vI l4)] []) {l0 l1 l2 l3 l4 : Int} {M : Mem} (F : Fx E p s m args meth c cX9_breaks 14 yX9_breaks.cls (some FieldType.int) yX9_breaks.name) (h : bX9_breaks_32 k32 l0 l1 l2 l3 l4 M = some q) : G E p l e (rmOf 8 0 0) s m args below meth c 14 (QZ E below args s (rmOf 8 0 0) (some (vI q.1)) q.2) 0 0 M 32 [(0, vR l0), (1, vI l1), (2, vI l2), (3, vI l3), (4, vI l4)] [] := by
  unfold bX9_breaks_32 at h
  refine r_aload_n (j := 0) F rfl rfl dX9_breaks_32 ?_
  replace h := bind_so h
  obtain ⟨a33, h33, h⟩ := h
  refine r_getT (t := 2) rfl clok_9 F (by decide) h33 tw_1313 dX9_breaks_33 ?_
  refine r_bipush F rfl (by decide) dX9_breaks_36 ?_
  refine r_iload_n (j := 1) F rfl rfl dX9_breaks_38 ?_
  refine r_imul F dX9_breaks_39 ?_
  refine r_iload_n (j := 3) F rfl rfl dX9_breaks_40 ?_
  refine r_iadd F dX9_breaks_41 ?_
  replace h := bind_so h
  obtain ⟨a42, h42, h⟩ := h
  refine r_iald F h42 dX9_breaks_42 ?_
  refine r_if_ne (tgt := 73) F (by decide) dX9_breaks_43 (fun hc => ?_) (fun hc => ?_)
  · replace h := ite_n h hc
    refine r_iload_n (j := 2) F rfl rfl dX9_breaks_73 ?_
    refine r_iconst F rfl dX9_breaks_74 ?_
    refine r_iload_n (j := 3) F rfl rfl dX9_breaks_75 ?_
    refine r_iconst F rfl dX9_breaks_76 ?_
    refine r_isub F dX9_breaks_77 ?_
    replace h := bind_so h
    obtain ⟨q78, h78, h⟩ := h
    refine r_callS (as := [vI l2, vI 0, vI (wI (l3 - 1))]) (rv := (some (vI q78.1))) (kc := 0) (nc := 0) (tX9_in h78) F tw_1491 tw_1492 tw_1493 tw_122 ⟨by decide, by decide, show (parseMethodDescriptor yX9_in.desc).map (fun d => d.parameters.length) = some 3 by decide +kernel⟩ ⟨by decide, by decide⟩ (Nat.le_of_ble_eq_true rfl) dX9_breaks_78 ?_
    refine r_if_eq (tgt := 92) F (by decide) dX9_breaks_81 (fun hc => ?_) (fun hc => ?_)
    · replace h := ite_p h hc
      refine r_iconst F rfl dX9_breaks_92 ?_
      obtain rfl := Option.some.inj h
      exact r_iret F dX9_breaks_93
    · replace h := ite_n h hc
      refine r_aload_n (j := 0) F rfl rfl dX9_breaks_84 ?_
      refine r_iload_n (j := 1) F rfl rfl dX9_breaks_85 ?_
      replace h := bind_so h
      obtain ⟨_, g86, h⟩ := h
      replace h := bind_so h
      obtain ⟨q86, h86, h⟩ := h
      refine r_callV (as := [vI l1]) (rv := (some (vI q86.1))) (kc := 0) (nc := 0) (tX9_means h86) clok_9 F (gK_so g86) tw_1720 tw_1722 tw_86 tw_1723 tw_122 ⟨by decide, by decide, show (parseMethodDescriptor yX9_means.desc).map (fun d => d.parameters.length) = some 1 by decide +kernel⟩ ⟨by decide, by decide⟩ (Nat.le_of_ble_eq_true rfl) dX9_breaks_86 ?_
      refine r_if_eq (tgt := 94) F (by decide) dX9_breaks_89 (fun hc => ?_) (fun hc => ?_)
      · replace h := ite_p h hc
        refine r_aload_n (j := 0) F rfl rfl dX9_breaks_94 ?_
        refine r_iload_n (j := 1) F rfl rfl dX9_breaks_95 ?_
        refine r_iload_n (j := 3) F rfl rfl dX9_breaks_96 ?_
        replace h := bind_so h
        obtain ⟨_, g97, h⟩ := h
        replace h := bind_so h
        obtain ⟨q97, h97, h⟩ := h
        refine r_callV (as := [vI l1, vI l3]) (rv := none) (kc := 0) (nc := 0) (tX9_work h97) clok_9 F (gK_so g97) tw_1724 tw_1726 tw_87 tw_1727 tw_122 ⟨by decide, by decide, show (parseMethodDescriptor yX9_work.desc).map (fun d => d.parameters.length) = some 2 by decide +kernel⟩ ⟨by decide, by decide⟩ (Nat.le_of_ble_eq_true rfl) dX9_breaks_97 ?_
        refine r_iconst F rfl dX9_breaks_100 ?_
        refine r_istore (ls' := [(5, vI 0), (0, vR l0), (1, vI l1), (2, vI l2), (3, vI l3), (4, vI l4)]) F (by decide) rfl dX9_breaks_101 ?_
        refine r_sub [1, 2, 3, 4, 5, 0] (ls' := [(0, vR l0), (1, vI l1), (2, vI l2), (3, vI l3), (4, vI l4), (5, vI 0)]) rfl ?_
        exact tX9_breaks_103 F h
      · replace h := ite_n h hc
        refine r_iconst F rfl dX9_breaks_92 ?_
        obtain rfl := Option.some.inj h
        exact r_iret F dX9_breaks_93
  · replace h := ite_p h hc
    refine r_iload (j := 4) F rfl dX9_breaks_46 ?_
    refine r_aload_n (j := 0) F rfl rfl dX9_breaks_48 ?_
    replace h := bind_so h
    obtain ⟨a49, h49, h⟩ := h
    refine r_getT (t := 2) rfl clok_9 F (by decide) h49 tw_1323 dX9_breaks_49 ?_
    refine r_aload_n (j := 0) F rfl rfl dX9_breaks_52 ?_
    replace h := bind_so h
    obtain ⟨a53, h53, h⟩ := h
    refine r_getT (t := 2) rfl clok_9 F (by decide) h53 tw_1315 dX9_breaks_53 ?_
    refine r_bipush F rfl (by decide) dX9_breaks_56 ?_
    refine r_iload_n (j := 1) F rfl rfl dX9_breaks_58 ?_
    refine r_imul F dX9_breaks_59 ?_
    refine r_iload_n (j := 3) F rfl rfl dX9_breaks_60 ?_
    refine r_iadd F dX9_breaks_61 ?_
    replace h := bind_so h
    obtain ⟨a62, h62, h⟩ := h
    refine r_iald F h62 dX9_breaks_62 ?_
    replace h := bind_so h
    obtain ⟨a63, h63, h⟩ := h
    refine r_iald F h63 dX9_breaks_63 ?_
    refine r_imul F dX9_breaks_64 ?_
    refine r_istore (ls' := [(4, vI (wI (l4 * a63))), (0, vR l0), (1, vI l1), (2, vI l2), (3, vI l3)]) F (by decide) rfl dX9_breaks_65 ?_
    refine r_iinc (j := 4) (ls' := [(3, vI (wI (l3 + 1))), (4, vI (wI (l4 * a63))), (0, vR l0), (1, vI l1), (2, vI l2)]) F rfl (by decide) rfl dX9_breaks_67 ?_
    refine r_goto (tgt := 32) F (by decide) dX9_breaks_70 ?_
    refine r_sub [2, 3, 4, 0, 1] (ls' := [(0, vR l0), (1, vI l1), (2, vI l2), (3, vI (wI (l3 + 1))), (4, vI (wI (l4 * a63)))]) rfl ?_
    exact hk32 h
theorem tX9_breaks_32 {E : En} {p : Program} {l : Launch} {e : Env} {s : State} {m : MethodId} {args : Array Value} {below : List Frame} {meth : Method} {c : Code} {q : Int × Mem} (F : Fx E p s m args meth c cX9_breaks 14 yX9_breaks.cls (some FieldType.int) yX9_breaks.name) : ∀ {fu : Nat} {l0 l1 l2 l3 l4 : Int} {M : Mem}, mX9_breaks_32 fu l0 l1 l2 l3 l4 M = some q → G E p l e (rmOf 8 0 0) s m args below meth c 14 (QZ E below args s (rmOf 8 0 0) (some (vI q.1)) q.2) 0 0 M 32 [(0, vR l0), (1, vI l1), (2, vI l2), (3, vI l3), (4, vI l4)] [] := by
  intro fu
  induction fu with
  | zero => intro l0 l1 l2 l3 l4 M h; exact nomatch (show (none : Option (Int × Mem)) = some q from h)
  | succ fu ih => intro l0 l1 l2 l3 l4 M h; exact tbX9_breaks_32  (fun h => ih h) F h
theorem tX9_breaks {l0 l1 l2 : Int} {M : Mem} {q : Int × Mem} (h : mX9_breaks l0 l1 l2 M = some q) : Ct 8 0 0 yX9_breaks cX9_breaks 14 (some FieldType.int) [vR l0, vI l1, vI l2] M (some (vI q.1)) q.2 := by
  unfold mX9_breaks at h
  refine Ct.of (by decide) (Nat.le_of_ble_eq_true rfl) ?_
  intro E p l e s m args below meth c F
  refine r_sub [0, 1, 2] (ls' := [(0, vR l0), (1, vI l1), (2, vI l2)]) rfl ?_
  refine r_aload_n (j := 0) F rfl rfl dX9_breaks_0 ?_
  refine r_iconst F rfl dX9_breaks_1 ?_
  replace h := bind_so h
  obtain ⟨M2, h2, h⟩ := h
  refine r_put clok_9 F (by decide) rfl (by decide) (by decide) h2 tw_1297 dX9_breaks_2 ?_
  refine r_iload_n (j := 1) F rfl rfl dX9_breaks_5 ?_
  refine r_iconst F rfl dX9_breaks_6 ?_
  refine r_aload_n (j := 0) F rfl rfl dX9_breaks_7 ?_
  replace h := bind_so h
  obtain ⟨a8, h8, h⟩ := h
  refine r_getT (t := 2) rfl clok_9 F (by decide) h8 tw_1309 dX9_breaks_8 ?_
  refine r_iconst F rfl dX9_breaks_11 ?_
  replace h := bind_so h
  obtain ⟨a12, h12, h⟩ := h
  refine r_iald F h12 dX9_breaks_12 ?_
  refine r_iconst F rfl dX9_breaks_13 ?_
  refine r_isub F dX9_breaks_14 ?_
  replace h := bind_so h
  obtain ⟨q15, h15, h⟩ := h
  refine r_callS (as := [vI l1, vI 0, vI (wI (a12 - 1))]) (rv := (some (vI q15.1))) (kc := 0) (nc := 0) (tX9_in h15) F tw_1491 tw_1492 tw_1493 tw_122 ⟨by decide, by decide, show (parseMethodDescriptor yX9_in.desc).map (fun d => d.parameters.length) = some 3 by decide +kernel⟩ ⟨by decide, by decide⟩ (Nat.le_of_ble_eq_true rfl) dX9_breaks_15 ?_
  refine r_if_ne (tgt := 23) F (by decide) dX9_breaks_18 (fun hc => ?_) (fun hc => ?_)
  · replace h := ite_n h hc
    refine r_aload_n (j := 0) F rfl rfl dX9_breaks_23 ?_
    replace h := bind_so h
    obtain ⟨_, g24, h⟩ := h
    replace h := bind_so h
    obtain ⟨q24, h24, h⟩ := h
    refine r_callV (as := []) (rv := none) (kc := 0) (nc := 0) (tX9_bringWorld h24) clok_9 F (gK_so g24) tw_1716 tw_1718 tw_85 tw_1719 tw_122 ⟨by decide, by decide, show (parseMethodDescriptor yX9_bringWorld.desc).map (fun d => d.parameters.length) = some 0 by decide +kernel⟩ ⟨by decide, by decide⟩ (Nat.le_of_ble_eq_true rfl) dX9_breaks_24 ?_
    refine r_iconst F rfl dX9_breaks_27 ?_
    refine r_istore_n (ls' := [(3, vI 0), (0, vR l0), (1, vI l1), (2, vI l2)]) F rfl (by decide) rfl dX9_breaks_28 ?_
    refine r_iconst F rfl dX9_breaks_29 ?_
    refine r_istore (ls' := [(4, vI 1), (3, vI 0), (0, vR l0), (1, vI l1), (2, vI l2)]) F (by decide) rfl dX9_breaks_30 ?_
    refine r_sub [2, 3, 4, 1, 0] (ls' := [(0, vR l0), (1, vI l1), (2, vI l2), (3, vI 0), (4, vI 1)]) rfl ?_
    exact tX9_breaks_32 F h
  · replace h := ite_p h hc
    refine r_iconst F rfl dX9_breaks_21 ?_
    obtain rfl := Option.some.inj h
    exact r_iret F dX9_breaks_22
theorem tX9_layWorld_34 {E : En} {p : Program} {l : Launch} {e : Env} {s : State} {m : MethodId} {args : Array Value} {below : List Frame} {meth : Method} {c : Code} {q : Int × Mem} {k7 : Int → Int → Int → Int → Mem → Option (Int × Mem)} (hk7 : ∀ {l0 l1 l2 l3 : Int} {M : Mem}, k7 l0 l1 l2 l3 M = some q → G E p l e (rmOf 1 0 0) s m args below meth c 4 (QZ E below args s (rmOf 1 0 0) none q.2) 0 0 M 7 [(0, vR l0), (1, vI l1), (2, vI l2), (3, vI l3)] []) {l0 l1 l2 l3 s0 s1 s2 : Int} {M : Mem} (F : Fx E p s m args meth c cX9_layWorld 4 yX9_layWorld.cls none yX9_layWorld.name) (h : mX9_layWorld_34 k7 l0 l1 l2 l3 s0 s1 s2 M = some q) : G E p l e (rmOf 1 0 0) s m args below meth c 4 (QZ E below args s (rmOf 1 0 0) none q.2) 0 0 M 34 [(0, vR l0), (1, vI l1), (2, vI l2), (3, vI l3)] [vI s2, vI s1, vR s0] := by
  unfold mX9_layWorld_34 at h
  replace h := bind_so h
  obtain ⟨M34, h34, h⟩ := h
  refine r_zast F h34 dX9_layWorld_34 ?_
  refine r_iinc (j := 3) (ls' := [(3, vI (wI (l3 + 1))), (0, vR l0), (1, vI l1), (2, vI l2)]) F rfl (by decide) rfl dX9_layWorld_35 ?_
  refine r_goto (tgt := 7) F (by decide) dX9_layWorld_38 ?_
  refine r_sub [1, 2, 3, 0] (ls' := [(0, vR l0), (1, vI l1), (2, vI l2), (3, vI (wI (l3 + 1)))]) rfl ?_
  exact hk7 h
theorem tbX9_layWorld_7 {E : En} {p : Program} {l : Launch} {e : Env} {s : State} {m : MethodId} {args : Array Value} {below : List Frame} {meth : Method} {c : Code} {q : Int × Mem} {k7 : Int → Int → Int → Int → Mem → Option (Int × Mem)} (hk7 : ∀ {l0 l1 l2 l3 : Int} {M : Mem}, k7 l0 l1 l2 l3 M = some q → G E p l e (rmOf 1 0 0) s m args below meth c 4 (QZ E below args s (rmOf 1 0 0) none q.2) 0 0 M 7 [(0, vR l0), (1, vI l1), (2, vI l2), (3, vI l3)] []) {l0 l1 l2 l3 : Int} {M : Mem} (F : Fx E p s m args meth c cX9_layWorld 4 yX9_layWorld.cls none yX9_layWorld.name) (h : bX9_layWorld_7 k7 l0 l1 l2 l3 M = some q) : G E p l e (rmOf 1 0 0) s m args below meth c 4 (QZ E below args s (rmOf 1 0 0) none q.2) 0 0 M 7 [(0, vR l0), (1, vI l1), (2, vI l2), (3, vI l3)] [] := by
  unfold bX9_layWorld_7 at h
  refine r_iload_n (j := 3) F rfl rfl dX9_layWorld_7 ?_
  refine r_iload_n (j := 2) F rfl rfl dX9_layWorld_8 ?_
  refine r_icmp_ge (tgt := 41) F (by decide) dX9_layWorld_9 (fun hc => ?_) (fun hc => ?_)
  · replace h := ite_p h hc
    obtain rfl := Option.some.inj h
    exact r_vret F dX9_layWorld_41
  · replace h := ite_n h hc
    refine r_aload_n (j := 0) F rfl rfl dX9_layWorld_12 ?_
    replace h := bind_so h
    obtain ⟨a13, h13, h⟩ := h
    refine r_getT (t := 2) rfl clok_9 F (by decide) h13 tw_1325 dX9_layWorld_13 ?_
    refine r_iload_n (j := 3) F rfl rfl dX9_layWorld_16 ?_
    refine r_iload_n (j := 1) F rfl rfl dX9_layWorld_17 ?_
    refine r_iload_n (j := 2) F rfl rfl dX9_layWorld_18 ?_
    refine r_iconst F rfl dX9_layWorld_19 ?_
    refine r_isub F dX9_layWorld_20 ?_
    refine r_iload_n (j := 3) F rfl rfl dX9_layWorld_21 ?_
    refine r_isub F dX9_layWorld_22 ?_
    refine r_ishr F dX9_layWorld_23 ?_
    refine r_iconst F rfl dX9_layWorld_24 ?_
    refine r_iand F dX9_layWorld_25 ?_
    refine r_if_eq (tgt := 33) F (by decide) dX9_layWorld_26 (fun hc => ?_) (fun hc => ?_)
    · replace h := ite_p h hc
      refine r_iconst F rfl dX9_layWorld_33 ?_
      refine r_sub [0, 1, 2, 3] (ls' := [(0, vR l0), (1, vI l1), (2, vI l2), (3, vI l3)]) rfl ?_
      exact tX9_layWorld_34 (fun h => hk7 h) F h
    · replace h := ite_n h hc
      refine r_iconst F rfl dX9_layWorld_29 ?_
      refine r_goto (tgt := 34) F (by decide) dX9_layWorld_30 ?_
      refine r_sub [0, 1, 2, 3] (ls' := [(0, vR l0), (1, vI l1), (2, vI l2), (3, vI l3)]) rfl ?_
      exact tX9_layWorld_34 (fun h => hk7 h) F h
theorem tX9_layWorld_7 {E : En} {p : Program} {l : Launch} {e : Env} {s : State} {m : MethodId} {args : Array Value} {below : List Frame} {meth : Method} {c : Code} {q : Int × Mem} (F : Fx E p s m args meth c cX9_layWorld 4 yX9_layWorld.cls none yX9_layWorld.name) : ∀ {fu : Nat} {l0 l1 l2 l3 : Int} {M : Mem}, mX9_layWorld_7 fu l0 l1 l2 l3 M = some q → G E p l e (rmOf 1 0 0) s m args below meth c 4 (QZ E below args s (rmOf 1 0 0) none q.2) 0 0 M 7 [(0, vR l0), (1, vI l1), (2, vI l2), (3, vI l3)] [] := by
  intro fu
  induction fu with
  | zero => intro l0 l1 l2 l3 M h; exact nomatch (show (none : Option (Int × Mem)) = some q from h)
  | succ fu ih => intro l0 l1 l2 l3 M h; exact tbX9_layWorld_7  (fun h => ih h) F h
theorem tX9_layWorld {l0 l1 : Int} {M : Mem} {q : Int × Mem} (h : mX9_layWorld l0 l1 M = some q) : Ct 1 0 0 yX9_layWorld cX9_layWorld 4 none [vR l0, vI l1] M none q.2 := by
  unfold mX9_layWorld at h
  refine Ct.of (by decide) (Nat.le_of_ble_eq_true rfl) ?_
  intro E p l e s m args below meth c F
  refine r_sub [0, 1] (ls' := [(0, vR l0), (1, vI l1)]) rfl ?_
  refine r_aload_n (j := 0) F rfl rfl dX9_layWorld_0 ?_
  replace h := bind_so h
  obtain ⟨_, g1, h⟩ := h
  replace h := bind_so h
  obtain ⟨q1, h1, h⟩ := h
  refine r_callV (as := []) (rv := (some (vI q1.1))) (kc := 0) (nc := 0) (tX9_manyFacts h1) clok_9 F (gK_so g1) tw_1518 tw_1520 tw_58 tw_1521 tw_122 ⟨by decide, by decide, show (parseMethodDescriptor yX9_manyFacts.desc).map (fun d => d.parameters.length) = some 0 by decide +kernel⟩ ⟨by decide, by decide⟩ (Nat.le_of_ble_eq_true rfl) dX9_layWorld_1 ?_
  refine r_istore_n (ls' := [(2, vI q1.1), (0, vR l0), (1, vI l1)]) F rfl (by decide) rfl dX9_layWorld_4 ?_
  refine r_iconst F rfl dX9_layWorld_5 ?_
  refine r_istore_n (ls' := [(3, vI 0), (2, vI q1.1), (0, vR l0), (1, vI l1)]) F rfl (by decide) rfl dX9_layWorld_6 ?_
  refine r_sub [2, 3, 1, 0] (ls' := [(0, vR l0), (1, vI l1), (2, vI q1.1), (3, vI 0)]) rfl ?_
  exact tX9_layWorld_7 F h
theorem tX9_takeWorld_34 {E : En} {p : Program} {l : Launch} {e : Env} {s : State} {m : MethodId} {args : Array Value} {below : List Frame} {meth : Method} {c : Code} {q : Int × Mem} {k7 : Int → Int → Int → Int → Mem → Option (Int × Mem)} (hk7 : ∀ {l0 l1 l2 l3 : Int} {M : Mem}, k7 l0 l1 l2 l3 M = some q → G E p l e (rmOf 1 0 0) s m args below meth c 4 (QZ E below args s (rmOf 1 0 0) none q.2) 0 0 M 7 [(0, vR l0), (1, vI l1), (2, vI l2), (3, vI l3)] []) {l0 l1 l2 l3 s0 s1 s2 : Int} {M : Mem} (F : Fx E p s m args meth c cX9_takeWorld 4 yX9_takeWorld.cls none yX9_takeWorld.name) (h : mX9_takeWorld_34 k7 l0 l1 l2 l3 s0 s1 s2 M = some q) : G E p l e (rmOf 1 0 0) s m args below meth c 4 (QZ E below args s (rmOf 1 0 0) none q.2) 0 0 M 34 [(0, vR l0), (1, vI l1), (2, vI l2), (3, vI l3)] [vI s2, vI s1, vR s0] := by
  unfold mX9_takeWorld_34 at h
  replace h := bind_so h
  obtain ⟨M34, h34, h⟩ := h
  refine r_zast F h34 dX9_takeWorld_34 ?_
  refine r_iinc (j := 3) (ls' := [(3, vI (wI (l3 + 1))), (0, vR l0), (1, vI l1), (2, vI l2)]) F rfl (by decide) rfl dX9_takeWorld_35 ?_
  refine r_goto (tgt := 7) F (by decide) dX9_takeWorld_38 ?_
  refine r_sub [1, 2, 3, 0] (ls' := [(0, vR l0), (1, vI l1), (2, vI l2), (3, vI (wI (l3 + 1)))]) rfl ?_
  exact hk7 h
theorem tbX9_takeWorld_7 {E : En} {p : Program} {l : Launch} {e : Env} {s : State} {m : MethodId} {args : Array Value} {below : List Frame} {meth : Method} {c : Code} {q : Int × Mem} {k7 : Int → Int → Int → Int → Mem → Option (Int × Mem)} (hk7 : ∀ {l0 l1 l2 l3 : Int} {M : Mem}, k7 l0 l1 l2 l3 M = some q → G E p l e (rmOf 1 0 0) s m args below meth c 4 (QZ E below args s (rmOf 1 0 0) none q.2) 0 0 M 7 [(0, vR l0), (1, vI l1), (2, vI l2), (3, vI l3)] []) {l0 l1 l2 l3 : Int} {M : Mem} (F : Fx E p s m args meth c cX9_takeWorld 4 yX9_takeWorld.cls none yX9_takeWorld.name) (h : bX9_takeWorld_7 k7 l0 l1 l2 l3 M = some q) : G E p l e (rmOf 1 0 0) s m args below meth c 4 (QZ E below args s (rmOf 1 0 0) none q.2) 0 0 M 7 [(0, vR l0), (1, vI l1), (2, vI l2), (3, vI l3)] [] := by
  unfold bX9_takeWorld_7 at h
  refine r_iload_n (j := 3) F rfl rfl dX9_takeWorld_7 ?_
  refine r_iload_n (j := 2) F rfl rfl dX9_takeWorld_8 ?_
  refine r_icmp_ge (tgt := 41) F (by decide) dX9_takeWorld_9 (fun hc => ?_) (fun hc => ?_)
  · replace h := ite_p h hc
    obtain rfl := Option.some.inj h
    exact r_vret F dX9_takeWorld_41
  · replace h := ite_n h hc
    refine r_aload_n (j := 0) F rfl rfl dX9_takeWorld_12 ?_
    replace h := bind_so h
    obtain ⟨a13, h13, h⟩ := h
    refine r_getT (t := 2) rfl clok_9 F (by decide) h13 tw_1308 dX9_takeWorld_13 ?_
    refine r_iload_n (j := 3) F rfl rfl dX9_takeWorld_16 ?_
    refine r_iload_n (j := 1) F rfl rfl dX9_takeWorld_17 ?_
    refine r_iload_n (j := 2) F rfl rfl dX9_takeWorld_18 ?_
    refine r_iconst F rfl dX9_takeWorld_19 ?_
    refine r_isub F dX9_takeWorld_20 ?_
    refine r_iload_n (j := 3) F rfl rfl dX9_takeWorld_21 ?_
    refine r_isub F dX9_takeWorld_22 ?_
    refine r_ishr F dX9_takeWorld_23 ?_
    refine r_iconst F rfl dX9_takeWorld_24 ?_
    refine r_iand F dX9_takeWorld_25 ?_
    refine r_if_eq (tgt := 33) F (by decide) dX9_takeWorld_26 (fun hc => ?_) (fun hc => ?_)
    · replace h := ite_p h hc
      refine r_iconst F rfl dX9_takeWorld_33 ?_
      refine r_sub [0, 1, 2, 3] (ls' := [(0, vR l0), (1, vI l1), (2, vI l2), (3, vI l3)]) rfl ?_
      exact tX9_takeWorld_34 (fun h => hk7 h) F h
    · replace h := ite_n h hc
      refine r_iconst F rfl dX9_takeWorld_29 ?_
      refine r_goto (tgt := 34) F (by decide) dX9_takeWorld_30 ?_
      refine r_sub [0, 1, 2, 3] (ls' := [(0, vR l0), (1, vI l1), (2, vI l2), (3, vI l3)]) rfl ?_
      exact tX9_takeWorld_34 (fun h => hk7 h) F h
theorem tX9_takeWorld_7 {E : En} {p : Program} {l : Launch} {e : Env} {s : State} {m : MethodId} {args : Array Value} {below : List Frame} {meth : Method} {c : Code} {q : Int × Mem} (F : Fx E p s m args meth c cX9_takeWorld 4 yX9_takeWorld.cls none yX9_takeWorld.name) : ∀ {fu : Nat} {l0 l1 l2 l3 : Int} {M : Mem}, mX9_takeWorld_7 fu l0 l1 l2 l3 M = some q → G E p l e (rmOf 1 0 0) s m args below meth c 4 (QZ E below args s (rmOf 1 0 0) none q.2) 0 0 M 7 [(0, vR l0), (1, vI l1), (2, vI l2), (3, vI l3)] [] := by
  intro fu
  induction fu with
  | zero => intro l0 l1 l2 l3 M h; exact nomatch (show (none : Option (Int × Mem)) = some q from h)
  | succ fu ih => intro l0 l1 l2 l3 M h; exact tbX9_takeWorld_7  (fun h => ih h) F h
theorem tX9_takeWorld {l0 l1 : Int} {M : Mem} {q : Int × Mem} (h : mX9_takeWorld l0 l1 M = some q) : Ct 1 0 0 yX9_takeWorld cX9_takeWorld 4 none [vR l0, vI l1] M none q.2 := by
  unfold mX9_takeWorld at h
  refine Ct.of (by decide) (Nat.le_of_ble_eq_true rfl) ?_
  intro E p l e s m args below meth c F
  refine r_sub [0, 1] (ls' := [(0, vR l0), (1, vI l1)]) rfl ?_
  refine r_aload_n (j := 0) F rfl rfl dX9_takeWorld_0 ?_
  replace h := bind_so h
  obtain ⟨_, g1, h⟩ := h
  replace h := bind_so h
  obtain ⟨q1, h1, h⟩ := h
  refine r_callV (as := []) (rv := (some (vI q1.1))) (kc := 0) (nc := 0) (tX9_manyFacts h1) clok_9 F (gK_so g1) tw_1518 tw_1520 tw_58 tw_1521 tw_122 ⟨by decide, by decide, show (parseMethodDescriptor yX9_manyFacts.desc).map (fun d => d.parameters.length) = some 0 by decide +kernel⟩ ⟨by decide, by decide⟩ (Nat.le_of_ble_eq_true rfl) dX9_takeWorld_1 ?_
  refine r_istore_n (ls' := [(2, vI q1.1), (0, vR l0), (1, vI l1)]) F rfl (by decide) rfl dX9_takeWorld_4 ?_
  refine r_iconst F rfl dX9_takeWorld_5 ?_
  refine r_istore_n (ls' := [(3, vI 0), (2, vI q1.1), (0, vR l0), (1, vI l1)]) F rfl (by decide) rfl dX9_takeWorld_6 ?_
  refine r_sub [2, 3, 1, 0] (ls' := [(0, vR l0), (1, vI l1), (2, vI q1.1), (3, vI 0)]) rfl ?_
  exact tX9_takeWorld_7 F h
theorem tX9_findKnown_163 {E : En} {p : Program} {l : Launch} {e : Env} {s : State} {m : MethodId} {args : Array Value} {below : List Frame} {meth : Method} {c : Code} {q : Int × Mem} {k43 : Int → Int → Int → Int → Mem → Option (Int × Mem)} (hk43 : ∀ {l0 l1 l2 l3 : Int} {M : Mem}, k43 l0 l1 l2 l3 M = some q → G E p l e (rmOf 2 0 0) s m args below meth c 7 (QZ E below args s (rmOf 2 0 0) none q.2) 0 0 M 43 [(0, vR l0), (1, vI l1), (2, vI l2), (3, vI l3)] []) {l0 l1 l2 l3 : Int} {M : Mem} (F : Fx E p s m args meth c cX9_findKnown 7 yX9_findKnown.cls none yX9_findKnown.name) (h : mX9_findKnown_163 k43 l0 l1 l2 l3 M = some q) : G E p l e (rmOf 2 0 0) s m args below meth c 7 (QZ E below args s (rmOf 2 0 0) none q.2) 0 0 M 163 [(0, vR l0), (1, vI l1), (2, vI l2), (3, vI l3)] [] := by
  unfold mX9_findKnown_163 at h
  refine r_iinc (j := 3) (ls' := [(3, vI (wI (l3 + 1))), (0, vR l0), (1, vI l1), (2, vI l2)]) F rfl (by decide) rfl dX9_findKnown_163 ?_
  refine r_goto (tgt := 43) F (by decide) dX9_findKnown_166 ?_
  refine r_sub [1, 2, 3, 0] (ls' := [(0, vR l0), (1, vI l1), (2, vI l2), (3, vI (wI (l3 + 1)))]) rfl ?_
  exact hk43 h
theorem tX9_findKnown_160 {E : En} {p : Program} {l : Launch} {e : Env} {s : State} {m : MethodId} {args : Array Value} {below : List Frame} {meth : Method} {c : Code} {q : Int × Mem} {k43 : Int → Int → Int → Int → Mem → Option (Int × Mem)} (hk43 : ∀ {l0 l1 l2 l3 : Int} {M : Mem}, k43 l0 l1 l2 l3 M = some q → G E p l e (rmOf 2 0 0) s m args below meth c 7 (QZ E below args s (rmOf 2 0 0) none q.2) 0 0 M 43 [(0, vR l0), (1, vI l1), (2, vI l2), (3, vI l3)] []) {l0 l1 l2 l3 s0 s1 : Int} {M : Mem} (F : Fx E p s m args meth c cX9_findKnown 7 yX9_findKnown.cls none yX9_findKnown.name) (h : mX9_findKnown_160 k43 l0 l1 l2 l3 s0 s1 M = some q) : G E p l e (rmOf 2 0 0) s m args below meth c 7 (QZ E below args s (rmOf 2 0 0) none q.2) 0 0 M 160 [(0, vR l0), (1, vI l1), (2, vI l2), (3, vI l3)] [vI s1, vR s0] := by
  unfold mX9_findKnown_160 at h
  replace h := bind_so h
  obtain ⟨M160, h160, h⟩ := h
  refine r_put clok_9 F (by decide) rfl (by decide) (by decide) h160 tw_1347 dX9_findKnown_160 ?_
  refine r_sub [0, 1, 2, 3] (ls' := [(0, vR l0), (1, vI l1), (2, vI l2), (3, vI l3)]) rfl ?_
  exact tX9_findKnown_163 (fun h => hk43 h) F h
theorem tbX9_findKnown_43 {E : En} {p : Program} {l : Launch} {e : Env} {s : State} {m : MethodId} {args : Array Value} {below : List Frame} {meth : Method} {c : Code} {q : Int × Mem} {k43 : Int → Int → Int → Int → Mem → Option (Int × Mem)} (hk43 : ∀ {l0 l1 l2 l3 : Int} {M : Mem}, k43 l0 l1 l2 l3 M = some q → G E p l e (rmOf 2 0 0) s m args below meth c 7 (QZ E below args s (rmOf 2 0 0) none q.2) 0 0 M 43 [(0, vR l0), (1, vI l1), (2, vI l2), (3, vI l3)] []) {l0 l1 l2 l3 : Int} {M : Mem} (F : Fx E p s m args meth c cX9_findKnown 7 yX9_findKnown.cls none yX9_findKnown.name) (h : bX9_findKnown_43 k43 l0 l1 l2 l3 M = some q) : G E p l e (rmOf 2 0 0) s m args below meth c 7 (QZ E below args s (rmOf 2 0 0) none q.2) 0 0 M 43 [(0, vR l0), (1, vI l1), (2, vI l2), (3, vI l3)] [] := by
  unfold bX9_findKnown_43 at h
  refine r_iload_n (j := 3) F rfl rfl dX9_findKnown_43 ?_
  refine r_aload_n (j := 0) F rfl rfl dX9_findKnown_44 ?_
  replace h := bind_so h
  obtain ⟨a45, h45, h⟩ := h
  refine r_getT (t := 2) rfl clok_9 F (by decide) h45 tw_1317 dX9_findKnown_45 ?_
  refine r_iconst F rfl dX9_findKnown_48 ?_
  replace h := bind_so h
  obtain ⟨a49, h49, h⟩ := h
  refine r_iald F h49 dX9_findKnown_49 ?_
  refine r_icmp_ge (tgt := 169) F (by decide) dX9_findKnown_50 (fun hc => ?_) (fun hc => ?_)
  · replace h := ite_p h hc
    obtain rfl := Option.some.inj h
    exact r_vret F dX9_findKnown_169
  · replace h := ite_n h hc
    refine r_aload_n (j := 0) F rfl rfl dX9_findKnown_53 ?_
    replace h := bind_so h
    obtain ⟨a54, h54, h⟩ := h
    refine r_getT (t := 2) rfl clok_9 F (by decide) h54 tw_1318 dX9_findKnown_54 ?_
    refine r_iload_n (j := 3) F rfl rfl dX9_findKnown_57 ?_
    replace h := bind_so h
    obtain ⟨a58, h58, h⟩ := h
    refine r_iald F h58 dX9_findKnown_58 ?_
    refine r_bipush F rfl (by decide) dX9_findKnown_59 ?_
    replace h := bind_so h
    obtain ⟨a61, h61, h⟩ := h
    refine r_idivq F h61 dX9_findKnown_61 ?_
    refine r_istore (ls' := [(4, vI a61), (0, vR l0), (1, vI l1), (2, vI l2), (3, vI l3)]) F (by decide) rfl dX9_findKnown_62 ?_
    refine r_aload_n (j := 1) F rfl rfl dX9_findKnown_64 ?_
    refine r_iload (j := 0) F rfl dX9_findKnown_65 ?_
    refine r_aload_n (j := 1) F rfl rfl dX9_findKnown_67 ?_
    replace h := bind_so h
    obtain ⟨a68, h68, h⟩ := h
    refine r_getT (t := 2) rfl clok_9 F (by decide) h68 tw_1318 dX9_findKnown_68 ?_
    refine r_iload_n (j := 4) F rfl rfl dX9_findKnown_71 ?_
    replace h := bind_so h
    obtain ⟨a72, h72, h⟩ := h
    refine r_iald F h72 dX9_findKnown_72 ?_
    refine r_iconst F rfl dX9_findKnown_73 ?_
    replace h := bind_so h
    obtain ⟨a74, h74, h⟩ := h
    refine r_idivq F h74 dX9_findKnown_74 ?_
    refine r_iconst F rfl dX9_findKnown_75 ?_
    replace h := bind_so h
    obtain ⟨a76, h76, h⟩ := h
    refine r_iremq F h76 dX9_findKnown_76 ?_
    refine r_aload_n (j := 1) F rfl rfl dX9_findKnown_77 ?_
    replace h := bind_so h
    obtain ⟨a78, h78, h⟩ := h
    refine r_getT (t := 2) rfl clok_9 F (by decide) h78 tw_1318 dX9_findKnown_78 ?_
    refine r_iload_n (j := 4) F rfl rfl dX9_findKnown_81 ?_
    replace h := bind_so h
    obtain ⟨a82, h82, h⟩ := h
    refine r_iald F h82 dX9_findKnown_82 ?_
    refine r_iconst F rfl dX9_findKnown_83 ?_
    replace h := bind_so h
    obtain ⟨a84, h84, h⟩ := h
    refine r_iremq F h84 dX9_findKnown_84 ?_
    replace h := bind_so h
    obtain ⟨_, g85, h⟩ := h
    replace h := bind_so h
    obtain ⟨q85, h85, h⟩ := h
    refine r_callV (as := [vI a61, vI a76, vI a84]) (rv := (some (vI q85.1))) (kc := 0) (nc := 0) (tX9_factAt h85) clok_9 F (gK_so g85) tw_1534 tw_1536 tw_61 tw_1537 tw_122 ⟨by decide, by decide, show (parseMethodDescriptor yX9_factAt.desc).map (fun d => d.parameters.length) = some 3 by decide +kernel⟩ ⟨by decide, by decide⟩ (Nat.le_of_ble_eq_true rfl) dX9_findKnown_85 ?_
    refine r_istore (ls' := [(5, vI q85.1), (4, vI a61), (0, vR l0), (1, vI l1), (2, vI l2), (3, vI l3)]) F (by decide) rfl dX9_findKnown_88 ?_
    refine r_iload (j := 0) F rfl dX9_findKnown_90 ?_
    refine r_iconst F rfl dX9_findKnown_92 ?_
    refine r_icmp_eq (tgt := 163) F (by decide) dX9_findKnown_93 (fun hc => ?_) (fun hc => ?_)
    · replace h := ite_p h hc
      refine r_sub [2, 3, 4, 5] (ls' := [(0, vR l0), (1, vI l1), (2, vI l2), (3, vI l3)]) rfl ?_
      exact tX9_findKnown_163 (fun h => hk43 h) F h
    · replace h := ite_n h hc
      refine r_aload_n (j := 2) F rfl rfl dX9_findKnown_96 ?_
      replace h := bind_so h
      obtain ⟨a97, h97, h⟩ := h
      refine r_getT (t := 2) rfl clok_9 F (by decide) h97 tw_1320 dX9_findKnown_97 ?_
      refine r_iload_n (j := 5) F rfl rfl dX9_findKnown_100 ?_
      replace h := bind_so h
      obtain ⟨a101, h101, h⟩ := h
      refine r_iald F h101 dX9_findKnown_101 ?_
      refine r_iload_n (j := 3) F rfl rfl dX9_findKnown_102 ?_
      refine r_icmp_le (tgt := 109) F (by decide) dX9_findKnown_103 (fun hc => ?_) (fun hc => ?_)
      · replace h := ite_p h hc
        refine r_iconst F rfl dX9_findKnown_109 ?_
        refine r_iload_n (j := 4) F rfl rfl dX9_findKnown_110 ?_
        refine r_iconst F rfl dX9_findKnown_111 ?_
        refine r_isub F dX9_findKnown_112 ?_
        refine r_iload (j := 0) F rfl dX9_findKnown_113 ?_
        refine r_isub F dX9_findKnown_115 ?_
        refine r_ishl F dX9_findKnown_116 ?_
        replace h := bind_so h
        obtain ⟨b117, e117, h⟩ := h
        refine r_eq (y := b117) (Option.some.inj e117) ?_
        refine r_istore (ls' := [(6, vI b117), (5, vI q85.1), (4, vI a61), (0, vR l0), (1, vI l1), (2, vI l2), (3, vI l3)]) F (by decide) rfl dX9_findKnown_117 ?_
        refine r_aload_n (j := 3) F rfl rfl dX9_findKnown_119 ?_
        refine r_dup1 F rfl dX9_findKnown_120 ?_
        replace h := bind_so h
        obtain ⟨a121, h121, h⟩ := h
        refine r_getT (t := 0) rfl clok_9 F (by decide) h121 tw_1346 dX9_findKnown_121 ?_
        refine r_iload (j := 0) F rfl dX9_findKnown_124 ?_
        refine r_ior F dX9_findKnown_126 ?_
        replace h := bind_so h
        obtain ⟨M127, h127, h⟩ := h
        refine r_put clok_9 F (by decide) rfl (by decide) (by decide) h127 tw_1346 dX9_findKnown_127 ?_
        refine r_aload_n (j := 3) F rfl rfl dX9_findKnown_130 ?_
        refine r_aload_n (j := 3) F rfl rfl dX9_findKnown_131 ?_
        replace h := bind_so h
        obtain ⟨a132, h132, h⟩ := h
        refine r_getT (t := 2) rfl clok_9 F (by decide) h132 tw_1319 dX9_findKnown_132 ?_
        refine r_iload_n (j := 6) F rfl rfl dX9_findKnown_135 ?_
        replace h := bind_so h
        obtain ⟨a136, h136, h⟩ := h
        refine r_iald F h136 dX9_findKnown_136 ?_
        refine r_iconst F rfl dX9_findKnown_137 ?_
        refine r_icmp_ne (tgt := 151) F (by decide) dX9_findKnown_138 (fun hc => ?_) (fun hc => ?_)
        · replace h := ite_n h hc
          refine r_aload_n (j := 3) F rfl rfl dX9_findKnown_151 ?_
          replace h := bind_so h
          obtain ⟨a152, h152, h⟩ := h
          refine r_getT (t := 0) rfl clok_9 F (by decide) h152 tw_1347 dX9_findKnown_152 ?_
          refine r_iload (j := 0) F rfl dX9_findKnown_155 ?_
          refine r_iconst F rfl dX9_findKnown_157 ?_
          refine r_ixor F dX9_findKnown_158 ?_
          refine r_iand F dX9_findKnown_159 ?_
          refine r_sub [3, 4, 5, 6] (ls' := [(0, vR l0), (1, vI l1), (2, vI l2), (3, vI l3)]) rfl ?_
          exact tX9_findKnown_160 (fun h => hk43 h) F h
        · replace h := ite_p h hc
          refine r_aload_n (j := 3) F rfl rfl dX9_findKnown_141 ?_
          replace h := bind_so h
          obtain ⟨a142, h142, h⟩ := h
          refine r_getT (t := 0) rfl clok_9 F (by decide) h142 tw_1347 dX9_findKnown_142 ?_
          refine r_iload (j := 0) F rfl dX9_findKnown_145 ?_
          refine r_ior F dX9_findKnown_147 ?_
          refine r_goto (tgt := 160) F (by decide) dX9_findKnown_148 ?_
          refine r_sub [3, 4, 5, 6] (ls' := [(0, vR l0), (1, vI l1), (2, vI l2), (3, vI l3)]) rfl ?_
          exact tX9_findKnown_160 (fun h => hk43 h) F h
      · replace h := ite_n h hc
        refine r_goto (tgt := 163) F (by decide) dX9_findKnown_106 ?_
        refine r_sub [2, 3, 4, 5] (ls' := [(0, vR l0), (1, vI l1), (2, vI l2), (3, vI l3)]) rfl ?_
        exact tX9_findKnown_163 (fun h => hk43 h) F h
theorem tX9_findKnown_43 {E : En} {p : Program} {l : Launch} {e : Env} {s : State} {m : MethodId} {args : Array Value} {below : List Frame} {meth : Method} {c : Code} {q : Int × Mem} (F : Fx E p s m args meth c cX9_findKnown 7 yX9_findKnown.cls none yX9_findKnown.name) : ∀ {fu : Nat} {l0 l1 l2 l3 : Int} {M : Mem}, mX9_findKnown_43 fu l0 l1 l2 l3 M = some q → G E p l e (rmOf 2 0 0) s m args below meth c 7 (QZ E below args s (rmOf 2 0 0) none q.2) 0 0 M 43 [(0, vR l0), (1, vI l1), (2, vI l2), (3, vI l3)] [] := by
  intro fu
  induction fu with
  | zero => intro l0 l1 l2 l3 M h; exact nomatch (show (none : Option (Int × Mem)) = some q from h)
  | succ fu ih => intro l0 l1 l2 l3 M h; exact tbX9_findKnown_43  (fun h => ih h) F h
theorem tX9_findKnown_25 {E : En} {p : Program} {l : Launch} {e : Env} {s : State} {m : MethodId} {args : Array Value} {below : List Frame} {meth : Method} {c : Code} {q : Int × Mem} {l0 s0 : Int} {M : Mem} (F : Fx E p s m args meth c cX9_findKnown 7 yX9_findKnown.cls none yX9_findKnown.name) (h : mX9_findKnown_25 l0 s0 M = some q) : G E p l e (rmOf 2 0 0) s m args below meth c 7 (QZ E below args s (rmOf 2 0 0) none q.2) 0 0 M 25 [(0, vR l0)] [vI s0] := by
  unfold mX9_findKnown_25 at h
  refine r_istore_n (ls' := [(1, vI s0), (0, vR l0)]) F rfl (by decide) rfl dX9_findKnown_25 ?_
  refine r_aload_n (j := 1) F rfl rfl dX9_findKnown_26 ?_
  replace h := bind_so h
  obtain ⟨_, g27, h⟩ := h
  replace h := bind_so h
  obtain ⟨q27, h27, h⟩ := h
  refine r_callV (as := []) (rv := (some (vI q27.1))) (kc := 0) (nc := 0) (tX9_manyFacts h27) clok_9 F (gK_so g27) tw_1518 tw_1520 tw_58 tw_1521 tw_122 ⟨by decide, by decide, show (parseMethodDescriptor yX9_manyFacts.desc).map (fun d => d.parameters.length) = some 0 by decide +kernel⟩ ⟨by decide, by decide⟩ (Nat.le_of_ble_eq_true rfl) dX9_findKnown_27 ?_
  refine r_istore_n (ls' := [(2, vI q27.1), (1, vI s0), (0, vR l0)]) F rfl (by decide) rfl dX9_findKnown_30 ?_
  refine r_aload_n (j := 2) F rfl rfl dX9_findKnown_31 ?_
  refine r_iconst F rfl dX9_findKnown_32 ?_
  replace h := bind_so h
  obtain ⟨M33, h33, h⟩ := h
  refine r_put clok_9 F (by decide) rfl (by decide) (by decide) h33 tw_1346 dX9_findKnown_33 ?_
  refine r_aload_n (j := 2) F rfl rfl dX9_findKnown_36 ?_
  refine r_iconst F rfl dX9_findKnown_37 ?_
  replace h := bind_so h
  obtain ⟨M38, h38, h⟩ := h
  refine r_put clok_9 F (by decide) rfl (by decide) (by decide) h38 tw_1347 dX9_findKnown_38 ?_
  refine r_iconst F rfl dX9_findKnown_41 ?_
  refine r_istore_n (ls' := [(3, vI 0), (2, vI q27.1), (1, vI s0), (0, vR l0)]) F rfl (by decide) rfl dX9_findKnown_42 ?_
  refine r_sub [3, 2, 1, 0] (ls' := [(0, vR l0), (1, vI s0), (2, vI q27.1), (3, vI 0)]) rfl ?_
  exact tX9_findKnown_43 F h
theorem tX9_findKnown {l0 : Int} {M : Mem} {q : Int × Mem} (h : mX9_findKnown l0 M = some q) : Ct 2 0 0 yX9_findKnown cX9_findKnown 7 none [vR l0] M none q.2 := by
  unfold mX9_findKnown at h
  refine Ct.of (by decide) (Nat.le_of_ble_eq_true rfl) ?_
  intro E p l e s m args below meth c F
  refine r_sub [0] (ls' := [(0, vR l0)]) rfl ?_
  refine r_aload_n (j := 0) F rfl rfl dX9_findKnown_0 ?_
  replace h := bind_so h
  obtain ⟨a1, h1, h⟩ := h
  refine r_getT (t := 2) rfl clok_9 F (by decide) h1 tw_1303 dX9_findKnown_1 ?_
  refine r_iconst F rfl dX9_findKnown_4 ?_
  replace h := bind_so h
  obtain ⟨a5, h5, h⟩ := h
  refine r_iald F h5 dX9_findKnown_5 ?_
  refine r_iconst F rfl dX9_findKnown_6 ?_
  refine r_icmp_ne (tgt := 19) F (by decide) dX9_findKnown_7 (fun hc => ?_) (fun hc => ?_)
  · replace h := ite_n h hc
    refine r_aload_n (j := 0) F rfl rfl dX9_findKnown_19 ?_
    replace h := bind_so h
    obtain ⟨a20, h20, h⟩ := h
    refine r_getT (t := 2) rfl clok_9 F (by decide) h20 tw_1303 dX9_findKnown_20 ?_
    refine r_iconst F rfl dX9_findKnown_23 ?_
    replace h := bind_so h
    obtain ⟨a24, h24, h⟩ := h
    refine r_iald F h24 dX9_findKnown_24 ?_
    refine r_sub [0] (ls' := [(0, vR l0)]) rfl ?_
    exact tX9_findKnown_25 F h
  · replace h := ite_p h hc
    refine r_aload_n (j := 0) F rfl rfl dX9_findKnown_10 ?_
    replace h := bind_so h
    obtain ⟨a11, h11, h⟩ := h
    refine r_getT (t := 2) rfl clok_9 F (by decide) h11 tw_1302 dX9_findKnown_11 ?_
    refine r_iconst F rfl dX9_findKnown_14 ?_
    replace h := bind_so h
    obtain ⟨a15, h15, h⟩ := h
    refine r_iald F h15 dX9_findKnown_15 ?_
    refine r_goto (tgt := 25) F (by decide) dX9_findKnown_16 ?_
    refine r_sub [0] (ls' := [(0, vR l0)]) rfl ?_
    exact tX9_findKnown_25 F h
theorem tX9_prepare {l0 : Int} {M : Mem} {q : Int × Mem} (h : mX9_prepare l0 M = some q) : Ct 3 0 0 yX9_prepare cX9_prepare 1 none [vR l0] M none q.2 := by
  unfold mX9_prepare at h
  refine Ct.of (by decide) (Nat.le_of_ble_eq_true rfl) ?_
  intro E p l e s m args below meth c F
  refine r_sub [0] (ls' := [(0, vR l0)]) rfl ?_
  refine r_aload_n (j := 0) F rfl rfl dX9_prepare_0 ?_
  refine r_aload_n (j := 0) F rfl rfl dX9_prepare_1 ?_
  replace h := bind_so h
  obtain ⟨_, g2, h⟩ := h
  replace h := bind_so h
  obtain ⟨q2, h2, h⟩ := h
  refine r_callV (as := []) (rv := (some (vI q2.1))) (kc := 0) (nc := 0) (tX9_told h2) clok_9 F (gK_so g2) tw_1770 tw_1772 tw_95 tw_1773 tw_122 ⟨by decide, by decide, show (parseMethodDescriptor yX9_told.desc).map (fun d => d.parameters.length) = some 0 by decide +kernel⟩ ⟨by decide, by decide⟩ (Nat.le_of_ble_eq_true rfl) dX9_prepare_2 ?_
  replace h := bind_so h
  obtain ⟨M5, h5, h⟩ := h
  refine r_put clok_9 F (by decide) rfl (by decide) (by decide) h5 tw_1345 dX9_prepare_5 ?_
  refine r_aload_n (j := 0) F rfl rfl dX9_prepare_8 ?_
  replace h := bind_so h
  obtain ⟨_, g9, h⟩ := h
  replace h := bind_so h
  obtain ⟨q9, h9, h⟩ := h
  refine r_callV (as := []) (rv := none) (kc := 0) (nc := 0) (tX9_findKnown h9) clok_9 F (gK_so g9) tw_1774 tw_1776 tw_96 tw_1777 tw_122 ⟨by decide, by decide, show (parseMethodDescriptor yX9_findKnown.desc).map (fun d => d.parameters.length) = some 0 by decide +kernel⟩ ⟨by decide, by decide⟩ (Nat.le_of_ble_eq_true rfl) dX9_prepare_9 ?_
  obtain rfl := Option.some.inj h
  exact r_vret F dX9_prepare_12
theorem tX9_isAsKnown {l0 l1 : Int} {M : Mem} {q : Int × Mem} (h : mX9_isAsKnown l0 l1 M = some q) : Ct 0 0 0 yX9_isAsKnown cX9_isAsKnown 2 (some FieldType.boolean) [vR l0, vI l1] M (some (vI q.1)) q.2 := by
  unfold mX9_isAsKnown at h
  refine Ct.of (by decide) (Nat.le_of_ble_eq_true rfl) ?_
  intro E p l e s m args below meth c F
  refine r_sub [0, 1] (ls' := [(0, vR l0), (1, vI l1)]) rfl ?_
  refine r_iload_n (j := 1) F rfl rfl dX9_isAsKnown_0 ?_
  refine r_aload_n (j := 0) F rfl rfl dX9_isAsKnown_1 ?_
  replace h := bind_so h
  obtain ⟨a2, h2, h⟩ := h
  refine r_getT (t := 0) rfl clok_9 F (by decide) h2 tw_1346 dX9_isAsKnown_2 ?_
  refine r_iand F dX9_isAsKnown_5 ?_
  refine r_aload_n (j := 0) F rfl rfl dX9_isAsKnown_6 ?_
  replace h := bind_so h
  obtain ⟨a7, h7, h⟩ := h
  refine r_getT (t := 0) rfl clok_9 F (by decide) h7 tw_1347 dX9_isAsKnown_7 ?_
  refine r_icmp_ne (tgt := 17) F (by decide) dX9_isAsKnown_10 (fun hc => ?_) (fun hc => ?_)
  · replace h := ite_n h hc
    refine r_iconst F rfl dX9_isAsKnown_17 ?_
    obtain rfl := Option.some.inj h
    exact r_zret (Or.inl rfl) F dX9_isAsKnown_18
  · replace h := ite_p h hc
    refine r_iconst F rfl dX9_isAsKnown_13 ?_
    refine r_goto (tgt := 18) F (by decide) dX9_isAsKnown_14 ?_
    obtain rfl := Option.some.inj h
    exact r_zret (Or.inr rfl) F dX9_isAsKnown_18
theorem tX9_isWorld_48 {E : En} {p : Program} {l : Launch} {e : Env} {s : State} {m : MethodId} {args : Array Value} {below : List Frame} {meth : Method} {c : Code} {q : Int × Mem} {k17 : Int → Int → Mem → Option (Int × Mem)} (hk17 : ∀ {l0 l2 : Int} {M : Mem}, k17 l0 l2 M = some q → G E p l e (rmOf 8 0 0) s m args below meth c 3 (QZ E below args s (rmOf 8 0 0) (some (vI q.1)) q.2) 0 0 M 17 [(0, vR l0), (2, vI l2)] []) {l0 l2 : Int} {M : Mem} (F : Fx E p s m args meth c cX9_isWorld 3 yX9_isWorld.cls (some FieldType.boolean) yX9_isWorld.name) (h : mX9_isWorld_48 k17 l0 l2 M = some q) : G E p l e (rmOf 8 0 0) s m args below meth c 3 (QZ E below args s (rmOf 8 0 0) (some (vI q.1)) q.2) 0 0 M 48 [(0, vR l0), (2, vI l2)] [] := by
  unfold mX9_isWorld_48 at h
  refine r_iinc (j := 1) (ls' := [(2, vI (wI (l2 + 1))), (0, vR l0)]) F rfl (by decide) rfl dX9_isWorld_48 ?_
  refine r_goto (tgt := 17) F (by decide) dX9_isWorld_51 ?_
  refine r_sub [1, 0] (ls' := [(0, vR l0), (2, vI (wI (l2 + 1)))]) rfl ?_
  exact hk17 h
theorem tbX9_isWorld_17 {E : En} {p : Program} {l : Launch} {e : Env} {s : State} {m : MethodId} {args : Array Value} {below : List Frame} {meth : Method} {c : Code} {q : Int × Mem} {k17 : Int → Int → Mem → Option (Int × Mem)} (hk17 : ∀ {l0 l2 : Int} {M : Mem}, k17 l0 l2 M = some q → G E p l e (rmOf 8 0 0) s m args below meth c 3 (QZ E below args s (rmOf 8 0 0) (some (vI q.1)) q.2) 0 0 M 17 [(0, vR l0), (2, vI l2)] []) {l0 l2 : Int} {M : Mem} (F : Fx E p s m args meth c cX9_isWorld 3 yX9_isWorld.cls (some FieldType.boolean) yX9_isWorld.name) (h : bX9_isWorld_17 k17 l0 l2 M = some q) : G E p l e (rmOf 8 0 0) s m args below meth c 3 (QZ E below args s (rmOf 8 0 0) (some (vI q.1)) q.2) 0 0 M 17 [(0, vR l0), (2, vI l2)] [] := by
  unfold bX9_isWorld_17 at h
  refine r_iload_n (j := 1) F rfl rfl dX9_isWorld_17 ?_
  refine r_aload_n (j := 0) F rfl rfl dX9_isWorld_18 ?_
  replace h := bind_so h
  obtain ⟨a19, h19, h⟩ := h
  refine r_getT (t := 2) rfl clok_9 F (by decide) h19 tw_1309 dX9_isWorld_19 ?_
  refine r_iconst F rfl dX9_isWorld_22 ?_
  replace h := bind_so h
  obtain ⟨a23, h23, h⟩ := h
  refine r_iald F h23 dX9_isWorld_23 ?_
  refine r_icmp_ge (tgt := 54) F (by decide) dX9_isWorld_24 (fun hc => ?_) (fun hc => ?_)
  · replace h := ite_p h hc
    refine r_iconst F rfl dX9_isWorld_54 ?_
    obtain rfl := Option.some.inj h
    exact r_zret (Or.inr rfl) F dX9_isWorld_55
  · replace h := ite_n h hc
    refine r_aload_n (j := 0) F rfl rfl dX9_isWorld_27 ?_
    replace h := bind_so h
    obtain ⟨a28, h28, h⟩ := h
    refine r_getT (t := 0) rfl clok_9 F (by decide) h28 tw_1345 dX9_isWorld_28 ?_
    refine r_iload_n (j := 1) F rfl rfl dX9_isWorld_31 ?_
    refine r_ishr F dX9_isWorld_32 ?_
    refine r_iconst F rfl dX9_isWorld_33 ?_
    refine r_iand F dX9_isWorld_34 ?_
    refine r_if_eq (tgt := 48) F (by decide) dX9_isWorld_35 (fun hc => ?_) (fun hc => ?_)
    · replace h := ite_p h hc
      refine r_sub [0, 1] (ls' := [(0, vR l0), (2, vI l2)]) rfl ?_
      exact tX9_isWorld_48 (fun h => hk17 h) F h
    · replace h := ite_n h hc
      refine r_aload_n (j := 0) F rfl rfl dX9_isWorld_38 ?_
      refine r_iload_n (j := 1) F rfl rfl dX9_isWorld_39 ?_
      replace h := bind_so h
      obtain ⟨_, g40, h⟩ := h
      replace h := bind_so h
      obtain ⟨q40, h40, h⟩ := h
      refine r_callV (as := [vI l2]) (rv := (some (vI q40.1))) (kc := 0) (nc := 0) (tX9_means h40) clok_9 F (gK_so g40) tw_1720 tw_1722 tw_86 tw_1723 tw_122 ⟨by decide, by decide, show (parseMethodDescriptor yX9_means.desc).map (fun d => d.parameters.length) = some 1 by decide +kernel⟩ ⟨by decide, by decide⟩ (Nat.le_of_ble_eq_true rfl) dX9_isWorld_40 ?_
      refine r_if_ne (tgt := 48) F (by decide) dX9_isWorld_43 (fun hc => ?_) (fun hc => ?_)
      · replace h := ite_n h hc
        refine r_sub [0, 1] (ls' := [(0, vR l0), (2, vI l2)]) rfl ?_
        exact tX9_isWorld_48 (fun h => hk17 h) F h
      · replace h := ite_p h hc
        refine r_iconst F rfl dX9_isWorld_46 ?_
        obtain rfl := Option.some.inj h
        exact r_zret (Or.inl rfl) F dX9_isWorld_47
theorem tX9_isWorld_17 {E : En} {p : Program} {l : Launch} {e : Env} {s : State} {m : MethodId} {args : Array Value} {below : List Frame} {meth : Method} {c : Code} {q : Int × Mem} (F : Fx E p s m args meth c cX9_isWorld 3 yX9_isWorld.cls (some FieldType.boolean) yX9_isWorld.name) : ∀ {fu : Nat} {l0 l2 : Int} {M : Mem}, mX9_isWorld_17 fu l0 l2 M = some q → G E p l e (rmOf 8 0 0) s m args below meth c 3 (QZ E below args s (rmOf 8 0 0) (some (vI q.1)) q.2) 0 0 M 17 [(0, vR l0), (2, vI l2)] [] := by
  intro fu
  induction fu with
  | zero => intro l0 l2 M h; exact nomatch (show (none : Option (Int × Mem)) = some q from h)
  | succ fu ih => intro l0 l2 M h; exact tbX9_isWorld_17  (fun h => ih h) F h
theorem tX9_isWorld {l0 l1 : Int} {M : Mem} {q : Int × Mem} (h : mX9_isWorld l0 l1 M = some q) : Ct 8 0 0 yX9_isWorld cX9_isWorld 3 (some FieldType.boolean) [vR l0, vI l1] M (some (vI q.1)) q.2 := by
  unfold mX9_isWorld at h
  refine Ct.of (by decide) (Nat.le_of_ble_eq_true rfl) ?_
  intro E p l e s m args below meth c F
  refine r_sub [0, 1] (ls' := [(0, vR l0), (1, vI l1)]) rfl ?_
  refine r_aload_n (j := 0) F rfl rfl dX9_isWorld_0 ?_
  refine r_iload_n (j := 1) F rfl rfl dX9_isWorld_1 ?_
  replace h := bind_so h
  obtain ⟨_, g2, h⟩ := h
  replace h := bind_so h
  obtain ⟨q2, h2, h⟩ := h
  refine r_callV (as := [vI l1]) (rv := (some (vI q2.1))) (kc := 0) (nc := 0) (tX9_isAsKnown h2) clok_9 F (gK_so g2) tw_1782 tw_1784 tw_98 tw_1785 tw_122 ⟨by decide, by decide, show (parseMethodDescriptor yX9_isAsKnown.desc).map (fun d => d.parameters.length) = some 1 by decide +kernel⟩ ⟨by decide, by decide⟩ (Nat.le_of_ble_eq_true rfl) dX9_isWorld_2 ?_
  refine r_if_ne (tgt := 10) F (by decide) dX9_isWorld_5 (fun hc => ?_) (fun hc => ?_)
  · replace h := ite_n h hc
    refine r_aload_n (j := 0) F rfl rfl dX9_isWorld_10 ?_
    refine r_iload_n (j := 1) F rfl rfl dX9_isWorld_11 ?_
    replace h := bind_so h
    obtain ⟨_, g12, h⟩ := h
    replace h := bind_so h
    obtain ⟨q12, h12, h⟩ := h
    refine r_callV (as := [vI l1]) (rv := none) (kc := 0) (nc := 0) (tX9_layWorld h12) clok_9 F (gK_so g12) tw_1786 tw_1788 tw_99 tw_1789 tw_122 ⟨by decide, by decide, show (parseMethodDescriptor yX9_layWorld.desc).map (fun d => d.parameters.length) = some 1 by decide +kernel⟩ ⟨by decide, by decide⟩ (Nat.le_of_ble_eq_true rfl) dX9_isWorld_12 ?_
    refine r_iconst F rfl dX9_isWorld_15 ?_
    refine r_istore_n (ls' := [(2, vI 0), (0, vR l0), (1, vI l1)]) F rfl (by decide) rfl dX9_isWorld_16 ?_
    refine r_sub [1, 0] (ls' := [(0, vR l0), (2, vI 0)]) rfl ?_
    exact tX9_isWorld_17 F h
  · replace h := ite_p h hc
    refine r_iconst F rfl dX9_isWorld_8 ?_
    obtain rfl := Option.some.inj h
    exact r_zret (Or.inl rfl) F dX9_isWorld_9
theorem tX9_leastImage_40 {E : En} {p : Program} {l : Launch} {e : Env} {s : State} {m : MethodId} {args : Array Value} {below : List Frame} {meth : Method} {c : Code} {q : Int × Mem} {k4 : Int → Int → Int → Mem → Option (Int × Mem)} (hk4 : ∀ {l0 l1 l2 : Int} {M : Mem}, k4 l0 l1 l2 M = some q → G E p l e (rmOf 3 0 0) s m args below meth c 4 (QZ E below args s (rmOf 3 0 0) (some (vI q.1)) q.2) 0 0 M 4 [(0, vR l0), (1, vI l1), (2, vI l2)] []) {l0 l1 l2 : Int} {M : Mem} (F : Fx E p s m args meth c cX9_leastImage 4 yX9_leastImage.cls (some FieldType.int) yX9_leastImage.name) (h : mX9_leastImage_40 k4 l0 l1 l2 M = some q) : G E p l e (rmOf 3 0 0) s m args below meth c 4 (QZ E below args s (rmOf 3 0 0) (some (vI q.1)) q.2) 0 0 M 40 [(0, vR l0), (1, vI l1), (2, vI l2)] [] := by
  unfold mX9_leastImage_40 at h
  refine r_iinc (j := 2) (ls' := [(2, vI (wI (l2 + 1))), (0, vR l0), (1, vI l1)]) F rfl (by decide) rfl dX9_leastImage_40 ?_
  refine r_goto (tgt := 4) F (by decide) dX9_leastImage_43 ?_
  refine r_sub [1, 2, 0] (ls' := [(0, vR l0), (1, vI l1), (2, vI (wI (l2 + 1)))]) rfl ?_
  exact hk4 h
theorem tX9_leastImage_39 {E : En} {p : Program} {l : Launch} {e : Env} {s : State} {m : MethodId} {args : Array Value} {below : List Frame} {meth : Method} {c : Code} {q : Int × Mem} {k4 : Int → Int → Int → Mem → Option (Int × Mem)} (hk4 : ∀ {l0 l1 l2 : Int} {M : Mem}, k4 l0 l1 l2 M = some q → G E p l e (rmOf 3 0 0) s m args below meth c 4 (QZ E below args s (rmOf 3 0 0) (some (vI q.1)) q.2) 0 0 M 4 [(0, vR l0), (1, vI l1), (2, vI l2)] []) {l0 l2 s0 : Int} {M : Mem} (F : Fx E p s m args meth c cX9_leastImage 4 yX9_leastImage.cls (some FieldType.int) yX9_leastImage.name) (h : mX9_leastImage_39 k4 l0 l2 s0 M = some q) : G E p l e (rmOf 3 0 0) s m args below meth c 4 (QZ E below args s (rmOf 3 0 0) (some (vI q.1)) q.2) 0 0 M 39 [(0, vR l0), (2, vI l2)] [vI s0] := by
  unfold mX9_leastImage_39 at h
  refine r_istore_n (ls' := [(1, vI s0), (0, vR l0), (2, vI l2)]) F rfl (by decide) rfl dX9_leastImage_39 ?_
  refine r_sub [1, 0, 2] (ls' := [(0, vR l0), (1, vI s0), (2, vI l2)]) rfl ?_
  exact tX9_leastImage_40 (fun h => hk4 h) F h
theorem tX9_leastImage_34 {E : En} {p : Program} {l : Launch} {e : Env} {s : State} {m : MethodId} {args : Array Value} {below : List Frame} {meth : Method} {c : Code} {q : Int × Mem} {k4 : Int → Int → Int → Mem → Option (Int × Mem)} (hk4 : ∀ {l0 l1 l2 : Int} {M : Mem}, k4 l0 l1 l2 M = some q → G E p l e (rmOf 3 0 0) s m args below meth c 4 (QZ E below args s (rmOf 3 0 0) (some (vI q.1)) q.2) 0 0 M 4 [(0, vR l0), (1, vI l1), (2, vI l2)] []) {l0 l2 l3 : Int} {M : Mem} (F : Fx E p s m args meth c cX9_leastImage 4 yX9_leastImage.cls (some FieldType.int) yX9_leastImage.name) (h : mX9_leastImage_34 k4 l0 l2 l3 M = some q) : G E p l e (rmOf 3 0 0) s m args below meth c 4 (QZ E below args s (rmOf 3 0 0) (some (vI q.1)) q.2) 0 0 M 34 [(0, vR l0), (2, vI l2), (3, vI l3)] [] := by
  unfold mX9_leastImage_34 at h
  refine r_iload_n (j := 2) F rfl rfl dX9_leastImage_34 ?_
  refine r_goto (tgt := 39) F (by decide) dX9_leastImage_35 ?_
  refine r_sub [0, 1] (ls' := [(0, vR l0), (2, vI l2)]) rfl ?_
  exact tX9_leastImage_39 (fun h => hk4 h) F h
theorem tbX9_leastImage_4 {E : En} {p : Program} {l : Launch} {e : Env} {s : State} {m : MethodId} {args : Array Value} {below : List Frame} {meth : Method} {c : Code} {q : Int × Mem} {k4 : Int → Int → Int → Mem → Option (Int × Mem)} (hk4 : ∀ {l0 l1 l2 : Int} {M : Mem}, k4 l0 l1 l2 M = some q → G E p l e (rmOf 3 0 0) s m args below meth c 4 (QZ E below args s (rmOf 3 0 0) (some (vI q.1)) q.2) 0 0 M 4 [(0, vR l0), (1, vI l1), (2, vI l2)] []) {l0 l1 l2 : Int} {M : Mem} (F : Fx E p s m args meth c cX9_leastImage 4 yX9_leastImage.cls (some FieldType.int) yX9_leastImage.name) (h : bX9_leastImage_4 k4 l0 l1 l2 M = some q) : G E p l e (rmOf 3 0 0) s m args below meth c 4 (QZ E below args s (rmOf 3 0 0) (some (vI q.1)) q.2) 0 0 M 4 [(0, vR l0), (1, vI l1), (2, vI l2)] [] := by
  unfold bX9_leastImage_4 at h
  refine r_iload_n (j := 2) F rfl rfl dX9_leastImage_4 ?_
  refine r_sipush F rfl (by decide) dX9_leastImage_5 ?_
  refine r_icmp_ge (tgt := 46) F (by decide) dX9_leastImage_8 (fun hc => ?_) (fun hc => ?_)
  · replace h := ite_p h hc
    refine r_iload_n (j := 1) F rfl rfl dX9_leastImage_46 ?_
    obtain rfl := Option.some.inj h
    exact r_iret F dX9_leastImage_47
  · replace h := ite_n h hc
    refine r_aload_n (j := 0) F rfl rfl dX9_leastImage_11 ?_
    refine r_iload_n (j := 2) F rfl rfl dX9_leastImage_12 ?_
    replace h := bind_so h
    obtain ⟨_, g13, h⟩ := h
    replace h := bind_so h
    obtain ⟨q13, h13, h⟩ := h
    refine r_callV (as := [vI l2]) (rv := (some (vI q13.1))) (kc := 0) (nc := 0) (tX9_takeOrders h13) clok_9 F (gK_so g13) tw_1562 tw_1564 tw_64 tw_1565 tw_122 ⟨by decide, by decide, show (parseMethodDescriptor yX9_takeOrders.desc).map (fun d => d.parameters.length) = some 1 by decide +kernel⟩ ⟨by decide, by decide⟩ (Nat.le_of_ble_eq_true rfl) dX9_leastImage_13 ?_
    refine r_if_eq (tgt := 40) F (by decide) dX9_leastImage_16 (fun hc => ?_) (fun hc => ?_)
    · replace h := ite_p h hc
      refine r_sub [0, 1, 2] (ls' := [(0, vR l0), (1, vI l1), (2, vI l2)]) rfl ?_
      exact tX9_leastImage_40 (fun h => hk4 h) F h
    · replace h := ite_n h hc
      refine r_aload_n (j := 0) F rfl rfl dX9_leastImage_19 ?_
      replace h := bind_so h
      obtain ⟨_, g20, h⟩ := h
      replace h := bind_so h
      obtain ⟨q20, h20, h⟩ := h
      refine r_callV (as := []) (rv := (some (vI q20.1))) (kc := 0) (nc := 0) (tX9_imageOf h20) clok_9 F (gK_so g20) tw_1572 tw_1574 tw_65 tw_1575 tw_122 ⟨by decide, by decide, show (parseMethodDescriptor yX9_imageOf.desc).map (fun d => d.parameters.length) = some 0 by decide +kernel⟩ ⟨by decide, by decide⟩ (Nat.le_of_ble_eq_true rfl) dX9_leastImage_20 ?_
      refine r_istore_n (ls' := [(3, vI q20.1), (0, vR l0), (1, vI l1), (2, vI l2)]) F rfl (by decide) rfl dX9_leastImage_23 ?_
      refine r_iload_n (j := 2) F rfl rfl dX9_leastImage_24 ?_
      refine r_iconst F rfl dX9_leastImage_25 ?_
      refine r_icmp_eq (tgt := 34) F (by decide) dX9_leastImage_26 (fun hc => ?_) (fun hc => ?_)
      · replace h := ite_p h hc
        refine r_sub [1, 3, 0] (ls' := [(0, vR l0), (2, vI l2), (3, vI q20.1)]) rfl ?_
        exact tX9_leastImage_34 (fun h => hk4 h) F h
      · replace h := ite_n h hc
        refine r_iload_n (j := 0) F rfl rfl dX9_leastImage_29 ?_
        refine r_iload_n (j := 2) F rfl rfl dX9_leastImage_30 ?_
        refine r_icmp_ge (tgt := 38) F (by decide) dX9_leastImage_31 (fun hc => ?_) (fun hc => ?_)
        · replace h := ite_p h hc
          refine r_iload_n (j := 2) F rfl rfl dX9_leastImage_38 ?_
          refine r_sub [1, 3] (ls' := [(0, vR l0), (2, vI l2)]) rfl ?_
          exact tX9_leastImage_39 (fun h => hk4 h) F h
        · replace h := ite_n h hc
          refine r_sub [1, 3, 0] (ls' := [(0, vR l0), (2, vI l2), (3, vI q20.1)]) rfl ?_
          exact tX9_leastImage_34 (fun h => hk4 h) F h
theorem tX9_leastImage_4 {E : En} {p : Program} {l : Launch} {e : Env} {s : State} {m : MethodId} {args : Array Value} {below : List Frame} {meth : Method} {c : Code} {q : Int × Mem} (F : Fx E p s m args meth c cX9_leastImage 4 yX9_leastImage.cls (some FieldType.int) yX9_leastImage.name) : ∀ {fu : Nat} {l0 l1 l2 : Int} {M : Mem}, mX9_leastImage_4 fu l0 l1 l2 M = some q → G E p l e (rmOf 3 0 0) s m args below meth c 4 (QZ E below args s (rmOf 3 0 0) (some (vI q.1)) q.2) 0 0 M 4 [(0, vR l0), (1, vI l1), (2, vI l2)] [] := by
  intro fu
  induction fu with
  | zero => intro l0 l1 l2 M h; exact nomatch (show (none : Option (Int × Mem)) = some q from h)
  | succ fu ih => intro l0 l1 l2 M h; exact tbX9_leastImage_4  (fun h => ih h) F h
theorem tX9_leastImage {l0 : Int} {M : Mem} {q : Int × Mem} (h : mX9_leastImage l0 M = some q) : Ct 3 0 0 yX9_leastImage cX9_leastImage 4 (some FieldType.int) [vR l0] M (some (vI q.1)) q.2 := by
  unfold mX9_leastImage at h
  refine Ct.of (by decide) (Nat.le_of_ble_eq_true rfl) ?_
  intro E p l e s m args below meth c F
  refine r_sub [0] (ls' := [(0, vR l0)]) rfl ?_
  refine r_iconst F rfl dX9_leastImage_0 ?_
  refine r_istore_n (ls' := [(1, vI (-1)), (0, vR l0)]) F rfl (by decide) rfl dX9_leastImage_1 ?_
  refine r_iconst F rfl dX9_leastImage_2 ?_
  refine r_istore_n (ls' := [(2, vI 0), (1, vI (-1)), (0, vR l0)]) F rfl (by decide) rfl dX9_leastImage_3 ?_
  refine r_sub [2, 1, 0] (ls' := [(0, vR l0), (1, vI (-1)), (2, vI 0)]) rfl ?_
  exact tX9_leastImage_4 F h
theorem tX9_isForm {l0 l1 : Int} {M : Mem} {q : Int × Mem} (h : mX9_isForm l0 l1 M = some q) : Ct 9 0 0 yX9_isForm cX9_isForm 2 (some FieldType.boolean) [vR l0, vI l1] M (some (vI q.1)) q.2 := by
  unfold mX9_isForm at h
  refine Ct.of (by decide) (Nat.le_of_ble_eq_true rfl) ?_
  intro E p l e s m args below meth c F
  refine r_sub [0, 1] (ls' := [(0, vR l0), (1, vI l1)]) rfl ?_
  refine r_aload_n (j := 0) F rfl rfl dX9_isForm_0 ?_
  refine r_iload_n (j := 1) F rfl rfl dX9_isForm_1 ?_
  replace h := bind_so h
  obtain ⟨_, g2, h⟩ := h
  replace h := bind_so h
  obtain ⟨q2, h2, h⟩ := h
  refine r_callV (as := [vI l1]) (rv := (some (vI q2.1))) (kc := 0) (nc := 0) (tX9_isWorld h2) clok_9 F (gK_so g2) tw_1778 tw_1780 tw_97 tw_1781 tw_122 ⟨by decide, by decide, show (parseMethodDescriptor yX9_isWorld.desc).map (fun d => d.parameters.length) = some 1 by decide +kernel⟩ ⟨by decide, by decide⟩ (Nat.le_of_ble_eq_true rfl) dX9_isForm_2 ?_
  refine r_if_eq (tgt := 20) F (by decide) dX9_isForm_5 (fun hc => ?_) (fun hc => ?_)
  · replace h := ite_p h hc
    refine r_iconst F rfl dX9_isForm_20 ?_
    obtain rfl := Option.some.inj h
    exact r_zret (Or.inl rfl) F dX9_isForm_21
  · replace h := ite_n h hc
    refine r_aload_n (j := 0) F rfl rfl dX9_isForm_8 ?_
    replace h := bind_so h
    obtain ⟨_, g9, h⟩ := h
    replace h := bind_so h
    obtain ⟨q9, h9, h⟩ := h
    refine r_callV (as := []) (rv := (some (vI q9.1))) (kc := 0) (nc := 0) (tX9_leastImage h9) clok_9 F (gK_so g9) tw_1798 tw_1800 tw_101 tw_1801 tw_122 ⟨by decide, by decide, show (parseMethodDescriptor yX9_leastImage.desc).map (fun d => d.parameters.length) = some 0 by decide +kernel⟩ ⟨by decide, by decide⟩ (Nat.le_of_ble_eq_true rfl) dX9_isForm_9 ?_
    refine r_iload_n (j := 1) F rfl rfl dX9_isForm_12 ?_
    refine r_icmp_ne (tgt := 20) F (by decide) dX9_isForm_13 (fun hc => ?_) (fun hc => ?_)
    · replace h := ite_n h hc
      refine r_iconst F rfl dX9_isForm_20 ?_
      obtain rfl := Option.some.inj h
      exact r_zret (Or.inl rfl) F dX9_isForm_21
    · replace h := ite_p h hc
      refine r_iconst F rfl dX9_isForm_16 ?_
      refine r_goto (tgt := 21) F (by decide) dX9_isForm_17 ?_
      obtain rfl := Option.some.inj h
      exact r_zret (Or.inr rfl) F dX9_isForm_21
theorem tX9_worlds_46 {E : En} {p : Program} {l : Launch} {e : Env} {s : State} {m : MethodId} {args : Array Value} {below : List Frame} {meth : Method} {c : Code} {q : Int × Mem} {k22 : Int → Int → Int → Mem → Option (Int × Mem)} (hk22 : ∀ {l0 l1 l2 : Int} {M : Mem}, k22 l0 l1 l2 M = some q → G E p l e (rmOf 9 0 0) s m args below meth c 3 (QZ E below args s (rmOf 9 0 0) (some (vI q.1)) q.2) 0 0 M 22 [(0, vR l0), (1, vI l1), (2, vI l2)] []) {l0 l2 s0 s1 : Int} {M : Mem} (F : Fx E p s m args meth c cX9_worlds 3 yX9_worlds.cls (some FieldType.int) yX9_worlds.name) (h : mX9_worlds_46 k22 l0 l2 s0 s1 M = some q) : G E p l e (rmOf 9 0 0) s m args below meth c 3 (QZ E below args s (rmOf 9 0 0) (some (vI q.1)) q.2) 0 0 M 46 [(0, vR l0), (2, vI l2)] [vI s1, vI s0] := by
  unfold mX9_worlds_46 at h
  refine r_iadd F dX9_worlds_46 ?_
  refine r_istore_n (ls' := [(1, vI (wI (s0 + s1))), (0, vR l0), (2, vI l2)]) F rfl (by decide) rfl dX9_worlds_47 ?_
  refine r_iinc (j := 2) (ls' := [(2, vI (wI (l2 + 1))), (1, vI (wI (s0 + s1))), (0, vR l0)]) F rfl (by decide) rfl dX9_worlds_48 ?_
  refine r_goto (tgt := 22) F (by decide) dX9_worlds_51 ?_
  refine r_sub [2, 1, 0] (ls' := [(0, vR l0), (1, vI (wI (s0 + s1))), (2, vI (wI (l2 + 1)))]) rfl ?_
  exact hk22 h
theorem tbX9_worlds_22 {E : En} {p : Program} {l : Launch} {e : Env} {s : State} {m : MethodId} {args : Array Value} {below : List Frame} {meth : Method} {c : Code} {q : Int × Mem} {k22 : Int → Int → Int → Mem → Option (Int × Mem)} (hk22 : ∀ {l0 l1 l2 : Int} {M : Mem}, k22 l0 l1 l2 M = some q → G E p l e (rmOf 9 0 0) s m args below meth c 3 (QZ E below args s (rmOf 9 0 0) (some (vI q.1)) q.2) 0 0 M 22 [(0, vR l0), (1, vI l1), (2, vI l2)] []) {l0 l1 l2 : Int} {M : Mem} (F : Fx E p s m args meth c cX9_worlds 3 yX9_worlds.cls (some FieldType.int) yX9_worlds.name) (h : bX9_worlds_22 k22 l0 l1 l2 M = some q) : G E p l e (rmOf 9 0 0) s m args below meth c 3 (QZ E below args s (rmOf 9 0 0) (some (vI q.1)) q.2) 0 0 M 22 [(0, vR l0), (1, vI l1), (2, vI l2)] [] := by
  unfold bX9_worlds_22 at h
  refine r_iload_n (j := 2) F rfl rfl dX9_worlds_22 ?_
  refine r_iconst F rfl dX9_worlds_23 ?_
  refine r_aload_n (j := 0) F rfl rfl dX9_worlds_24 ?_
  replace h := bind_so h
  obtain ⟨_, g25, h⟩ := h
  replace h := bind_so h
  obtain ⟨q25, h25, h⟩ := h
  refine r_callV (as := []) (rv := (some (vI q25.1))) (kc := 0) (nc := 0) (tX9_manyFacts h25) clok_9 F (gK_so g25) tw_1518 tw_1520 tw_58 tw_1521 tw_122 ⟨by decide, by decide, show (parseMethodDescriptor yX9_manyFacts.desc).map (fun d => d.parameters.length) = some 0 by decide +kernel⟩ ⟨by decide, by decide⟩ (Nat.le_of_ble_eq_true rfl) dX9_worlds_25 ?_
  refine r_ishl F dX9_worlds_28 ?_
  refine r_icmp_ge (tgt := 54) F (by decide) dX9_worlds_29 (fun hc => ?_) (fun hc => ?_)
  · replace h := ite_p h hc
    refine r_iload_n (j := 1) F rfl rfl dX9_worlds_54 ?_
    obtain rfl := Option.some.inj h
    exact r_iret F dX9_worlds_55
  · replace h := ite_n h hc
    refine r_iload_n (j := 1) F rfl rfl dX9_worlds_32 ?_
    refine r_aload_n (j := 0) F rfl rfl dX9_worlds_33 ?_
    refine r_iload_n (j := 2) F rfl rfl dX9_worlds_34 ?_
    replace h := bind_so h
    obtain ⟨_, g35, h⟩ := h
    replace h := bind_so h
    obtain ⟨q35, h35, h⟩ := h
    refine r_callV (as := [vI l2]) (rv := (some (vI q35.1))) (kc := 0) (nc := 0) (tX9_isWorld h35) clok_9 F (gK_so g35) tw_1778 tw_1780 tw_97 tw_1781 tw_122 ⟨by decide, by decide, show (parseMethodDescriptor yX9_isWorld.desc).map (fun d => d.parameters.length) = some 1 by decide +kernel⟩ ⟨by decide, by decide⟩ (Nat.le_of_ble_eq_true rfl) dX9_worlds_35 ?_
    refine r_if_eq (tgt := 45) F (by decide) dX9_worlds_38 (fun hc => ?_) (fun hc => ?_)
    · replace h := ite_p h hc
      refine r_iconst F rfl dX9_worlds_45 ?_
      refine r_sub [0, 2] (ls' := [(0, vR l0), (2, vI l2)]) rfl ?_
      exact tX9_worlds_46 (fun h => hk22 h) F h
    · replace h := ite_n h hc
      refine r_iconst F rfl dX9_worlds_41 ?_
      refine r_goto (tgt := 46) F (by decide) dX9_worlds_42 ?_
      refine r_sub [0, 2] (ls' := [(0, vR l0), (2, vI l2)]) rfl ?_
      exact tX9_worlds_46 (fun h => hk22 h) F h
theorem tX9_worlds_22 {E : En} {p : Program} {l : Launch} {e : Env} {s : State} {m : MethodId} {args : Array Value} {below : List Frame} {meth : Method} {c : Code} {q : Int × Mem} (F : Fx E p s m args meth c cX9_worlds 3 yX9_worlds.cls (some FieldType.int) yX9_worlds.name) : ∀ {fu : Nat} {l0 l1 l2 : Int} {M : Mem}, mX9_worlds_22 fu l0 l1 l2 M = some q → G E p l e (rmOf 9 0 0) s m args below meth c 3 (QZ E below args s (rmOf 9 0 0) (some (vI q.1)) q.2) 0 0 M 22 [(0, vR l0), (1, vI l1), (2, vI l2)] [] := by
  intro fu
  induction fu with
  | zero => intro l0 l1 l2 M h; exact nomatch (show (none : Option (Int × Mem)) = some q from h)
  | succ fu ih => intro l0 l1 l2 M h; exact tbX9_worlds_22  (fun h => ih h) F h
theorem tX9_worlds {l0 : Int} {M : Mem} {q : Int × Mem} (h : mX9_worlds l0 M = some q) : Ct 9 0 0 yX9_worlds cX9_worlds 3 (some FieldType.int) [vR l0] M (some (vI q.1)) q.2 := by
  unfold mX9_worlds at h
  refine Ct.of (by decide) (Nat.le_of_ble_eq_true rfl) ?_
  intro E p l e s m args below meth c F
  refine r_sub [0] (ls' := [(0, vR l0)]) rfl ?_
  refine r_aload_n (j := 0) F rfl rfl dX9_worlds_0 ?_
  refine r_iconst F rfl dX9_worlds_1 ?_
  replace h := bind_so h
  obtain ⟨M2, h2, h⟩ := h
  refine r_put clok_9 F (by decide) rfl (by decide) (by decide) h2 tw_1297 dX9_worlds_2 ?_
  refine r_aload_n (j := 0) F rfl rfl dX9_worlds_5 ?_
  replace h := bind_so h
  obtain ⟨_, g6, h⟩ := h
  replace h := bind_so h
  obtain ⟨q6, h6, h⟩ := h
  refine r_callV (as := []) (rv := (some (vI q6.1))) (kc := 0) (nc := 0) (tX9_canTell h6) clok_9 F (gK_so g6) tw_1554 tw_1556 tw_62 tw_1557 tw_122 ⟨by decide, by decide, show (parseMethodDescriptor yX9_canTell.desc).map (fun d => d.parameters.length) = some 0 by decide +kernel⟩ ⟨by decide, by decide⟩ (Nat.le_of_ble_eq_true rfl) dX9_worlds_6 ?_
  refine r_if_ne (tgt := 14) F (by decide) dX9_worlds_9 (fun hc => ?_) (fun hc => ?_)
  · replace h := ite_n h hc
    refine r_aload_n (j := 0) F rfl rfl dX9_worlds_14 ?_
    replace h := bind_so h
    obtain ⟨_, g15, h⟩ := h
    replace h := bind_so h
    obtain ⟨q15, h15, h⟩ := h
    refine r_callV (as := []) (rv := none) (kc := 0) (nc := 0) (tX9_prepare h15) clok_9 F (gK_so g15) tw_1766 tw_1768 tw_94 tw_1769 tw_122 ⟨by decide, by decide, show (parseMethodDescriptor yX9_prepare.desc).map (fun d => d.parameters.length) = some 0 by decide +kernel⟩ ⟨by decide, by decide⟩ (Nat.le_of_ble_eq_true rfl) dX9_worlds_15 ?_
    refine r_iconst F rfl dX9_worlds_18 ?_
    refine r_istore_n (ls' := [(1, vI 0), (0, vR l0)]) F rfl (by decide) rfl dX9_worlds_19 ?_
    refine r_iconst F rfl dX9_worlds_20 ?_
    refine r_istore_n (ls' := [(2, vI 0), (1, vI 0), (0, vR l0)]) F rfl (by decide) rfl dX9_worlds_21 ?_
    refine r_sub [2, 1, 0] (ls' := [(0, vR l0), (1, vI 0), (2, vI 0)]) rfl ?_
    exact tX9_worlds_22 F h
  · replace h := ite_p h hc
    refine r_iconst F rfl dX9_worlds_12 ?_
    obtain rfl := Option.some.inj h
    exact r_iret F dX9_worlds_13
theorem tX9_forms_46 {E : En} {p : Program} {l : Launch} {e : Env} {s : State} {m : MethodId} {args : Array Value} {below : List Frame} {meth : Method} {c : Code} {q : Int × Mem} {k22 : Int → Int → Int → Mem → Option (Int × Mem)} (hk22 : ∀ {l0 l1 l2 : Int} {M : Mem}, k22 l0 l1 l2 M = some q → G E p l e (rmOf 10 0 0) s m args below meth c 3 (QZ E below args s (rmOf 10 0 0) (some (vI q.1)) q.2) 0 0 M 22 [(0, vR l0), (1, vI l1), (2, vI l2)] []) {l0 l2 s0 s1 : Int} {M : Mem} (F : Fx E p s m args meth c cX9_forms 3 yX9_forms.cls (some FieldType.int) yX9_forms.name) (h : mX9_forms_46 k22 l0 l2 s0 s1 M = some q) : G E p l e (rmOf 10 0 0) s m args below meth c 3 (QZ E below args s (rmOf 10 0 0) (some (vI q.1)) q.2) 0 0 M 46 [(0, vR l0), (2, vI l2)] [vI s1, vI s0] := by
  unfold mX9_forms_46 at h
  refine r_iadd F dX9_forms_46 ?_
  refine r_istore_n (ls' := [(1, vI (wI (s0 + s1))), (0, vR l0), (2, vI l2)]) F rfl (by decide) rfl dX9_forms_47 ?_
  refine r_iinc (j := 2) (ls' := [(2, vI (wI (l2 + 1))), (1, vI (wI (s0 + s1))), (0, vR l0)]) F rfl (by decide) rfl dX9_forms_48 ?_
  refine r_goto (tgt := 22) F (by decide) dX9_forms_51 ?_
  refine r_sub [2, 1, 0] (ls' := [(0, vR l0), (1, vI (wI (s0 + s1))), (2, vI (wI (l2 + 1)))]) rfl ?_
  exact hk22 h
theorem tbX9_forms_22 {E : En} {p : Program} {l : Launch} {e : Env} {s : State} {m : MethodId} {args : Array Value} {below : List Frame} {meth : Method} {c : Code} {q : Int × Mem} {k22 : Int → Int → Int → Mem → Option (Int × Mem)} (hk22 : ∀ {l0 l1 l2 : Int} {M : Mem}, k22 l0 l1 l2 M = some q → G E p l e (rmOf 10 0 0) s m args below meth c 3 (QZ E below args s (rmOf 10 0 0) (some (vI q.1)) q.2) 0 0 M 22 [(0, vR l0), (1, vI l1), (2, vI l2)] []) {l0 l1 l2 : Int} {M : Mem} (F : Fx E p s m args meth c cX9_forms 3 yX9_forms.cls (some FieldType.int) yX9_forms.name) (h : bX9_forms_22 k22 l0 l1 l2 M = some q) : G E p l e (rmOf 10 0 0) s m args below meth c 3 (QZ E below args s (rmOf 10 0 0) (some (vI q.1)) q.2) 0 0 M 22 [(0, vR l0), (1, vI l1), (2, vI l2)] [] := by
  unfold bX9_forms_22 at h
  refine r_iload_n (j := 2) F rfl rfl dX9_forms_22 ?_
  refine r_iconst F rfl dX9_forms_23 ?_
  refine r_aload_n (j := 0) F rfl rfl dX9_forms_24 ?_
  replace h := bind_so h
  obtain ⟨_, g25, h⟩ := h
  replace h := bind_so h
  obtain ⟨q25, h25, h⟩ := h
  refine r_callV (as := []) (rv := (some (vI q25.1))) (kc := 0) (nc := 0) (tX9_manyFacts h25) clok_9 F (gK_so g25) tw_1518 tw_1520 tw_58 tw_1521 tw_122 ⟨by decide, by decide, show (parseMethodDescriptor yX9_manyFacts.desc).map (fun d => d.parameters.length) = some 0 by decide +kernel⟩ ⟨by decide, by decide⟩ (Nat.le_of_ble_eq_true rfl) dX9_forms_25 ?_
  refine r_ishl F dX9_forms_28 ?_
  refine r_icmp_ge (tgt := 54) F (by decide) dX9_forms_29 (fun hc => ?_) (fun hc => ?_)
  · replace h := ite_p h hc
    refine r_iload_n (j := 1) F rfl rfl dX9_forms_54 ?_
    obtain rfl := Option.some.inj h
    exact r_iret F dX9_forms_55
  · replace h := ite_n h hc
    refine r_iload_n (j := 1) F rfl rfl dX9_forms_32 ?_
    refine r_aload_n (j := 0) F rfl rfl dX9_forms_33 ?_
    refine r_iload_n (j := 2) F rfl rfl dX9_forms_34 ?_
    replace h := bind_so h
    obtain ⟨_, g35, h⟩ := h
    replace h := bind_so h
    obtain ⟨q35, h35, h⟩ := h
    refine r_callV (as := [vI l2]) (rv := (some (vI q35.1))) (kc := 0) (nc := 0) (tX9_isForm h35) clok_9 F (gK_so g35) tw_1794 tw_1796 tw_100 tw_1797 tw_122 ⟨by decide, by decide, show (parseMethodDescriptor yX9_isForm.desc).map (fun d => d.parameters.length) = some 1 by decide +kernel⟩ ⟨by decide, by decide⟩ (Nat.le_of_ble_eq_true rfl) dX9_forms_35 ?_
    refine r_if_eq (tgt := 45) F (by decide) dX9_forms_38 (fun hc => ?_) (fun hc => ?_)
    · replace h := ite_p h hc
      refine r_iconst F rfl dX9_forms_45 ?_
      refine r_sub [0, 2] (ls' := [(0, vR l0), (2, vI l2)]) rfl ?_
      exact tX9_forms_46 (fun h => hk22 h) F h
    · replace h := ite_n h hc
      refine r_iconst F rfl dX9_forms_41 ?_
      refine r_goto (tgt := 46) F (by decide) dX9_forms_42 ?_
      refine r_sub [0, 2] (ls' := [(0, vR l0), (2, vI l2)]) rfl ?_
      exact tX9_forms_46 (fun h => hk22 h) F h
theorem tX9_forms_22 {E : En} {p : Program} {l : Launch} {e : Env} {s : State} {m : MethodId} {args : Array Value} {below : List Frame} {meth : Method} {c : Code} {q : Int × Mem} (F : Fx E p s m args meth c cX9_forms 3 yX9_forms.cls (some FieldType.int) yX9_forms.name) : ∀ {fu : Nat} {l0 l1 l2 : Int} {M : Mem}, mX9_forms_22 fu l0 l1 l2 M = some q → G E p l e (rmOf 10 0 0) s m args below meth c 3 (QZ E below args s (rmOf 10 0 0) (some (vI q.1)) q.2) 0 0 M 22 [(0, vR l0), (1, vI l1), (2, vI l2)] [] := by
  intro fu
  induction fu with
  | zero => intro l0 l1 l2 M h; exact nomatch (show (none : Option (Int × Mem)) = some q from h)
  | succ fu ih => intro l0 l1 l2 M h; exact tbX9_forms_22  (fun h => ih h) F h
theorem tX9_forms {l0 : Int} {M : Mem} {q : Int × Mem} (h : mX9_forms l0 M = some q) : Ct 10 0 0 yX9_forms cX9_forms 3 (some FieldType.int) [vR l0] M (some (vI q.1)) q.2 := by
  unfold mX9_forms at h
  refine Ct.of (by decide) (Nat.le_of_ble_eq_true rfl) ?_
  intro E p l e s m args below meth c F
  refine r_sub [0] (ls' := [(0, vR l0)]) rfl ?_
  refine r_aload_n (j := 0) F rfl rfl dX9_forms_0 ?_
  refine r_iconst F rfl dX9_forms_1 ?_
  replace h := bind_so h
  obtain ⟨M2, h2, h⟩ := h
  refine r_put clok_9 F (by decide) rfl (by decide) (by decide) h2 tw_1297 dX9_forms_2 ?_
  refine r_aload_n (j := 0) F rfl rfl dX9_forms_5 ?_
  replace h := bind_so h
  obtain ⟨_, g6, h⟩ := h
  replace h := bind_so h
  obtain ⟨q6, h6, h⟩ := h
  refine r_callV (as := []) (rv := (some (vI q6.1))) (kc := 0) (nc := 0) (tX9_canTell h6) clok_9 F (gK_so g6) tw_1554 tw_1556 tw_62 tw_1557 tw_122 ⟨by decide, by decide, show (parseMethodDescriptor yX9_canTell.desc).map (fun d => d.parameters.length) = some 0 by decide +kernel⟩ ⟨by decide, by decide⟩ (Nat.le_of_ble_eq_true rfl) dX9_forms_6 ?_
  refine r_if_ne (tgt := 14) F (by decide) dX9_forms_9 (fun hc => ?_) (fun hc => ?_)
  · replace h := ite_n h hc
    refine r_aload_n (j := 0) F rfl rfl dX9_forms_14 ?_
    replace h := bind_so h
    obtain ⟨_, g15, h⟩ := h
    replace h := bind_so h
    obtain ⟨q15, h15, h⟩ := h
    refine r_callV (as := []) (rv := none) (kc := 0) (nc := 0) (tX9_prepare h15) clok_9 F (gK_so g15) tw_1766 tw_1768 tw_94 tw_1769 tw_122 ⟨by decide, by decide, show (parseMethodDescriptor yX9_prepare.desc).map (fun d => d.parameters.length) = some 0 by decide +kernel⟩ ⟨by decide, by decide⟩ (Nat.le_of_ble_eq_true rfl) dX9_forms_15 ?_
    refine r_iconst F rfl dX9_forms_18 ?_
    refine r_istore_n (ls' := [(1, vI 0), (0, vR l0)]) F rfl (by decide) rfl dX9_forms_19 ?_
    refine r_iconst F rfl dX9_forms_20 ?_
    refine r_istore_n (ls' := [(2, vI 0), (1, vI 0), (0, vR l0)]) F rfl (by decide) rfl dX9_forms_21 ?_
    refine r_sub [2, 1, 0] (ls' := [(0, vR l0), (1, vI 0), (2, vI 0)]) rfl ?_
    exact tX9_forms_22 F h
  · replace h := ite_p h hc
    refine r_iconst F rfl dX9_forms_12 ?_
    obtain rfl := Option.some.inj h
    exact r_iret F dX9_forms_13
