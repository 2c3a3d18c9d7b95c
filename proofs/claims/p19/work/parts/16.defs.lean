noncomputable def mX0_init (l0 : Int) (M : Mem) : Option (Int × Mem) :=
  (gK 0 M l0).bind fun _ =>
  (pF 0 0 M l0 0).bind fun M6 =>
  (pF 0 1 M6 l0 0).bind fun M11 =>
  (nA 13 36 M11 36).bind fun q17 =>
  (pF 0 2 q17.2 l0 q17.1).bind fun M19 =>
  (nA 10 4 M19 4).bind fun q24 =>
  (pF 0 3 q24.2 l0 q24.1).bind fun M26 =>
  (nA 13 36 M26 36).bind fun q32 =>
  (pF 0 4 q32.2 l0 q32.1).bind fun M34 =>
  (pF 0 5 M34 l0 0).bind fun M39 =>
  some (0, M39)
noncomputable def mX3_bit (l0 l1 : Int) (M : Mem) : Option (Int × Mem) :=
  (gF 3 7 M l0).bind fun a1 =>
  some (wI ((wI (a1 - 1)) - l1), M)
noncomputable def mX0_takeWorld_68 (k18 : Int → Int → Int → Mem → Option (Int × Mem)) (l0 l3 l5 s0 s1 s2 : Int) (M : Mem) : Option (Int × Mem) :=
  (aS 13 M s0 s1 s2).bind fun M68 =>
  k18 l0 l3 (wI (l5 + 1)) M68
noncomputable def bX0_takeWorld_18 (k18 : Int → Int → Int → Mem → Option (Int × Mem)) (l0 l3 l5 : Int) (M : Mem) : Option (Int × Mem) :=
  (gF 0 0 M l0).bind fun a21 =>
  (gF 3 7 M a21).bind fun a24 =>
  if a24 ≤ l5 then
    some (0, M)
  else
    if 36 ≤ l5 then
      some (0, M)
    else
      (gF 0 2 M l0).bind fun a38 =>
      (gF 0 0 M l0).bind fun a45 =>
      (gK 3 M a45).bind fun _ =>
      (mX3_bit a45 l5 M).bind fun q50 =>
      if lcmp (land (lshr l3 q50.1) 1) 0 = 0 then
        mX0_takeWorld_68 k18 l0 l3 l5 a38 l5 0 q50.2
      else
        mX0_takeWorld_68 k18 l0 l3 l5 a38 l5 (-1) q50.2
noncomputable def mX0_takeWorld_18 : Nat → Int → Int → Int → Mem → Option (Int × Mem)
  | 0 => fun _ _ _ _ => none
  | fu + 1 => bX0_takeWorld_18 (mX0_takeWorld_18 fu)
noncomputable def mX0_takeWorld (l0 l1 l2 l3 : Int) (M : Mem) : Option (Int × Mem) :=
  (pF 0 0 M l0 l1).bind fun M2 =>
  (pF 0 1 M2 l0 l2).bind fun M7 =>
  (pF 0 5 M7 l0 0).bind fun M12 =>
  mX0_takeWorld_18 FU l0 l3 0 M12
noncomputable def mX0_sizeAt (l0 l1 : Int) (M : Mem) : Option (Int × Mem) :=
  (gF 0 1 M l0).bind fun a1 =>
  (gF 5 3 M a1).bind fun a4 =>
  (aG 10 M a4 l1).bind fun a8 =>
  if a8 < 0 then
    some (0, M)
  else
    if 3 ≤ a8 then
      some (0, M)
    else
      (gF 0 0 M l0).bind fun a20 =>
      (gF 3 0 M a20).bind fun a23 =>
      (aG 10 M a23 a8).bind fun a27 =>
      some (a27, M)
noncomputable def mX0_atLeast (l0 l1 l3 l5 : Int) (M : Mem) : Option (Int × Mem) :=
  if l0 = 0 then
    some ((-1), M)
  else
  if l0 = 1 then
    some (l1, M)
  else
  if l0 = 2 then
    some (l3, M)
  else
  if l0 = 3 then
    some (l5, M)
  else
  some (0, M)
noncomputable def mX0_slot (l0 l1 : Int) (M : Mem) : Option (Int × Mem) :=
  if l1 < 0 then
    some (0, M)
  else
    if 4 ≤ l1 then
      some (0, M)
    else
      (gF 0 3 M l0).bind fun a10 =>
      (aG 10 M a10 l1).bind fun a14 =>
      some (a14, M)
noncomputable def mX3_isOfOneKindTwice (l0 l1 : Int) (M : Mem) : Option (Int × Mem) :=
  if l1 < 0 then
    some (0, M)
  else
    (gF 3 6 M l0).bind fun a6 =>
    if a6 ≤ l1 then
      some (0, M)
    else
      (gF 3 1 M l0).bind fun a13 =>
      (aG 10 M a13 l1).bind fun a17 =>
      (gF 3 2 M l0).bind fun a19 =>
      (aG 10 M a19 l1).bind fun a23 =>
      if a17 = a23 then
        some (1, M)
      else
        some (0, M)
noncomputable def bX0_findPaths_97 (k63 : Int → Int → Int → Int → Mem → Option (Int × Mem)) (k72 : Int → Int → Int → Int → Int → Mem → Option (Int × Mem)) (k97 : Int → Int → Int → Int → Int → Int → Int → Mem → Option (Int × Mem)) (l0 l2 l3 l4 l5 l6 l8 : Int) (M : Mem) : Option (Int × Mem) :=
  if l3 ≤ l8 then
    k72 l0 l2 l3 l4 (wI (l5 + 1)) M
  else
    (gF 0 4 M l0).bind fun a104 =>
    (aG 13 M a104 (wI ((wI (l2 + (wI (l5 * l3)))) + l8))).bind fun a117 =>
    (gF 0 4 M l0).bind fun a121 =>
    (aG 13 M a121 (wI ((wI (l2 + (wI (l4 * l3)))) + l8))).bind fun a133 =>
    (aS 13 M a104 (wI ((wI (l2 + (wI (l5 * l3)))) + l8)) (lor a117 (land l6 a133))).bind fun M136 =>
    k97 l0 l2 l3 l4 l5 l6 (wI (l8 + 1)) M136
noncomputable def mX0_findPaths_97 (k63 : Int → Int → Int → Int → Mem → Option (Int × Mem)) (k72 : Int → Int → Int → Int → Int → Mem → Option (Int × Mem)) : Nat → Int → Int → Int → Int → Int → Int → Int → Mem → Option (Int × Mem)
  | 0 => fun _ _ _ _ _ _ _ _ => none
  | fu + 1 => bX0_findPaths_97 k63 k72 (mX0_findPaths_97 k63 k72 fu)
noncomputable def bX0_findPaths_72 (k63 : Int → Int → Int → Int → Mem → Option (Int × Mem)) (k72 : Int → Int → Int → Int → Int → Mem → Option (Int × Mem)) (l0 l2 l3 l4 l5 : Int) (M : Mem) : Option (Int × Mem) :=
  if l3 ≤ l5 then
    k63 l0 l2 l3 (wI (l4 + 1)) M
  else
    (gF 0 4 M l0).bind fun a79 =>
    (aG 13 M a79 (wI ((wI (l2 + (wI (l5 * l3)))) + l4))).bind fun a91 =>
    mX0_findPaths_97 k63 k72 FU l0 l2 l3 l4 l5 a91 0 M
noncomputable def mX0_findPaths_72 (k63 : Int → Int → Int → Int → Mem → Option (Int × Mem)) : Nat → Int → Int → Int → Int → Int → Mem → Option (Int × Mem)
  | 0 => fun _ _ _ _ _ _ => none
  | fu + 1 => bX0_findPaths_72 k63 (mX0_findPaths_72 k63 fu)
noncomputable def bX0_findPaths_63 (k63 : Int → Int → Int → Int → Mem → Option (Int × Mem)) (l0 l2 l3 l4 : Int) (M : Mem) : Option (Int × Mem) :=
  if l3 ≤ l4 then
    some (0, M)
  else
    mX0_findPaths_72 k63 FU l0 l2 l3 l4 0 M
noncomputable def mX0_findPaths_63 : Nat → Int → Int → Int → Int → Mem → Option (Int × Mem)
  | 0 => fun _ _ _ _ _ => none
  | fu + 1 => bX0_findPaths_63 (mX0_findPaths_63 fu)
noncomputable def mX0_findPaths (l0 l1 : Int) (M : Mem) : Option (Int × Mem) :=
  (gF 0 5 M l0).bind fun a1 =>
  if iand (ishr a1 l1) 1 = 0 then
    (gF 0 5 M l0).bind fun a14 =>
    (pF 0 5 M l0 (ior a14 (ishl 1 l1))).bind fun M21 =>
    (gF 0 0 M21 l0).bind fun a25 =>
    (gF 3 3 M21 a25).bind fun a28 =>
    (aG 10 M21 a28 l1).bind fun a32 =>
    (gF 0 0 M21 l0).bind fun a35 =>
    (gF 3 5 M21 a35).bind fun a38 =>
    (aG 10 M21 a38 l1).bind fun a42 =>
    (gF 0 2 M21 l0).bind fun a45 =>
    (gF 0 4 M21 l0).bind fun a50 =>
    (aC 13 M21 a45 a32 a50 a32 (wI (a42 * a42))).bind fun M57 =>
    mX0_findPaths_63 FU l0 a32 a42 0 M57
  else
    some (0, M)
noncomputable def mX3_place_29 (l0 l1 l2 s0 : Int) (M : Mem) : Option (Int × Mem) :=
  if l2 < 0 then
    some ((-1), M)
  else
    (gF 3 4 M l0).bind fun a37 =>
    (aG 10 M a37 l1).bind fun a41 =>
    if a41 ≤ l2 then
      some ((-1), M)
    else
      if s0 < 0 then
        some ((-1), M)
      else
        (gF 3 5 M l0).bind fun a53 =>
        (aG 10 M a53 l1).bind fun a57 =>
        if s0 < a57 then
          (gF 3 3 M l0).bind fun a64 =>
          (aG 10 M a64 l1).bind fun a68 =>
          (gF 3 5 M l0).bind fun a71 =>
          (aG 10 M a71 l1).bind fun a75 =>
          some (wI ((wI (a68 + (wI (l2 * a75)))) + s0), M)
        else
          some ((-1), M)
noncomputable def mX3_place (l0 l1 l2 l3 : Int) (M : Mem) : Option (Int × Mem) :=
  if l1 < 0 then
    some ((-1), M)
  else
    (gF 3 6 M l0).bind fun a6 =>
    if l1 < a6 then
      (gF 3 2 M l0).bind fun a15 =>
      (aG 10 M a15 l1).bind fun a19 =>
      if a19 = (-1) then
        mX3_place_29 l0 l1 l2 0 M
      else
        mX3_place_29 l0 l1 l2 l3 M
    else
      some ((-1), M)
noncomputable def mX0_reached (l0 l1 l2 l3 : Int) (M : Mem) : Option (Int × Mem) :=
  (gF 0 0 M l0).bind fun a1 =>
  (gK 3 M a1).bind fun _ =>
  (mX3_isOfOneKindTwice a1 l1 M).bind fun q5 =>
  if q5.1 = 0 then
    some (0, q5.2)
  else
    (gK 0 q5.2 l0).bind fun _ =>
    (mX0_findPaths l0 l1 q5.2).bind fun q15 =>
    (gF 0 0 q15.2 l0).bind fun a19 =>
    (gK 3 q15.2 a19).bind fun _ =>
    (mX3_place a19 l1 l2 l3 q15.2).bind fun q25 =>
    if q25.1 < 0 then
      some (0, q25.2)
    else
      if 36 ≤ q25.1 then
        some (0, q25.2)
      else
        (gF 0 4 q25.2 l0).bind fun a43 =>
        (aG 13 q25.2 a43 q25.1).bind fun a48 =>
        some (a48, q25.2)
noncomputable def bX0_treeLike_56 (k44 : Int → Int → Int → Int → Int → Mem → Option (Int × Mem)) (k56 : Int → Int → Int → Int → Int → Int → Int → Mem → Option (Int × Mem)) (l0 l2 l3 l4 l6 l7 l9 : Int) (M : Mem) : Option (Int × Mem) :=
  if l3 ≤ l9 then
    (gF 0 4 M l0).bind fun a104 =>
    (aG 13 M a104 (wI ((wI (l2 + (wI (l6 * l3)))) + l6))).bind fun a116 =>
    k44 l0 l2 l3 (lor l4 a116) (wI (l6 + 1)) M
  else
    (gF 0 2 M l0).bind fun a63 =>
    (aG 13 M a63 (wI ((wI (l2 + (wI (l6 * l3)))) + l9))).bind fun a75 =>
    k56 l0 l2 l3 (lor l4 (land l7 a75)) l6 (lor l7 a75) (wI (l9 + 1)) M
noncomputable def mX0_treeLike_56 (k44 : Int → Int → Int → Int → Int → Mem → Option (Int × Mem)) : Nat → Int → Int → Int → Int → Int → Int → Int → Mem → Option (Int × Mem)
  | 0 => fun _ _ _ _ _ _ _ _ => none
  | fu + 1 => bX0_treeLike_56 k44 (mX0_treeLike_56 k44 fu)
noncomputable def bX0_treeLike_44 (k44 : Int → Int → Int → Int → Int → Mem → Option (Int × Mem)) (l0 l2 l3 l4 l6 : Int) (M : Mem) : Option (Int × Mem) :=
  if l3 ≤ l6 then
    some (lxor l4 (-1), M)
  else
    mX0_treeLike_56 k44 FU l0 l2 l3 l4 l6 0 0 M
noncomputable def mX0_treeLike_44 : Nat → Int → Int → Int → Int → Int → Mem → Option (Int × Mem)
  | 0 => fun _ _ _ _ _ _ => none
  | fu + 1 => bX0_treeLike_44 (mX0_treeLike_44 fu)
noncomputable def mX0_treeLike (l0 l1 : Int) (M : Mem) : Option (Int × Mem) :=
  (gF 0 0 M l0).bind fun a1 =>
  (gK 3 M a1).bind fun _ =>
  (mX3_isOfOneKindTwice a1 l1 M).bind fun q5 =>
  if q5.1 = 0 then
    some (0, q5.2)
  else
    (gK 0 q5.2 l0).bind fun _ =>
    (mX0_findPaths l0 l1 q5.2).bind fun q15 =>
    (gF 0 0 q15.2 l0).bind fun a19 =>
    (gF 3 3 q15.2 a19).bind fun a22 =>
    (aG 10 q15.2 a22 l1).bind fun a26 =>
    (gF 0 0 q15.2 l0).bind fun a29 =>
    (gF 3 5 q15.2 a29).bind fun a32 =>
    (aG 10 q15.2 a32 l1).bind fun a36 =>
    mX0_treeLike_44 FU l0 a26 a36 0 0 q15.2
noncomputable def mX0_factAt (l0 l1 l2 l3 : Int) (M : Mem) : Option (Int × Mem) :=
  (gF 0 0 M l0).bind fun a1 =>
  (gK 3 M a1).bind fun _ =>
  (mX3_place a1 l1 l2 l3 M).bind fun q7 =>
  if q7.1 < 0 then
    some (0, q7.2)
  else
    if 36 ≤ q7.1 then
      some (0, q7.2)
    else
      (gF 0 2 q7.2 l0).bind fun a25 =>
      (aG 13 q7.2 a25 q7.1).bind fun a30 =>
      some (a30, q7.2)
noncomputable def mX0_judged (f_judged : Int → Int → Int → Mem → Option (Int × Mem)) (f_counted : Int → Int → Int → Mem → Option (Int × Mem)) (f_joined : Int → Int → Int → Mem → Option (Int × Mem)) (l0 l1 l2 : Int) (M : Mem) : Option (Int × Mem) :=
  (gF 0 1 M l0).bind fun a2 =>
  (gF 5 5 M a2).bind fun a5 =>
  if a5 ≤ l1 then
    some (0, M)
  else
    if l2 ≤ 40 then
      (gF 0 1 M l0).bind fun a20 =>
      (gF 5 0 M a20).bind fun a23 =>
      (aG 10 M a23 l1).bind fun a27 =>
      if a27 = 0 then
        (gK 0 M l0).bind fun _ =>
        (f_counted l0 l1 l2 M).bind fun q91 =>
        some (q91.1, q91.2)
      else
      if a27 = 1 then
        (gK 0 M l0).bind fun _ =>
        (f_counted l0 l1 l2 M).bind fun q91 =>
        some (q91.1, q91.2)
      else
      if a27 = 2 then
        (gK 0 M l0).bind fun _ =>
        (f_counted l0 l1 l2 M).bind fun q91 =>
        some (q91.1, q91.2)
      else
      if a27 = 3 then
        (gK 0 M l0).bind fun _ =>
        (f_counted l0 l1 l2 M).bind fun q91 =>
        some (q91.1, q91.2)
      else
      if a27 = 4 then
        (gK 0 M l0).bind fun _ =>
        (f_joined l0 l1 l2 M).bind fun q98 =>
        some (q98.1, q98.2)
      else
      if a27 = 5 then
        (gK 0 M l0).bind fun _ =>
        (f_joined l0 l1 l2 M).bind fun q98 =>
        some (q98.1, q98.2)
      else
      if a27 = 6 then
        (gK 0 M l0).bind fun _ =>
        (f_joined l0 l1 l2 M).bind fun q98 =>
        some (q98.1, q98.2)
      else
      if a27 = 7 then
        (gK 0 M l0).bind fun _ =>
        (f_joined l0 l1 l2 M).bind fun q98 =>
        some (q98.1, q98.2)
      else
      if a27 = 8 then
        (gF 0 1 M l0).bind fun a104 =>
        (gF 5 2 M a104).bind fun a107 =>
        (aG 10 M a107 l1).bind fun a111 =>
        (gK 0 M l0).bind fun _ =>
        (mX0_slot l0 a111 M).bind fun q112 =>
        (gF 0 1 q112.2 l0).bind fun a117 =>
        (gF 5 3 q112.2 a117).bind fun a120 =>
        (aG 10 q112.2 a120 l1).bind fun a124 =>
        (gK 0 q112.2 l0).bind fun _ =>
        (mX0_slot l0 a124 q112.2).bind fun q125 =>
        if q112.1 = q125.1 then
          some ((-1), q125.2)
        else
          some (0, q125.2)
      else
      if a27 = 9 then
        (gF 0 1 M l0).bind fun a141 =>
        (gF 5 1 M a141).bind fun a144 =>
        (aG 10 M a144 l1).bind fun a148 =>
        (gF 0 1 M l0).bind fun a151 =>
        (gF 5 2 M a151).bind fun a154 =>
        (aG 10 M a154 l1).bind fun a158 =>
        (gK 0 M l0).bind fun _ =>
        (mX0_slot l0 a158 M).bind fun q159 =>
        (gF 0 1 q159.2 l0).bind fun a164 =>
        (gF 5 3 q159.2 a164).bind fun a167 =>
        (aG 10 q159.2 a167 l1).bind fun a171 =>
        (gK 0 q159.2 l0).bind fun _ =>
        (mX0_slot l0 a171 q159.2).bind fun q172 =>
        (gK 0 q172.2 l0).bind fun _ =>
        (mX0_reached l0 a148 q159.1 q172.1 q172.2).bind fun q175 =>
        some (q175.1, q175.2)
      else
      if a27 = 10 then
        (gF 0 1 M l0).bind fun a181 =>
        (gF 5 1 M a181).bind fun a184 =>
        (aG 10 M a184 l1).bind fun a188 =>
        (gK 0 M l0).bind fun _ =>
        (mX0_treeLike l0 a188 M).bind fun q189 =>
        some (q189.1, q189.2)
      else
      (gF 0 1 M l0).bind fun a195 =>
      (gF 5 1 M a195).bind fun a198 =>
      (aG 10 M a198 l1).bind fun a202 =>
      (gF 0 1 M l0).bind fun a205 =>
      (gF 5 2 M a205).bind fun a208 =>
      (aG 10 M a208 l1).bind fun a212 =>
      (gK 0 M l0).bind fun _ =>
      (mX0_slot l0 a212 M).bind fun q213 =>
      (gF 0 1 q213.2 l0).bind fun a218 =>
      (gF 5 3 q213.2 a218).bind fun a221 =>
      (aG 10 q213.2 a221 l1).bind fun a225 =>
      (gK 0 q213.2 l0).bind fun _ =>
      (mX0_slot l0 a225 q213.2).bind fun q226 =>
      (gK 0 q226.2 l0).bind fun _ =>
      (mX0_factAt l0 a202 q213.1 q226.1 q226.2).bind fun q229 =>
      some (q229.1, q229.2)
    else
      some (0, M)
noncomputable def bX0_counted_42 (f_judged : Int → Int → Int → Mem → Option (Int × Mem)) (f_counted : Int → Int → Int → Mem → Option (Int × Mem)) (f_joined : Int → Int → Int → Mem → Option (Int × Mem)) (k42 : Int → Int → Int → Int → Int → Int → Int → Int → Int → Mem → Option (Int × Mem)) (l0 l1 l2 l3 l4 l5 l7 l9 l11 : Int) (M : Mem) : Option (Int × Mem) :=
  if l3 ≤ l11 then
    (gF 0 1 M l0).bind fun a103 =>
    (gF 5 0 M a103).bind fun a106 =>
    (aG 10 M a106 l1).bind fun a110 =>
    if a110 = 0 then
      (mX0_atLeast l3 l5 l7 l9 M).bind fun q143 =>
      some (q143.1, q143.2)
    else
    if a110 = 1 then
      some (l5, M)
    else
    if a110 = 2 then
      (gF 0 1 M l0).bind fun a151 =>
      (gF 5 1 M a151).bind fun a154 =>
      (aG 10 M a154 l1).bind fun a158 =>
      (mX0_atLeast a158 l5 l7 l9 M).bind fun q165 =>
      some (q165.1, q165.2)
    else
    (gF 0 1 M l0).bind fun a170 =>
    (gF 5 1 M a170).bind fun a173 =>
    (aG 10 M a173 l1).bind fun a177 =>
    (mX0_atLeast (wI (a177 + 1)) l5 l7 l9 M).bind fun q186 =>
    some (lxor q186.1 (-1), q186.2)
  else
    (gF 0 3 M l0).bind fun a49 =>
    (aS 10 M a49 l4 l11).bind fun M56 =>
    (gK 0 M56 l0).bind fun _ =>
    (f_judged l0 (wI (l1 + 1)) (wI (l2 + 1)) M56).bind fun q64 =>
    k42 l0 l1 l2 l3 l4 (lor l5 q64.1) (lor l7 (land l5 q64.1)) (lor l9 (land l7 q64.1)) (wI (l11 + 1)) q64.2
noncomputable def mX0_counted_42 (f_judged : Int → Int → Int → Mem → Option (Int × Mem)) (f_counted : Int → Int → Int → Mem → Option (Int × Mem)) (f_joined : Int → Int → Int → Mem → Option (Int × Mem)) : Nat → Int → Int → Int → Int → Int → Int → Int → Int → Int → Mem → Option (Int × Mem)
  | 0 => fun _ _ _ _ _ _ _ _ _ _ => none
  | fu + 1 => bX0_counted_42 f_judged f_counted f_joined (mX0_counted_42 f_judged f_counted f_joined fu)
noncomputable def mX0_counted (f_judged : Int → Int → Int → Mem → Option (Int × Mem)) (f_counted : Int → Int → Int → Mem → Option (Int × Mem)) (f_joined : Int → Int → Int → Mem → Option (Int × Mem)) (l0 l1 l2 : Int) (M : Mem) : Option (Int × Mem) :=
  (gK 0 M l0).bind fun _ =>
  (mX0_sizeAt l0 l1 M).bind fun q2 =>
  (gF 0 1 q2.2 l0).bind fun a7 =>
  (gF 5 2 q2.2 a7).bind fun a10 =>
  (aG 10 q2.2 a10 l1).bind fun a14 =>
  if a14 < 0 then
    some (0, q2.2)
  else
    if a14 < 4 then
      mX0_counted_42 f_judged f_counted f_joined FU l0 l1 l2 q2.1 a14 0 0 0 0 q2.2
    else
      some (0, q2.2)
noncomputable def mX0_joined (f_judged : Int → Int → Int → Mem → Option (Int × Mem)) (f_counted : Int → Int → Int → Mem → Option (Int × Mem)) (f_joined : Int → Int → Int → Mem → Option (Int × Mem)) (l0 l1 l2 : Int) (M : Mem) : Option (Int × Mem) :=
  (gF 0 1 M l0).bind fun a4 =>
  (gF 5 5 M a4).bind fun a7 =>
  if wI (l1 + 1) < a7 then
    (gK 0 M l0).bind fun _ =>
    (f_judged l0 (wI (l1 + 1)) (wI (l2 + 1)) M).bind fun q22 =>
    (gF 0 1 q22.2 l0).bind fun a27 =>
    (gF 5 4 q22.2 a27).bind fun a30 =>
    (aG 10 q22.2 a30 (wI (l1 + 1))).bind fun a36 =>
    (gF 0 1 q22.2 l0).bind fun a40 =>
    (gF 5 0 q22.2 a40).bind fun a43 =>
    (aG 10 q22.2 a43 l1).bind fun a47 =>
    if a47 = 4 then
      some (lxor q22.1 (-1), q22.2)
    else
    if a47 = 5 then
      if lcmp q22.1 0 = 0 then
        some (0, q22.2)
      else
        (gK 0 q22.2 l0).bind fun _ =>
        (f_judged l0 a36 (wI (l2 + 1)) q22.2).bind fun q99 =>
        some (land q22.1 q99.1, q99.2)
    else
    if a47 = 6 then
      if lcmp q22.1 (-1) = 0 then
        some ((-1), q22.2)
      else
        (gK 0 q22.2 l0).bind fun _ =>
        (f_judged l0 a36 (wI (l2 + 1)) q22.2).bind fun q125 =>
        some (lor q22.1 q125.1, q125.2)
    else
    if lcmp q22.1 0 = 0 then
      some ((-1), q22.2)
    else
      (gK 0 q22.2 l0).bind fun _ =>
      (f_judged l0 a36 (wI (l2 + 1)) q22.2).bind fun q153 =>
      some (lor (lxor q22.1 (-1)) q153.1, q153.2)
  else
    some (0, M)
def noF : Int → Int → Int → Mem → Option (Int × Mem) := fun _ _ _ _ => none
theorem noF_so {α : Prop} {x0 x1 x2 : Int} {M : Mem} {q : Int × Mem} (h : noF x0 x1 x2 M = some q) : α := nomatch (show (none : Option (Int × Mem)) = some q from h)
noncomputable def gX0_judged : Nat → Int → Int → Int → Mem → Option (Int × Mem)
  | 0 => fun _ _ _ _ => none
  | d + 1 => mX0_judged noF (mX0_counted (gX0_judged d) noF noF) (mX0_joined (gX0_judged d) noF noF)
noncomputable def mX0_isSoIn (l0 l1 l2 l3 : Int) (M : Mem) : Option (Int × Mem) :=
  (gK 0 M l0).bind fun _ =>
  (mX0_takeWorld l0 l1 l2 l3 M).bind fun q4 =>
  (gK 0 q4.2 l0).bind fun _ =>
  (gX0_judged 45 l0 0 0 q4.2).bind fun q10 =>
  if lcmp q10.1 0 = 0 then
    some (0, q10.2)
  else
    some (1, q10.2)
noncomputable def mX7_soAt_18 (l0 l1 : Int) (M : Mem) : Option (Int × Mem) :=
  if iand (ishr l1 (wI (l0 - 6))) 1 = 0 then
    some (0, M)
  else
    some ((-1), M)
noncomputable def mX7_soAt (l0 l1 : Int) (M : Mem) : Option (Int × Mem) :=
  if l0 < 0 then
    mX7_soAt_18 l0 l1 M
  else
    if 6 ≤ l0 then
      mX7_soAt_18 l0 l1 M
    else
      (tG patL l0).bind fun a16 =>
      some (a16, M)
noncomputable def mX0_soInWord_63 (l0 : Int) (M : Mem) : Option (Int × Mem) :=
  (gK 0 M l0).bind fun _ =>
  (gX0_judged 45 l0 0 0 M).bind fun q66 =>
  some (q66.1, q66.2)
noncomputable def bX0_soInWord_18 (k18 : Int → Int → Int → Mem → Option (Int × Mem)) (l0 l3 l4 : Int) (M : Mem) : Option (Int × Mem) :=
  (gF 0 0 M l0).bind fun a21 =>
  (gF 3 7 M a21).bind fun a24 =>
  if a24 ≤ l4 then
    mX0_soInWord_63 l0 M
  else
    if 36 ≤ l4 then
      mX0_soInWord_63 l0 M
    else
      (gF 0 2 M l0).bind fun a38 =>
      (gF 0 0 M l0).bind fun a44 =>
      (gK 3 M a44).bind fun _ =>
      (mX3_bit a44 l4 M).bind fun q49 =>
      (mX7_soAt q49.1 l3 q49.2).bind fun q53 =>
      (aS 13 q53.2 a38 l4 q53.1).bind fun M56 =>
      k18 l0 l3 (wI (l4 + 1)) M56
noncomputable def mX0_soInWord_18 : Nat → Int → Int → Int → Mem → Option (Int × Mem)
  | 0 => fun _ _ _ _ => none
  | fu + 1 => bX0_soInWord_18 (mX0_soInWord_18 fu)
noncomputable def mX0_soInWord (l0 l1 l2 l3 : Int) (M : Mem) : Option (Int × Mem) :=
  (pF 0 0 M l0 l1).bind fun M2 =>
  (pF 0 1 M2 l0 l2).bind fun M7 =>
  (pF 0 5 M7 l0 0).bind fun M12 =>
  mX0_soInWord_18 FU l0 l3 0 M12
noncomputable def mX5_leadingAlls_30 (l1 : Int) (M : Mem) : Option (Int × Mem) :=
  some (l1, M)
noncomputable def bX5_leadingAlls_2 (k2 : Int → Int → Mem → Option (Int × Mem)) (l0 l1 : Int) (M : Mem) : Option (Int × Mem) :=
  (gF 5 5 M l0).bind fun a4 =>
  if a4 ≤ l1 then
    mX5_leadingAlls_30 l1 M
  else
    if 4 ≤ l1 then
      mX5_leadingAlls_30 l1 M
    else
      (gF 5 0 M l0).bind fun a16 =>
      (aG 10 M a16 l1).bind fun a20 =>
      if a20 = 0 then
        k2 l0 (wI (l1 + 1)) M
      else
        mX5_leadingAlls_30 l1 M
noncomputable def mX5_leadingAlls_2 : Nat → Int → Int → Mem → Option (Int × Mem)
  | 0 => fun _ _ _ => none
  | fu + 1 => bX5_leadingAlls_2 (mX5_leadingAlls_2 fu)
noncomputable def mX5_leadingAlls (l0 : Int) (M : Mem) : Option (Int × Mem) :=
  mX5_leadingAlls_2 FU l0 0 M
noncomputable def bX0_chooseNext_4 (k4 : Int → Int → Mem → Option (Int × Mem)) (l0 l2 : Int) (M : Mem) : Option (Int × Mem) :=
  if l2 < 0 then
    some (0, M)
  else
    (gF 0 3 M l0).bind fun a9 =>
    (aG 10 M a9 l2).bind fun a14 =>
    (aS 10 M a9 l2 (wI (a14 + 1))).bind fun M17 =>
    (gF 0 3 M17 l0).bind fun a19 =>
    (aG 10 M17 a19 l2).bind fun a23 =>
    (gK 0 M17 l0).bind fun _ =>
    (mX0_sizeAt l0 l2 M17).bind fun q26 =>
    if q26.1 ≤ a23 then
      (gF 0 3 q26.2 l0).bind fun a34 =>
      (aS 10 q26.2 a34 l2 0).bind fun M39 =>
      k4 l0 (wI (l2 + (-1))) M39
    else
      some (0, q26.2)
noncomputable def mX0_chooseNext_4 : Nat → Int → Int → Mem → Option (Int × Mem)
  | 0 => fun _ _ _ => none
  | fu + 1 => bX0_chooseNext_4 (mX0_chooseNext_4 fu)
noncomputable def mX0_chooseNext (l0 l1 : Int) (M : Mem) : Option (Int × Mem) :=
  mX0_chooseNext_4 FU l0 (wI (l1 - 1)) M
noncomputable def bX0_breakNumber_71 (k71 : Int → Int → Int → Int → Int → Mem → Option (Int × Mem)) (l0 l5 l6 l7 l8 : Int) (M : Mem) : Option (Int × Mem) :=
  if l7 ≤ l8 then
    some ((-1), M)
  else
    (gK 0 M l0).bind fun _ =>
    (gX0_judged 45 l0 l6 l6 M).bind fun q83 =>
    if lcmp q83.1 0 = 0 then
      (gF 0 3 q83.2 l0).bind fun a92 =>
      (aG 10 q83.2 a92 l5).bind fun a97 =>
      some (a97, q83.2)
    else
      (gK 0 q83.2 l0).bind fun _ =>
      (mX0_chooseNext l0 l6 q83.2).bind fun q102 =>
      k71 l0 l5 l6 l7 (wI (l8 + 1)) q102.2
noncomputable def mX0_breakNumber_71 : Nat → Int → Int → Int → Int → Int → Mem → Option (Int × Mem)
  | 0 => fun _ _ _ _ _ _ => none
  | fu + 1 => bX0_breakNumber_71 (mX0_breakNumber_71 fu)
noncomputable def bX0_breakNumber_36 (k36 : Int → Int → Int → Int → Int → Mem → Option (Int × Mem)) (l0 l5 l6 l7 l8 : Int) (M : Mem) : Option (Int × Mem) :=
  if l6 ≤ l8 then
    mX0_breakNumber_71 FU l0 l5 l6 l7 0 M
  else
    (gF 0 3 M l0).bind fun a44 =>
    (aS 10 M a44 l8 0).bind fun M50 =>
    (gK 0 M50 l0).bind fun _ =>
    (mX0_sizeAt l0 l8 M50).bind fun q56 =>
    k36 l0 l5 l6 (wI (l7 * q56.1)) (wI (l8 + 1)) q56.2
noncomputable def mX0_breakNumber_36 : Nat → Int → Int → Int → Int → Int → Mem → Option (Int × Mem)
  | 0 => fun _ _ _ _ _ _ => none
  | fu + 1 => bX0_breakNumber_36 (mX0_breakNumber_36 fu)
noncomputable def mX0_breakNumber (l0 l1 l2 l3 l5 : Int) (M : Mem) : Option (Int × Mem) :=
  (gK 0 M l0).bind fun _ =>
  (mX0_takeWorld l0 l1 l2 l3 M).bind fun q4 =>
  (gF 0 1 q4.2 l0).bind fun a8 =>
  (gK 5 q4.2 a8).bind fun _ =>
  (mX5_leadingAlls a8 q4.2).bind fun q11 =>
  if l5 < 0 then
    some ((-1), q11.2)
  else
    if l5 < q11.1 then
      mX0_breakNumber_36 FU l0 l5 q11.1 1 0 q11.2
    else
      some ((-1), q11.2)
noncomputable def mX7_init (l0 : Int) (M : Mem) : Option (Int × Mem) :=
  (gK 7 M l0).bind fun _ =>
  (nA 13 64 M 64).bind fun q7 =>
  (pF 7 0 q7.2 l0 q7.1).bind fun M9 =>
  (pF 7 1 M9 l0 0).bind fun M14 =>
  (pF 7 2 M14 l0 0).bind fun M19 =>
  some (0, M19)
noncomputable def mX1_init (l0 : Int) (M : Mem) : Option (Int × Mem) :=
  (gK 1 M l0).bind fun _ =>
  (nA 10 3 M 3).bind fun q6 =>
  (pF 1 0 q6.2 l0 q6.1).bind fun M8 =>
  (nA 10 2592 M8 2592).bind fun q15 =>
  (pF 1 1 q15.2 l0 q15.1).bind fun M17 =>
  (some (nO 7 M17)).bind fun q21 =>
  (gK 7 q21.2 q21.1).bind fun _ =>
  (mX7_init q21.1 q21.2).bind fun q25 =>
  (pF 1 2 q25.2 l0 q21.1).bind fun M28 =>
  (some (nO 7 M28)).bind fun q32 =>
  (gK 7 q32.2 q32.1).bind fun _ =>
  (mX7_init q32.1 q32.2).bind fun q36 =>
  (pF 1 3 q36.2 l0 q32.1).bind fun M39 =>
  (pF 1 4 M39 l0 0).bind fun M44 =>
  (pF 1 5 M44 l0 0).bind fun M49 =>
  (pZ 1 6 M49 l0 0).bind fun M54 =>
  (pZ 1 7 M54 l0 0).bind fun M59 =>
  some (0, M59)
noncomputable def mX1_forget (l0 : Int) (M : Mem) : Option (Int × Mem) :=
  (pZ 1 6 M l0 0).bind fun M2 =>
  (pZ 1 7 M2 l0 0).bind fun M7 =>
  some (0, M7)
noncomputable def mX1_ordersOf_30 (l0 l1 : Int) (M : Mem) : Option (Int × Mem) :=
  (gF 3 0 M l0).bind fun a34 =>
  (aG 10 M a34 l1).bind fun a38 =>
  (tG ordN a38).bind fun a39 =>
  some (a39, M)
noncomputable def bX1_ordersOf_2 (k2 : Int → Int → Int → Mem → Option (Int × Mem)) (l0 l1 l2 : Int) (M : Mem) : Option (Int × Mem) :=
  (gF 3 6 M l0).bind fun a4 =>
  if a4 ≤ l2 then
    some (1, M)
  else
    (gF 3 1 M l0).bind fun a11 =>
    (aG 10 M a11 l2).bind fun a15 =>
    if a15 = l1 then
      mX1_ordersOf_30 l0 l1 M
    else
      (gF 3 2 M l0).bind fun a21 =>
      (aG 10 M a21 l2).bind fun a25 =>
      if a25 = l1 then
        mX1_ordersOf_30 l0 l1 M
      else
        k2 l0 l1 (wI (l2 + 1)) M
noncomputable def mX1_ordersOf_2 : Nat → Int → Int → Int → Mem → Option (Int × Mem)
  | 0 => fun _ _ _ _ => none
  | fu + 1 => bX1_ordersOf_2 (mX1_ordersOf_2 fu)
noncomputable def mX1_ordersOf (l0 l1 : Int) (M : Mem) : Option (Int × Mem) :=
  mX1_ordersOf_2 FU l0 l1 0 M
noncomputable def mX1_ordered_31 (l2 : Int) (M : Mem) : Option (Int × Mem) :=
  some (l2, M)
noncomputable def mX1_ordered (l0 l1 l2 : Int) (M : Mem) : Option (Int × Mem) :=
  (gF 1 0 M l0).bind fun a1 =>
  (aG 10 M a1 l1).bind fun a5 =>
  (some (wI ((wI (a5 * 3)) + l2))).bind fun b10 =>
  if b10 < 0 then
    mX1_ordered_31 l2 M
  else
    if 18 ≤ b10 then
      mX1_ordered_31 l2 M
    else
      (tG ordL b10).bind fun a27 =>
      some (a27, M)
noncomputable def mX1_addWay_137 (k4 : Int → Int → Int → Int → Mem → Option (Int × Mem)) (k23 : Int → Int → Int → Int → Int → Int → Mem → Option (Int × Mem)) (k58 : Int → Int → Int → Int → Int → Int → Int → Int → Mem → Option (Int × Mem)) (l0 l1 l2 l3 l4 l5 l6 l7 : Int) (M : Mem) : Option (Int × Mem) :=
  k58 l0 l1 (wI (l2 + 1)) l3 l4 l5 l6 (wI (l7 + 1)) M
noncomputable def mX1_addWay_96 (k4 : Int → Int → Int → Int → Mem → Option (Int × Mem)) (k23 : Int → Int → Int → Int → Int → Int → Mem → Option (Int × Mem)) (k58 : Int → Int → Int → Int → Int → Int → Int → Int → Mem → Option (Int × Mem)) (l0 l1 l2 l3 l4 l5 l6 l7 s0 s1 : Int) (M : Mem) : Option (Int × Mem) :=
  (gF 1 4 M l0).bind fun a100 =>
  if 216 ≤ a100 then
    mX1_addWay_137 k4 k23 k58 l0 l1 l2 l3 l4 l5 l6 l7 M
  else
    if 12 ≤ l2 then
      mX1_addWay_137 k4 k23 k58 l0 l1 l2 l3 l4 l5 l6 l7 M
    else
      (gF 1 1 M l0).bind fun a116 =>
      (gF 1 4 M l0).bind fun a120 =>
      (gK 3 M l1).bind fun _ =>
      (mX3_bit l1 (wI (s0 + s1)) M).bind fun q132 =>
      (aS 10 q132.2 a116 (wI ((wI (a120 * 12)) + l2)) (ishl 1 q132.1)).bind fun M136 =>
      mX1_addWay_137 k4 k23 k58 l0 l1 l2 l3 l4 l5 l6 l7 M136
noncomputable def bX1_addWay_58 (k4 : Int → Int → Int → Int → Mem → Option (Int × Mem)) (k23 : Int → Int → Int → Int → Int → Int → Mem → Option (Int × Mem)) (k58 : Int → Int → Int → Int → Int → Int → Int → Int → Mem → Option (Int × Mem)) (l0 l1 l2 l3 l4 l5 l6 l7 : Int) (M : Mem) : Option (Int × Mem) :=
  (gF 3 5 M l1).bind fun a61 =>
  (aG 10 M a61 l3).bind fun a65 =>
  if a65 ≤ l7 then
    k23 l0 l1 l2 l3 l4 (wI (l5 + 1)) M
  else
    (gF 3 3 M l1).bind fun a70 =>
    (aG 10 M a70 l3).bind fun a74 =>
    if l4 = (-1) then
      mX1_addWay_96 k4 k23 k58 l0 l1 l2 l3 l4 l5 l6 l7 (wI (a74 + l6)) 0 M
    else
      (gK 1 M l0).bind fun _ =>
      (mX1_ordered l0 l4 l7 M).bind fun q93 =>
      mX1_addWay_96 k4 k23 k58 l0 l1 l2 l3 l4 l5 l6 l7 (wI (a74 + l6)) q93.1 q93.2
noncomputable def mX1_addWay_58 (k4 : Int → Int → Int → Int → Mem → Option (Int × Mem)) (k23 : Int → Int → Int → Int → Int → Int → Mem → Option (Int × Mem)) : Nat → Int → Int → Int → Int → Int → Int → Int → Int → Mem → Option (Int × Mem)
  | 0 => fun _ _ _ _ _ _ _ _ _ => none
  | fu + 1 => bX1_addWay_58 k4 k23 (mX1_addWay_58 k4 k23 fu)
noncomputable def bX1_addWay_23 (k4 : Int → Int → Int → Int → Mem → Option (Int × Mem)) (k23 : Int → Int → Int → Int → Int → Int → Mem → Option (Int × Mem)) (l0 l1 l2 l3 l4 l5 : Int) (M : Mem) : Option (Int × Mem) :=
  (gF 3 4 M l1).bind fun a26 =>
  (aG 10 M a26 l3).bind fun a30 =>
  if a30 ≤ l5 then
    k4 l0 l1 l2 (wI (l3 + 1)) M
  else
    (gF 3 1 M l1).bind fun a36 =>
    (aG 10 M a36 l3).bind fun a40 =>
    (gK 1 M l0).bind fun _ =>
    (mX1_ordered l0 a40 l5 M).bind fun q43 =>
    (gF 3 5 q43.2 l1).bind fun a47 =>
    (aG 10 q43.2 a47 l3).bind fun a51 =>
    mX1_addWay_58 k4 k23 FU l0 l1 l2 l3 l4 l5 (wI (q43.1 * a51)) 0 q43.2
noncomputable def mX1_addWay_23 (k4 : Int → Int → Int → Int → Mem → Option (Int × Mem)) : Nat → Int → Int → Int → Int → Int → Int → Mem → Option (Int × Mem)
  | 0 => fun _ _ _ _ _ _ _ => none
  | fu + 1 => bX1_addWay_23 k4 (mX1_addWay_23 k4 fu)
noncomputable def bX1_addWay_4 (k4 : Int → Int → Int → Int → Mem → Option (Int × Mem)) (l0 l1 l2 l3 : Int) (M : Mem) : Option (Int × Mem) :=
  (gF 3 6 M l1).bind fun a6 =>
  if a6 ≤ l3 then
    (gF 1 4 M l0).bind fun a160 =>
    (pF 1 4 M l0 (if 216 < wI (a160 + 1) then 216 else wI (a160 + 1))).bind fun M171 =>
    some (0, M171)
  else
    (gF 3 2 M l1).bind fun a13 =>
    (aG 10 M a13 l3).bind fun a17 =>
    mX1_addWay_23 k4 FU l0 l1 l2 l3 a17 0 M
noncomputable def mX1_addWay_4 : Nat → Int → Int → Int → Int → Mem → Option (Int × Mem)
  | 0 => fun _ _ _ _ _ => none
  | fu + 1 => bX1_addWay_4 (mX1_addWay_4 fu)
noncomputable def mX1_addWay (l0 l1 : Int) (M : Mem) : Option (Int × Mem) :=
  mX1_addWay_4 FU l0 l1 0 0 M
noncomputable def bX1_layOut_95 (k61 : Int → Int → Int → Int → Int → Mem → Option (Int × Mem)) (k78 : Int → Int → Int → Int → Int → Mem → Option (Int × Mem)) (k95 : Int → Int → Int → Int → Int → Mem → Option (Int × Mem)) (l0 l1 l2 l3 l4 : Int) (M : Mem) : Option (Int × Mem) :=
  (gF 1 0 M l0).bind fun a96 =>
  (aG 10 M a96 2).bind fun a100 =>
  if l4 ≤ a100 then
    (gF 1 0 M l0).bind fun a125 =>
    (aG 10 M a125 1).bind fun a130 =>
    (aS 10 M a125 1 (wI (a130 + 1))).bind fun M133 =>
    k78 l0 l1 l2 l3 l4 M133
  else
    (gK 1 M l0).bind fun _ =>
    (mX1_addWay l0 l1 M).bind fun q108 =>
    (gF 1 0 q108.2 l0).bind fun a112 =>
    (aG 10 q108.2 a112 2).bind fun a117 =>
    (aS 10 q108.2 a112 2 (wI (a117 + 1))).bind fun M120 =>
    k95 l0 l1 l2 l3 l4 M120
noncomputable def mX1_layOut_95 (k61 : Int → Int → Int → Int → Int → Mem → Option (Int × Mem)) (k78 : Int → Int → Int → Int → Int → Mem → Option (Int × Mem)) : Nat → Int → Int → Int → Int → Int → Mem → Option (Int × Mem)
  | 0 => fun _ _ _ _ _ _ => none
  | fu + 1 => bX1_layOut_95 k61 k78 (mX1_layOut_95 k61 k78 fu)
noncomputable def bX1_layOut_78 (k61 : Int → Int → Int → Int → Int → Mem → Option (Int × Mem)) (k78 : Int → Int → Int → Int → Int → Mem → Option (Int × Mem)) (l0 l1 l2 l3 l4 : Int) (M : Mem) : Option (Int × Mem) :=
  (gF 1 0 M l0).bind fun a79 =>
  (aG 10 M a79 1).bind fun a83 =>
  if l3 ≤ a83 then
    (gF 1 0 M l0).bind fun a138 =>
    (aG 10 M a138 0).bind fun a143 =>
    (aS 10 M a138 0 (wI (a143 + 1))).bind fun M146 =>
    k61 l0 l1 l2 l3 l4 M146
  else
    (gF 1 0 M l0).bind fun a89 =>
    (aS 10 M a89 2 0).bind fun M94 =>
    mX1_layOut_95 k61 k78 FU l0 l1 l2 l3 l4 M94
noncomputable def mX1_layOut_78 (k61 : Int → Int → Int → Int → Int → Mem → Option (Int × Mem)) : Nat → Int → Int → Int → Int → Int → Mem → Option (Int × Mem)
  | 0 => fun _ _ _ _ _ _ => none
  | fu + 1 => bX1_layOut_78 k61 (mX1_layOut_78 k61 fu)
noncomputable def bX1_layOut_61 (k61 : Int → Int → Int → Int → Int → Mem → Option (Int × Mem)) (l0 l1 l2 l3 l4 : Int) (M : Mem) : Option (Int × Mem) :=
  (gF 1 0 M l0).bind fun a62 =>
  (aG 10 M a62 0).bind fun a66 =>
  if l2 ≤ a66 then
    some (0, M)
  else
    (gF 1 0 M l0).bind fun a72 =>
    (aS 10 M a72 1 0).bind fun M77 =>
    mX1_layOut_78 k61 FU l0 l1 l2 l3 l4 M77
noncomputable def mX1_layOut_61 : Nat → Int → Int → Int → Int → Int → Mem → Option (Int × Mem)
  | 0 => fun _ _ _ _ _ _ => none
  | fu + 1 => bX1_layOut_61 (mX1_layOut_61 fu)
noncomputable def mX1_layOut (l0 l1 : Int) (M : Mem) : Option (Int × Mem) :=
  (gF 1 6 M l0).bind fun a1 =>
  if a1 = 0 then
    (gF 3 7 M l1).bind fun a8 =>
    if a8 ≤ 12 then
      (pZ 1 6 M l0 1).bind fun M19 =>
      (gF 3 7 M19 l1).bind fun a24 =>
      (pF 1 5 M19 l0 a24).bind fun M27 =>
      (pF 1 4 M27 l0 0).bind fun M32 =>
      (mX1_ordersOf l1 0 M32).bind fun q37 =>
      (mX1_ordersOf l1 1 q37.2).bind fun q43 =>
      (mX1_ordersOf l1 2 q43.2).bind fun q49 =>
      (gF 1 0 q49.2 l0).bind fun a55 =>
      (aS 10 q49.2 a55 0 0).bind fun M60 =>
      mX1_layOut_61 FU l0 l1 q37.1 q43.1 q49.1 M60
    else
      some (0, M)
  else
    some (0, M)
noncomputable def bX7_takeNone_42 (k42 : Int → Int → Mem → Option (Int × Mem)) (l0 l2 : Int) (M : Mem) : Option (Int × Mem) :=
  (gF 7 1 M l0).bind fun a44 =>
  if a44 ≤ l2 then
    some (0, M)
  else
    (gF 7 0 M l0).bind fun a51 =>
    (aS 13 M a51 l2 0).bind fun M56 =>
    k42 l0 (wI (l2 + 1)) M56
noncomputable def mX7_takeNone_42 : Nat → Int → Int → Mem → Option (Int × Mem)
  | 0 => fun _ _ _ => none
  | fu + 1 => bX7_takeNone_42 (mX7_takeNone_42 fu)
noncomputable def mX7_takeNone_37 (l0 s0 s1 : Int) (M : Mem) : Option (Int × Mem) :=
  (pF 7 1 M s0 s1).bind fun M37 =>
  mX7_takeNone_42 FU l0 0 M37
noncomputable def mX7_takeNone (l0 l1 : Int) (M : Mem) : Option (Int × Mem) :=
  (pF 7 2 M l0 (if 0 < if 12 < l1 then 12 else l1 then if 12 < l1 then 12 else l1 else 0)).bind fun M11 =>
  (gF 7 2 M11 l0).bind fun a16 =>
  if 6 < a16 then
    (gF 7 2 M11 l0).bind fun a30 =>
    mX7_takeNone_37 l0 l0 (ishl 1 (wI (a30 - 6))) M11
  else
    mX7_takeNone_37 l0 l0 1 M11
noncomputable def mX7_most (l0 : Int) (M : Mem) : Option (Int × Mem) :=
  (gF 7 2 M l0).bind fun a2 =>
  some (ishl 1 a2, M)
noncomputable def mX7_has (l0 l1 : Int) (M : Mem) : Option (Int × Mem) :=
  if l1 < 0 then
    some (0, M)
  else
    (gK 7 M l0).bind fun _ =>
    (mX7_most l0 M).bind fun q6 =>
    if q6.1 ≤ l1 then
      some (0, q6.2)
    else
      (gF 7 0 q6.2 l0).bind fun a13 =>
      (aG 13 q6.2 a13 (ishr l1 6)).bind fun a20 =>
      if lcmp (land (lshr a20 l1) 1) 0 = 0 then
        some (0, q6.2)
      else
        some (1, q6.2)
noncomputable def mX7_add (l0 l1 : Int) (M : Mem) : Option (Int × Mem) :=
  if l1 < 0 then
    some (0, M)
  else
    (gK 7 M l0).bind fun _ =>
    (mX7_most l0 M).bind fun q6 =>
    if q6.1 ≤ l1 then
      some (0, q6.2)
    else
      (gF 7 0 q6.2 l0).bind fun a13 =>
      (aG 13 q6.2 a13 (ishr l1 6)).bind fun a21 =>
      (aS 13 q6.2 a13 (ishr l1 6) (lor a21 (lshl 1 l1))).bind fun M26 =>
      some (0, M26)
noncomputable def mX1_renumbered_45 (k5 : Int → Int → Int → Int → Int → Mem → Option (Int × Mem)) (l0 l1 l2 l3 l4 : Int) (M : Mem) : Option (Int × Mem) :=
  k5 l0 l1 l2 l3 (wI (l4 + 1)) M
noncomputable def bX1_renumbered_5 (k5 : Int → Int → Int → Int → Int → Mem → Option (Int × Mem)) (l0 l1 l2 l3 l4 : Int) (M : Mem) : Option (Int × Mem) :=
  (gF 1 5 M l0).bind fun a8 =>
  if a8 ≤ l4 then
    some (l3, M)
  else
    (gF 1 5 M l0).bind fun a16 =>
    if iand (ishr l2 (wI ((wI (a16 - 1)) - l4))) 1 = 0 then
      mX1_renumbered_45 k5 l0 l1 l2 l3 l4 M
    else
      (gF 1 1 M l0).bind fun a32 =>
      (aG 10 M a32 (wI ((wI (l1 * 12)) + l4))).bind fun a42 =>
      mX1_renumbered_45 k5 l0 l1 l2 (ior l3 a42) l4 M
noncomputable def mX1_renumbered_5 : Nat → Int → Int → Int → Int → Int → Mem → Option (Int × Mem)
  | 0 => fun _ _ _ _ _ _ => none
  | fu + 1 => bX1_renumbered_5 (mX1_renumbered_5 fu)
noncomputable def mX1_renumbered (l0 l1 l2 : Int) (M : Mem) : Option (Int × Mem) :=
  mX1_renumbered_5 FU l0 l1 l2 0 0 M
noncomputable def mX1_markLeastOnes_83 (k24 : Int → Int → Mem → Option (Int × Mem)) (l0 l1 : Int) (M : Mem) : Option (Int × Mem) :=
  k24 l0 (wI (l1 + 1)) M
noncomputable def bX1_markLeastOnes_56 (k24 : Int → Int → Mem → Option (Int × Mem)) (k56 : Int → Int → Int → Mem → Option (Int × Mem)) (l0 l1 l2 : Int) (M : Mem) : Option (Int × Mem) :=
  (gF 1 4 M l0).bind fun a58 =>
  if a58 ≤ l2 then
    mX1_markLeastOnes_83 k24 l0 l1 M
  else
    (gF 1 3 M l0).bind fun a65 =>
    (gK 1 M l0).bind fun _ =>
    (mX1_renumbered l0 l2 l1 M).bind fun q71 =>
    (gK 7 q71.2 a65).bind fun _ =>
    (mX7_add a65 q71.1 q71.2).bind fun q74 =>
    k56 l0 l1 (wI (l2 + 1)) q74.2
noncomputable def mX1_markLeastOnes_56 (k24 : Int → Int → Mem → Option (Int × Mem)) : Nat → Int → Int → Int → Mem → Option (Int × Mem)
  | 0 => fun _ _ _ _ => none
  | fu + 1 => bX1_markLeastOnes_56 k24 (mX1_markLeastOnes_56 k24 fu)
noncomputable def bX1_markLeastOnes_24 (k24 : Int → Int → Mem → Option (Int × Mem)) (l0 l1 : Int) (M : Mem) : Option (Int × Mem) :=
  (gF 1 3 M l0).bind fun a26 =>
  (gK 7 M a26).bind fun _ =>
  (mX7_most a26 M).bind fun q29 =>
  if q29.1 ≤ l1 then
    some (0, q29.2)
  else
    (gF 1 3 q29.2 l0).bind fun a36 =>
    (gK 7 q29.2 a36).bind fun _ =>
    (mX7_has a36 l1 q29.2).bind fun q40 =>
    if q40.1 = 0 then
      (gF 1 2 q40.2 l0).bind fun a47 =>
      (gK 7 q40.2 a47).bind fun _ =>
      (mX7_add a47 l1 q40.2).bind fun q51 =>
      mX1_markLeastOnes_56 k24 FU l0 l1 0 q51.2
    else
      mX1_markLeastOnes_83 k24 l0 l1 q40.2
noncomputable def mX1_markLeastOnes_24 : Nat → Int → Int → Mem → Option (Int × Mem)
  | 0 => fun _ _ _ => none
  | fu + 1 => bX1_markLeastOnes_24 (mX1_markLeastOnes_24 fu)
noncomputable def mX1_markLeastOnes (l0 : Int) (M : Mem) : Option (Int × Mem) :=
  (gF 1 2 M l0).bind fun a1 =>
  (gF 1 5 M l0).bind fun a5 =>
  (gK 7 M a1).bind fun _ =>
  (mX7_takeNone a1 a5 M).bind fun q8 =>
  (gF 1 3 q8.2 l0).bind fun a12 =>
  (gF 1 5 q8.2 l0).bind fun a16 =>
  (gK 7 q8.2 a12).bind fun _ =>
  (mX7_takeNone a12 a16 q8.2).bind fun q19 =>
  mX1_markLeastOnes_24 FU l0 0 q19.2
noncomputable def mX1_leastOnes_21 (l0 : Int) (M : Mem) : Option (Int × Mem) :=
  (gF 1 2 M l0).bind fun a22 =>
  some (a22, M)
noncomputable def mX1_leastOnes (l0 l1 : Int) (M : Mem) : Option (Int × Mem) :=
  (gK 1 M l0).bind fun _ =>
  (mX1_layOut l0 l1 M).bind fun q2 =>
  (gF 1 7 q2.2 l0).bind fun a6 =>
  if a6 = 0 then
    (gK 1 q2.2 l0).bind fun _ =>
    (mX1_markLeastOnes l0 q2.2).bind fun q13 =>
    (pZ 1 7 q13.2 l0 1).bind fun M18 =>
    mX1_leastOnes_21 l0 M18
  else
    mX1_leastOnes_21 l0 q2.2
noncomputable def bX1_leastOf_10 (k10 : Int → Int → Int → Int → Mem → Option (Int × Mem)) (l0 l2 l3 l4 : Int) (M : Mem) : Option (Int × Mem) :=
  (gF 1 4 M l0).bind fun a13 =>
  if a13 ≤ l4 then
    some (l3, M)
  else
    (gK 1 M l0).bind fun _ =>
    (mX1_renumbered l0 l4 l2 M).bind fun q24 =>
    (some (if q24.1 < l3 then q24.1 else l3)).bind fun b30 =>
    k10 l0 l2 b30 (wI (l4 + 1)) q24.2
noncomputable def mX1_leastOf_10 : Nat → Int → Int → Int → Int → Mem → Option (Int × Mem)
  | 0 => fun _ _ _ _ _ => none
  | fu + 1 => bX1_leastOf_10 (mX1_leastOf_10 fu)
noncomputable def mX1_leastOf (l0 l1 l2 : Int) (M : Mem) : Option (Int × Mem) :=
  (gK 1 M l0).bind fun _ =>
  (mX1_layOut l0 l1 M).bind fun q2 =>
  mX1_leastOf_10 FU l0 l2 l2 0 q2.2
noncomputable def mJ6_bitCount_0f7a4 (l0 : Int) (M : Mem) : Option (Int × Mem) :=
  (some (wI (l0 - (iand (iushr l0 1) 1431655765)))).bind fun b9 =>
  (some (wI ((iand b9 858993459) + (iand (iushr b9 2) 858993459)))).bind fun b23 =>
  (some (iand (wI (b23 + (iushr b23 4))) 252645135)).bind fun b33 =>
  (some (wI (b33 + (iushr b33 8)))).bind fun b40 =>
  (some (wI (b40 + (iushr b40 16)))).bind fun b47 =>
  some (iand b47 63, M)
noncomputable def bX1_fewestApart_12 (k12 : Int → Int → Int → Int → Int → Mem → Option (Int × Mem)) (l0 l2 l3 l4 l5 : Int) (M : Mem) : Option (Int × Mem) :=
  (gF 1 4 M l0).bind fun a15 =>
  if a15 ≤ l5 then
    some (l4, M)
  else
    (gK 1 M l0).bind fun _ =>
    (mX1_renumbered l0 l5 l3 M).bind fun q28 =>
    (mJ6_bitCount_0f7a4 (ixor l2 q28.1) q28.2).bind fun q32 =>
    (some (if q32.1 < l4 then q32.1 else l4)).bind fun b38 =>
    k12 l0 l2 l3 b38 (wI (l5 + 1)) q32.2
noncomputable def mX1_fewestApart_12 : Nat → Int → Int → Int → Int → Int → Mem → Option (Int × Mem)
  | 0 => fun _ _ _ _ _ _ => none
  | fu + 1 => bX1_fewestApart_12 (mX1_fewestApart_12 fu)
noncomputable def mX1_fewestApart (l0 l1 l2 l3 : Int) (M : Mem) : Option (Int × Mem) :=
  (gK 1 M l0).bind fun _ =>
  (mX1_layOut l0 l1 M).bind fun q2 =>
  mX1_fewestApart_12 FU l0 l2 l3 12 0 q2.2
noncomputable def mX5_init (l0 l1 : Int) (M : Mem) : Option (Int × Mem) :=
  (gK 5 M l0).bind fun _ =>
  (pF 5 5 M l0 0).bind fun M6 =>
  (some (if 0 < l1 then l1 else 0)).bind fun b14 =>
  (nA 10 40 M6 b14).bind fun q17 =>
  (pF 5 0 q17.2 l0 q17.1).bind fun M19 =>
  (nA 10 40 M19 b14).bind fun q24 =>
  (pF 5 1 q24.2 l0 q24.1).bind fun M26 =>
  (nA 10 40 M26 b14).bind fun q31 =>
  (pF 5 2 q31.2 l0 q31.1).bind fun M33 =>
  (nA 10 40 M33 b14).bind fun q38 =>
  (pF 5 3 q38.2 l0 q38.1).bind fun M40 =>
  (nA 10 40 M40 b14).bind fun q45 =>
  (pF 5 4 q45.2 l0 q45.1).bind fun M47 =>
  some (0, M47)
noncomputable def mX2_init (l0 : Int) (M : Mem) : Option (Int × Mem) :=
  (gK 2 M l0).bind fun _ =>
  (pF 2 0 M l0 0).bind fun M6 =>
  (pF 2 1 M6 l0 0).bind fun M11 =>
  (pF 2 2 M11 l0 0).bind fun M16 =>
  (pF 2 3 M16 l0 0).bind fun M21 =>
  (pZ 2 4 M21 l0 0).bind fun M26 =>
  (some (nO 5 M26)).bind fun q30 =>
  (gK 5 q30.2 q30.1).bind fun _ =>
  (mX5_init q30.1 40 q30.2).bind fun q36 =>
  (pF 2 5 q36.2 l0 q30.1).bind fun M39 =>
  (nA 10 402 M39 402).bind fun q46 =>
  (pF 2 6 q46.2 l0 q46.1).bind fun M48 =>
  (pF 2 7 M48 l0 0).bind fun M53 =>
  (pF 2 8 M53 l0 0).bind fun M58 =>
  (pF 2 9 M58 l0 0).bind fun M63 =>
  (pF 2 10 M63 l0 0).bind fun M68 =>
  (pF 2 11 M68 l0 0).bind fun M73 =>
  some (0, M73)
noncomputable def mX6_clearTape (l0 : Int) (M : Mem) : Option (Int × Mem) :=
  (pF 6 5 M l0 0).bind fun M2 =>
  (pF 6 6 M2 l0 0).bind fun M7 =>
  (pF 6 7 M7 l0 (-1)).bind fun M12 =>
  some (0, M12)
noncomputable def mX2_expectPart (l0 l1 : Int) (M : Mem) : Option (Int × Mem) :=
  (gF 2 7 M l0).bind fun a1 =>
  (gF 2 6 M l0).bind fun a5 =>
  (aL 10 M a5).bind fun a8 =>
  if a8 ≤ a1 then
    some (0, M)
  else
    (gF 2 6 M l0).bind fun a13 =>
    (gF 2 7 M l0).bind fun a17 =>
    (aS 10 M a13 a17 l1).bind fun M21 =>
    (gF 2 7 M21 l0).bind fun a24 =>
    (pF 2 7 M21 l0 (wI (a24 + 1))).bind fun M29 =>
    some (0, M29)
noncomputable def mX2_isLetter (l0 l1 : Int) (M : Mem) : Option (Int × Mem) :=
  (gF 2 2 M l0).bind fun a2 =>
  if a2 ≤ l1 then
    some (0, M)
  else
    (gF 2 1 M l0).bind fun a9 =>
    (aG 10 M a9 l1).bind fun a13 =>
    if a13 < 97 then
      some (0, M)
    else
      (gF 2 1 M l0).bind fun a20 =>
      (aG 10 M a20 l1).bind fun a24 =>
      if 122 < a24 then
        some (0, M)
      else
        some (1, M)
noncomputable def mX2_isDigit (l0 l1 : Int) (M : Mem) : Option (Int × Mem) :=
  (gF 2 2 M l0).bind fun a2 =>
  if a2 ≤ l1 then
    some (0, M)
  else
    (gF 2 1 M l0).bind fun a9 =>
    (aG 10 M a9 l1).bind fun a13 =>
    if a13 < 48 then
      some (0, M)
    else
      (gF 2 1 M l0).bind fun a20 =>
      (aG 10 M a20 l1).bind fun a24 =>
      if 57 < a24 then
        some (0, M)
      else
        some (1, M)
noncomputable def bX2_advance_151 (k151 : Int → Mem → Option (Int × Mem)) (l0 : Int) (M : Mem) : Option (Int × Mem) :=
  (gF 2 10 M l0).bind fun a152 =>
  (gF 2 9 M l0).bind fun a156 =>
  if 4 ≤ wI (a152 - a156) then
    some (0, M)
  else
    (gF 2 10 M l0).bind fun a166 =>
    (gK 2 M l0).bind fun _ =>
    (mX2_isDigit l0 a166 M).bind fun q169 =>
    if q169.1 = 0 then
      some (0, q169.2)
    else
      (gF 2 11 q169.2 l0).bind fun a179 =>
      (gF 2 1 q169.2 l0).bind fun a184 =>
      (gF 2 10 q169.2 l0).bind fun a188 =>
      (aG 10 q169.2 a184 a188).bind fun a191 =>
      (pF 2 11 q169.2 l0 (wI ((wI ((wI (10 * a179)) + a191)) - 48))).bind fun M196 =>
      (gF 2 10 M196 l0).bind fun a201 =>
      (pF 2 10 M196 l0 (wI (a201 + 1))).bind fun M206 =>
      k151 l0 M206
noncomputable def mX2_advance_151 : Nat → Int → Mem → Option (Int × Mem)
  | 0 => fun _ _ => none
  | fu + 1 => bX2_advance_151 (mX2_advance_151 fu)
noncomputable def bX2_advance_100 (k100 : Int → Mem → Option (Int × Mem)) (l0 : Int) (M : Mem) : Option (Int × Mem) :=
  (gF 2 10 M l0).bind fun a101 =>
  (gF 2 2 M l0).bind fun a105 =>
  if a105 ≤ a101 then
    some (0, M)
  else
    (gF 2 10 M l0).bind fun a113 =>
    (gK 2 M l0).bind fun _ =>
    (mX2_isLetter l0 a113 M).bind fun q116 =>
    if q116.1 = 0 then
      some (0, q116.2)
    else
      (gF 2 10 q116.2 l0).bind fun a124 =>
      (pF 2 10 q116.2 l0 (wI (a124 + 1))).bind fun M129 =>
      k100 l0 M129
noncomputable def mX2_advance_100 : Nat → Int → Mem → Option (Int × Mem)
  | 0 => fun _ _ => none
  | fu + 1 => bX2_advance_100 (mX2_advance_100 fu)
noncomputable def mX2_advance_52 (l0 : Int) (M : Mem) : Option (Int × Mem) :=
  (gF 2 10 M l0).bind fun a54 =>
  (pF 2 9 M l0 a54).bind fun M57 =>
  (pF 2 11 M57 l0 0).bind fun M62 =>
  (gF 2 10 M62 l0).bind fun a66 =>
  (gF 2 2 M62 l0).bind fun a70 =>
  if a66 < a70 then
    (gF 2 10 M62 l0).bind fun a86 =>
    (gK 2 M62 l0).bind fun _ =>
    (mX2_isLetter l0 a86 M62).bind fun q89 =>
    if q89.1 = 0 then
      (gF 2 10 q89.2 l0).bind fun a137 =>
      (gK 2 q89.2 l0).bind fun _ =>
      (mX2_isDigit l0 a137 q89.2).bind fun q140 =>
      if q140.1 = 0 then
        (pF 2 8 q140.2 l0 3).bind fun M214 =>
        some (0, M214)
      else
        (pF 2 8 q140.2 l0 2).bind fun M148 =>
        mX2_advance_151 FU l0 M148
    else
      (pF 2 8 q89.2 l0 1).bind fun M97 =>
      mX2_advance_100 FU l0 M97
  else
    (pF 2 8 M62 l0 0).bind fun M78 =>
    some (0, M78)
noncomputable def mX2_advance_39 (k0 : Int → Mem → Option (Int × Mem)) (l0 : Int) (M : Mem) : Option (Int × Mem) :=
  (gF 2 10 M l0).bind fun a41 =>
  (pF 2 10 M l0 (wI (a41 + 1))).bind fun M46 =>
  k0 l0 M46
noncomputable def bX2_advance_0 (k0 : Int → Mem → Option (Int × Mem)) (l0 : Int) (M : Mem) : Option (Int × Mem) :=
  (gF 2 10 M l0).bind fun a1 =>
  (gF 2 2 M l0).bind fun a5 =>
  if a5 ≤ a1 then
    mX2_advance_52 l0 M
  else
    (gF 2 1 M l0).bind fun a12 =>
    (gF 2 10 M l0).bind fun a16 =>
    (aG 10 M a12 a16).bind fun a19 =>
    if a19 = 10 then
      mX2_advance_39 k0 l0 M
    else
      (gF 2 1 M l0).bind fun a26 =>
      (gF 2 10 M l0).bind fun a30 =>
      (aG 10 M a26 a30).bind fun a33 =>
      if a33 = 32 then
        mX2_advance_39 k0 l0 M
      else
        mX2_advance_52 l0 M
noncomputable def mX2_advance_0 : Nat → Int → Mem → Option (Int × Mem)
  | 0 => fun _ _ => none
  | fu + 1 => bX2_advance_0 (mX2_advance_0 fu)
noncomputable def mX2_advance (l0 : Int) (M : Mem) : Option (Int × Mem) :=
  mX2_advance_0 FU l0 M
noncomputable def bX2_isWord_28 (k28 : Int → Int → Int → Mem → Option (Int × Mem)) (l0 l1 l2 : Int) (M : Mem) : Option (Int × Mem) :=
  (sLn l1).bind fun a30 =>
  if a30 ≤ l2 then
    some (1, M)
  else
    (gF 2 1 M l0).bind fun a37 =>
    (gF 2 9 M l0).bind fun a41 =>
    (aG 10 M a37 (wI (a41 + l2))).bind fun a46 =>
    (sAt l1 l2).bind fun a49 =>
    if a46 = a49 then
      k28 l0 l1 (wI (l2 + 1)) M
    else
      some (0, M)
noncomputable def mX2_isWord_28 : Nat → Int → Int → Int → Mem → Option (Int × Mem)
  | 0 => fun _ _ _ _ => none
  | fu + 1 => bX2_isWord_28 (mX2_isWord_28 fu)
noncomputable def mX2_isWord (l0 l1 : Int) (M : Mem) : Option (Int × Mem) :=
  (gF 2 8 M l0).bind fun a1 =>
  if a1 = 1 then
    (gF 2 10 M l0).bind fun a9 =>
    (gF 2 9 M l0).bind fun a13 =>
    (sLn l1).bind fun a18 =>
    if wI (a9 - a13) = a18 then
      mX2_isWord_28 FU l0 l1 0 M
    else
      some (0, M)
  else
    some (0, M)
noncomputable def mX2_oneLetter (l0 : Int) (M : Mem) : Option (Int × Mem) :=
  (gF 2 8 M l0).bind fun a1 =>
  if a1 = 1 then
    (gF 2 10 M l0).bind fun a9 =>
    (gF 2 9 M l0).bind fun a13 =>
    if wI (a9 - a13) = 1 then
      (gF 2 1 M l0).bind fun a22 =>
      (gF 2 9 M l0).bind fun a26 =>
      (aG 10 M a22 a26).bind fun a29 =>
      some (a29, M)
    else
      some (0, M)
  else
    some (0, M)
noncomputable def mX3_hasRelation (l0 l1 : Int) (M : Mem) : Option (Int × Mem) :=
  if l1 < 0 then
    some (0, M)
  else
    (gF 3 6 M l0).bind fun a6 =>
    if a6 ≤ l1 then
      some (0, M)
    else
      some (1, M)
noncomputable def mX2_firstWord (l0 : Int) (M : Mem) : Option (Int × Mem) :=
  (gK 2 M l0).bind fun _ =>
  (mX2_isWord l0 (-100) M).bind fun q3 =>
  if q3.1 = 0 then
    (gK 2 q3.2 l0).bind fun _ =>
    (mX2_isWord l0 (-101) q3.2).bind fun q14 =>
    if q14.1 = 0 then
      (gK 2 q14.2 l0).bind fun _ =>
      (mX2_isWord l0 (-102) q14.2).bind fun q25 =>
      if q25.1 = 0 then
        (gK 2 q25.2 l0).bind fun _ =>
        (mX2_isWord l0 (-103) q25.2).bind fun q36 =>
        if q36.1 = 0 then
          (gK 2 q36.2 l0).bind fun _ =>
          (mX2_isWord l0 (-104) q36.2).bind fun q47 =>
          if q47.1 = 0 then
            (gK 2 q47.2 l0).bind fun _ =>
            (mX2_isWord l0 (-105) q47.2).bind fun q58 =>
            if q58.1 = 0 then
              (gK 2 q58.2 l0).bind fun _ =>
              (mX2_isWord l0 (-106) q58.2).bind fun q69 =>
              if q69.1 = 0 then
                (gK 2 q69.2 l0).bind fun _ =>
                (mX2_isWord l0 (-107) q69.2).bind fun q81 =>
                if q81.1 = 0 then
                  (gK 2 q81.2 l0).bind fun _ =>
                  (mX2_isWord l0 (-108) q81.2).bind fun q93 =>
                  if q93.1 = 0 then
                    (gK 2 q93.2 l0).bind fun _ =>
                    (mX2_isWord l0 (-109) q93.2).bind fun q105 =>
                    if q105.1 = 0 then
                      (gK 2 q105.2 l0).bind fun _ =>
                      (mX2_isWord l0 (-110) q105.2).bind fun q117 =>
                      if q117.1 = 0 then
                        (gF 2 3 q117.2 l0).bind fun a127 =>
                        (gK 2 q117.2 l0).bind fun _ =>
                        (mX2_oneLetter l0 q117.2).bind fun q131 =>
                        (gK 3 q131.2 a127).bind fun _ =>
                        (mX3_hasRelation a127 (wI (q131.1 - 114)) q131.2).bind fun q137 =>
                        if q137.1 = 0 then
                          some ((-1), q137.2)
                        else
                          some (11, q137.2)
                      else
                        some (10, q117.2)
                    else
                      some (9, q105.2)
                  else
                    some (8, q93.2)
                else
                  some (7, q81.2)
              else
                some (6, q69.2)
            else
              some (5, q58.2)
          else
            some (4, q47.2)
        else
          some (3, q36.2)
      else
        some (2, q25.2)
    else
      some (1, q14.2)
  else
    some (0, q3.2)
noncomputable def mX2_note (l0 l1 l2 : Int) (M : Mem) : Option (Int × Mem) :=
  (gF 2 0 M l0).bind fun a1 =>
  (gF 6 6 M a1).bind fun a4 =>
  if a4 = 0 then
    (gF 2 0 M l0).bind fun a11 =>
    (pF 6 6 M a11 l1).bind fun M15 =>
    (gF 2 0 M15 l0).bind fun a19 =>
    (pF 6 7 M15 a19 l2).bind fun M23 =>
    some (0, M23)
  else
    some (0, M)
noncomputable def mX2_refuse (l0 : Int) (M : Mem) : Option (Int × Mem) :=
  (gF 2 4 M l0).bind fun a1 =>
  if a1 = 0 then
    (pZ 2 4 M l0 1).bind fun M9 =>
    (gF 2 0 M9 l0).bind fun a13 =>
    (pF 6 6 M9 a13 1).bind fun M17 =>
    (gF 2 0 M17 l0).bind fun a21 =>
    (gF 2 9 M17 l0).bind fun a25 =>
    (pF 6 7 M17 a21 a25).bind fun M28 =>
    some (0, M28)
  else
    some (0, M)
noncomputable def mX2_depth (l0 : Int) (M : Mem) : Option (Int × Mem) :=
  some (ishr l0 16, M)
noncomputable def mX2_takeNumber_12 (l0 : Int) (M : Mem) : Option (Int × Mem) :=
  (gF 2 4 M l0).bind fun a13 =>
  if a13 = 0 then
    (gF 2 11 M l0).bind fun a22 =>
    (gK 2 M l0).bind fun _ =>
    (mX2_advance l0 M).bind fun q27 =>
    some (a22, q27.2)
  else
    some ((-1), M)
noncomputable def mX2_takeNumber (l0 : Int) (M : Mem) : Option (Int × Mem) :=
  (gF 2 8 M l0).bind fun a1 =>
  if a1 = 2 then
    mX2_takeNumber_12 l0 M
  else
    (gK 2 M l0).bind fun _ =>
    (mX2_refuse l0 M).bind fun q9 =>
    mX2_takeNumber_12 l0 q9.2
noncomputable def mX2_takeVariable_21 (l0 l1 : Int) (M : Mem) : Option (Int × Mem) :=
  (gF 2 4 M l0).bind fun a22 =>
  if a22 = 0 then
    (gK 2 M l0).bind fun _ =>
    (mX2_advance l0 M).bind fun q31 =>
    some (wI (l1 - 119), q31.2)
  else
    some ((-1), M)
noncomputable def mX2_takeVariable_17 (l0 l1 : Int) (M : Mem) : Option (Int × Mem) :=
  (gK 2 M l0).bind fun _ =>
  (mX2_refuse l0 M).bind fun q18 =>
  mX2_takeVariable_21 l0 l1 q18.2
noncomputable def mX2_takeVariable (l0 : Int) (M : Mem) : Option (Int × Mem) :=
  (gK 2 M l0).bind fun _ =>
  (mX2_oneLetter l0 M).bind fun q1 =>
  if q1.1 < 119 then
    mX2_takeVariable_17 l0 q1.1 q1.2
  else
    if q1.1 ≤ 122 then
      mX2_takeVariable_21 l0 q1.1 q1.2
    else
      mX2_takeVariable_17 l0 q1.1 q1.2
noncomputable def mX2_takeKind_48 (l0 l1 : Int) (M : Mem) : Option (Int × Mem) :=
  (gF 2 4 M l0).bind fun a49 =>
  if a49 = 0 then
    (gK 2 M l0).bind fun _ =>
    (mX2_advance l0 M).bind fun q58 =>
    some (l1, q58.2)
  else
    some ((-1), M)
noncomputable def mX2_takeKind (l0 : Int) (M : Mem) : Option (Int × Mem) :=
  (gK 2 M l0).bind fun _ =>
  (mX2_isWord l0 (-111) M).bind fun q5 =>
  if q5.1 = 0 then
    (gK 2 q5.2 l0).bind fun _ =>
    (mX2_isWord l0 (-112) q5.2).bind fun q19 =>
    if q19.1 = 0 then
      (gK 2 q19.2 l0).bind fun _ =>
      (mX2_isWord l0 (-113) q19.2).bind fun q33 =>
      if q33.1 = 0 then
        (gK 2 q33.2 l0).bind fun _ =>
        (mX2_refuse l0 q33.2).bind fun q45 =>
        mX2_takeKind_48 l0 (-1) q45.2
      else
        mX2_takeKind_48 l0 2 q33.2
    else
      mX2_takeKind_48 l0 1 q19.2
  else
    mX2_takeKind_48 l0 0 q5.2
noncomputable def mX5_write_53 (l0 : Int) (M : Mem) : Option (Int × Mem) :=
  (gF 5 5 M l0).bind fun a55 =>
  (pF 5 5 M l0 (wI (a55 + 1))).bind fun M60 =>
  some (0, M60)
noncomputable def mX5_write (l0 l1 l2 l3 l4 : Int) (M : Mem) : Option (Int × Mem) :=
  (gF 5 5 M l0).bind fun a1 =>
  (gF 5 0 M l0).bind fun a5 =>
  (aL 10 M a5).bind fun a8 =>
  if a8 ≤ a1 then
    mX5_write_53 l0 M
  else
    (gF 5 0 M l0).bind fun a13 =>
    (gF 5 5 M l0).bind fun a17 =>
    (aS 10 M a13 a17 l1).bind fun M21 =>
    (gF 5 1 M21 l0).bind fun a23 =>
    (gF 5 5 M21 l0).bind fun a27 =>
    (aS 10 M21 a23 a27 l2).bind fun M31 =>
    (gF 5 2 M31 l0).bind fun a33 =>
    (gF 5 5 M31 l0).bind fun a37 =>
    (aS 10 M31 a33 a37 l3).bind fun M41 =>
    (gF 5 3 M41 l0).bind fun a43 =>
    (gF 5 5 M41 l0).bind fun a47 =>
    (aS 10 M41 a43 a47 l4).bind fun M52 =>
    mX5_write_53 l0 M52
noncomputable def mX2_bind (l0 l1 l2 l3 : Int) (M : Mem) : Option (Int × Mem) :=
  (mX2_depth l0 M).bind fun q6 =>
  (some (if 4 < wI (q6.1 + 1) then 4 else wI (q6.1 + 1))).bind fun b15 =>
  (some (iand (iand l0 65535) (ixor (ishl 15 (wI (4 * l1))) (-1)))).bind fun b29 =>
  some (ior (ior b29 (ishl (wI ((wI (1 + l2)) + (wI (4 * l3)))) (wI (4 * l1)))) (ishl b15 16), q6.2)
noncomputable def mX2_readBinder_39 (l0 l1 l2 s0 : Int) (M : Mem) : Option (Int × Mem) :=
  (gK 2 M l0).bind fun _ =>
  (mX2_takeVariable l0 M).bind fun q41 =>
  (gK 2 q41.2 l0).bind fun _ =>
  (mX2_takeKind l0 q41.2).bind fun q47 =>
  (gF 2 4 q47.2 l0).bind fun a53 =>
  if a53 = 0 then
    (mX2_depth l2 q47.2).bind fun q61 =>
    (some (if 3 < q61.1 then 3 else q61.1)).bind fun b68 =>
    (gF 2 5 q61.2 l0).bind fun a71 =>
    (gK 5 q61.2 a71).bind fun _ =>
    (mX5_write a71 l1 s0 b68 q47.1 q61.2).bind fun q80 =>
    (mX2_bind l2 q41.1 q47.1 b68 q80.2).bind fun q91 =>
    (gK 2 q91.2 l0).bind fun _ =>
    (mX2_expectPart l0 q91.1 q91.2).bind fun q94 =>
    some (0, q94.2)
  else
    some (0, q47.2)
noncomputable def mX2_readBinder_31 (l0 l1 l2 : Int) (M : Mem) : Option (Int × Mem) :=
  (gK 2 M l0).bind fun _ =>
  (mX2_takeNumber l0 M).bind fun q32 =>
  mX2_readBinder_39 l0 l1 l2 q32.1 q32.2
noncomputable def mX2_readBinder_17 (l0 l1 l2 : Int) (M : Mem) : Option (Int × Mem) :=
  (gK 2 M l0).bind fun _ =>
  (mX2_advance l0 M).bind fun q18 =>
  if l1 = 2 then
    mX2_readBinder_31 l0 l1 l2 q18.2
  else
    if l1 = 3 then
      mX2_readBinder_31 l0 l1 l2 q18.2
    else
      mX2_readBinder_39 l0 l1 l2 0 q18.2
noncomputable def mX2_readBinder (l0 l1 l2 : Int) (M : Mem) : Option (Int × Mem) :=
  (mX2_depth l2 M).bind fun q1 =>
  if q1.1 < 4 then
    mX2_readBinder_17 l0 l1 l2 q1.2
  else
    (gF 2 9 q1.2 l0).bind fun a11 =>
    (gK 2 q1.2 l0).bind fun _ =>
    (mX2_note l0 5 a11 q1.2).bind fun q14 =>
    mX2_readBinder_17 l0 l1 l2 q14.2
noncomputable def mX2_readJoint (l0 l1 l2 : Int) (M : Mem) : Option (Int × Mem) :=
  (gK 2 M l0).bind fun _ =>
  (mX2_advance l0 M).bind fun q1 =>
  (gF 2 5 q1.2 l0).bind fun a5 =>
  (gK 5 q1.2 a5).bind fun _ =>
  (mX5_write a5 l1 0 0 0 q1.2).bind fun q12 =>
  (gK 2 q12.2 l0).bind fun _ =>
  (mX2_expectPart l0 l2 q12.2).bind fun q17 =>
  some (0, q17.2)
noncomputable def mX2_kindOf (l0 : Int) (M : Mem) : Option (Int × Mem) :=
  if l0 = 0 then
    some ((-1), M)
  else
    some (iand (wI (l0 - 1)) 3, M)
noncomputable def mX2_takeBound_64 (l5 : Int) (M : Mem) : Option (Int × Mem) :=
  some (l5, M)
noncomputable def mX2_takeBound (l0 l1 l2 : Int) (M : Mem) : Option (Int × Mem) :=
  (gF 2 9 M l0).bind fun a1 =>
  (gK 2 M l0).bind fun _ =>
  (mX2_takeVariable l0 M).bind fun q6 =>
  if q6.1 = (-1) then
    some (0, q6.2)
  else
    (some (iand (ishr l1 (wI (4 * q6.1))) 15)).bind fun b28 =>
    if b28 = 0 then
      (gK 2 q6.2 l0).bind fun _ =>
      (mX2_note l0 2 a1 q6.2).bind fun q38 =>
      mX2_takeBound_64 b28 q38.2
    else
      if l2 = (-1) then
        mX2_takeBound_64 b28 q6.2
      else
        (mX2_kindOf b28 q6.2).bind fun q51 =>
        if q51.1 = l2 then
          mX2_takeBound_64 b28 q51.2
        else
          (gK 2 q51.2 l0).bind fun _ =>
          (mX2_note l0 3 a1 q51.2).bind fun q61 =>
          mX2_takeBound_64 b28 q61.2
noncomputable def mX2_slotOf (l0 : Int) (M : Mem) : Option (Int × Mem) :=
  if l0 = 0 then
    some (0, M)
  else
    some (ishr (wI (l0 - 1)) 2, M)
noncomputable def mX2_readSame (l0 l1 : Int) (M : Mem) : Option (Int × Mem) :=
  (gK 2 M l0).bind fun _ =>
  (mX2_advance l0 M).bind fun q1 =>
  (gK 2 q1.2 l0).bind fun _ =>
  (mX2_takeBound l0 l1 (-1) q1.2).bind fun q7 =>
  (mX2_kindOf q7.1 q7.2).bind fun q14 =>
  (gK 2 q14.2 l0).bind fun _ =>
  (mX2_takeBound l0 l1 q14.1 q14.2).bind fun q17 =>
  (gF 2 5 q17.2 l0).bind fun a22 =>
  (mX2_slotOf q7.1 q17.2).bind fun q29 =>
  (mX2_slotOf q17.1 q29.2).bind fun q33 =>
  (gK 5 q33.2 a22).bind fun _ =>
  (mX5_write a22 8 0 q29.1 q33.1 q33.2).bind fun q36 =>
  some (0, q36.2)
noncomputable def mX2_takeRelation_23 (l0 l1 : Int) (M : Mem) : Option (Int × Mem) :=
  (gF 2 4 M l0).bind fun a24 =>
  if a24 = 0 then
    (gK 2 M l0).bind fun _ =>
    (mX2_advance l0 M).bind fun q33 =>
    some (l1, q33.2)
  else
    some ((-1), M)
noncomputable def mX2_takeRelation (l0 : Int) (M : Mem) : Option (Int × Mem) :=
  (gK 2 M l0).bind fun _ =>
  (mX2_oneLetter l0 M).bind fun q1 =>
  (gF 2 3 q1.2 l0).bind fun a9 =>
  (gK 3 q1.2 a9).bind fun _ =>
  (mX3_hasRelation a9 (wI (q1.1 - 114)) q1.2).bind fun q13 =>
  if q13.1 = 0 then
    (gK 2 q13.2 l0).bind fun _ =>
    (mX2_refuse l0 q13.2).bind fun q20 =>
    mX2_takeRelation_23 l0 (wI (q1.1 - 114)) q20.2
  else
    mX2_takeRelation_23 l0 (wI (q1.1 - 114)) q13.2
noncomputable def mX2_takeRoad_27 (l2 : Int) (M : Mem) : Option (Int × Mem) :=
  some (l2, M)
noncomputable def mX2_takeRoad (l0 : Int) (M : Mem) : Option (Int × Mem) :=
  (gF 2 9 M l0).bind fun a1 =>
  (gK 2 M l0).bind fun _ =>
  (mX2_takeRelation l0 M).bind fun q6 =>
  (gF 2 3 q6.2 l0).bind fun a11 =>
  (gK 3 q6.2 a11).bind fun _ =>
  (mX3_isOfOneKindTwice a11 q6.1 q6.2).bind fun q15 =>
  if q15.1 = 0 then
    (gK 2 q15.2 l0).bind fun _ =>
    (mX2_note l0 3 a1 q15.2).bind fun q24 =>
    mX2_takeRoad_27 q6.1 q24.2
  else
    mX2_takeRoad_27 q6.1 q15.2
noncomputable def mX2_readReach_33 (l0 l1 l2 s0 : Int) (M : Mem) : Option (Int × Mem) :=
  (gK 2 M l0).bind fun _ =>
  (mX2_takeBound l0 l1 s0 M).bind fun q37 =>
  (gK 2 q37.2 l0).bind fun _ =>
  (mX2_takeBound l0 l1 s0 q37.2).bind fun q45 =>
  (gF 2 5 q45.2 l0).bind fun a51 =>
  (mX2_slotOf q37.1 q45.2).bind fun q59 =>
  (mX2_slotOf q45.1 q59.2).bind fun q64 =>
  (gK 5 q64.2 a51).bind fun _ =>
  (mX5_write a51 9 l2 q59.1 q64.1 q64.2).bind fun q67 =>
  some (0, q67.2)
noncomputable def mX2_readReach (l0 l1 : Int) (M : Mem) : Option (Int × Mem) :=
  (gK 2 M l0).bind fun _ =>
  (mX2_advance l0 M).bind fun q1 =>
  (gK 2 q1.2 l0).bind fun _ =>
  (mX2_takeRoad l0 q1.2).bind fun q5 =>
  (gF 2 3 q5.2 l0).bind fun a10 =>
  (gK 3 q5.2 a10).bind fun _ =>
  (mX3_isOfOneKindTwice a10 q5.1 q5.2).bind fun q14 =>
  if q14.1 = 0 then
    mX2_readReach_33 l0 l1 q5.1 (-1) q14.2
  else
    (gF 2 3 q14.2 l0).bind fun a21 =>
    (gF 3 1 q14.2 a21).bind fun a24 =>
    (aG 10 q14.2 a24 q5.1).bind fun a28 =>
    mX2_readReach_33 l0 l1 q5.1 a28 q14.2
noncomputable def mX2_readTree (l0 : Int) (M : Mem) : Option (Int × Mem) :=
  (gK 2 M l0).bind fun _ =>
  (mX2_advance l0 M).bind fun q1 =>
  (gF 2 5 q1.2 l0).bind fun a5 =>
  (gK 2 q1.2 l0).bind fun _ =>
  (mX2_takeRoad l0 q1.2).bind fun q11 =>
  (gK 5 q11.2 a5).bind fun _ =>
  (mX5_write a5 10 q11.1 0 0 q11.2).bind fun q16 =>
  some (0, q16.2)
noncomputable def mX3_isOfTwo (l0 l1 : Int) (M : Mem) : Option (Int × Mem) :=
  if l1 < 0 then
    some (0, M)
  else
    (gF 3 6 M l0).bind fun a6 =>
    if a6 ≤ l1 then
      some (0, M)
    else
      (gF 3 2 M l0).bind fun a13 =>
      (aG 10 M a13 l1).bind fun a17 =>
      if a17 = (-1) then
        some (0, M)
      else
        some (1, M)
noncomputable def mX2_readFact_61 (l0 l2 l3 s0 : Int) (M : Mem) : Option (Int × Mem) :=
  (gF 2 5 M l0).bind fun a64 =>
  (mX2_slotOf l3 M).bind fun q71 =>
  (mX2_slotOf s0 q71.2).bind fun q76 =>
  (gK 5 q76.2 a64).bind fun _ =>
  (mX5_write a64 11 l2 q71.1 q76.1 q76.2).bind fun q79 =>
  some (0, q79.2)
noncomputable def mX2_readFact (l0 l1 : Int) (M : Mem) : Option (Int × Mem) :=
  (gK 2 M l0).bind fun _ =>
  (mX2_takeRelation l0 M).bind fun q1 =>
  (gF 2 3 q1.2 l0).bind fun a6 =>
  (gK 3 q1.2 a6).bind fun _ =>
  (mX3_hasRelation a6 q1.1 q1.2).bind fun q10 =>
  if q10.1 = 0 then
    some (0, q10.2)
  else
    (gF 2 3 q10.2 l0).bind fun a20 =>
    (gF 3 1 q10.2 a20).bind fun a23 =>
    (aG 10 q10.2 a23 q1.1).bind fun a27 =>
    (gK 2 q10.2 l0).bind fun _ =>
    (mX2_takeBound l0 l1 a27 q10.2).bind fun q28 =>
    (gF 2 3 q28.2 l0).bind fun a33 =>
    (gK 3 q28.2 a33).bind fun _ =>
    (mX3_isOfTwo a33 q1.1 q28.2).bind fun q37 =>
    if q37.1 = 0 then
      mX2_readFact_61 l0 q1.1 q28.1 0 q37.2
    else
      (gF 2 3 q37.2 l0).bind fun a46 =>
      (gF 3 2 q37.2 a46).bind fun a49 =>
      (aG 10 q37.2 a49 q1.1).bind fun a53 =>
      (gK 2 q37.2 l0).bind fun _ =>
      (mX2_takeBound l0 l1 a53 q37.2).bind fun q54 =>
      mX2_readFact_61 l0 q1.1 q28.1 q54.1 q54.2
noncomputable def mX2_readPart_56 (l0 l1 l2 : Int) (M : Mem) : Option (Int × Mem) :=
  if l2 = 0 then
    (gK 2 M l0).bind fun _ =>
    (mX2_readBinder l0 l2 l1 M).bind fun q119 =>
    some (0, q119.2)
  else
  if l2 = 1 then
    (gK 2 M l0).bind fun _ =>
    (mX2_readBinder l0 l2 l1 M).bind fun q119 =>
    some (0, q119.2)
  else
  if l2 = 2 then
    (gK 2 M l0).bind fun _ =>
    (mX2_readBinder l0 l2 l1 M).bind fun q119 =>
    some (0, q119.2)
  else
  if l2 = 3 then
    (gK 2 M l0).bind fun _ =>
    (mX2_readBinder l0 l2 l1 M).bind fun q119 =>
    some (0, q119.2)
  else
  if l2 = 4 then
    (gK 2 M l0).bind fun _ =>
    (mX2_readJoint l0 l2 l1 M).bind fun q128 =>
    some (0, q128.2)
  else
  if l2 = 5 then
    (gK 2 M l0).bind fun _ =>
    (mX2_readJoint l0 l2 l1 M).bind fun q137 =>
    (gK 2 q137.2 l0).bind fun _ =>
    (mX2_expectPart l0 l1 q137.2).bind fun q142 =>
    some (0, q142.2)
  else
  if l2 = 6 then
    (gK 2 M l0).bind fun _ =>
    (mX2_readJoint l0 l2 l1 M).bind fun q137 =>
    (gK 2 q137.2 l0).bind fun _ =>
    (mX2_expectPart l0 l1 q137.2).bind fun q142 =>
    some (0, q142.2)
  else
  if l2 = 7 then
    (gK 2 M l0).bind fun _ =>
    (mX2_readJoint l0 l2 l1 M).bind fun q137 =>
    (gK 2 q137.2 l0).bind fun _ =>
    (mX2_expectPart l0 l1 q137.2).bind fun q142 =>
    some (0, q142.2)
  else
  if l2 = 8 then
    (gK 2 M l0).bind fun _ =>
    (mX2_readSame l0 l1 M).bind fun q150 =>
    some (0, q150.2)
  else
  if l2 = 9 then
    (gK 2 M l0).bind fun _ =>
    (mX2_readReach l0 l1 M).bind fun q158 =>
    some (0, q158.2)
  else
  if l2 = 10 then
    (gK 2 M l0).bind fun _ =>
    (mX2_readTree l0 M).bind fun q165 =>
    some (0, q165.2)
  else
  (gK 2 M l0).bind fun _ =>
  (mX2_readFact l0 l1 M).bind fun q173 =>
  some (0, q173.2)
noncomputable def mX2_readPart (l0 : Int) (M : Mem) : Option (Int × Mem) :=
  (gF 2 7 M l0).bind fun a2 =>
  (pF 2 7 M l0 (wI (a2 - 1))).bind fun M7 =>
  (gF 2 6 M7 l0).bind fun a11 =>
  (gF 2 7 M7 l0).bind fun a15 =>
  (aG 10 M7 a11 a15).bind fun a18 =>
  (gK 2 M7 l0).bind fun _ =>
  (mX2_firstWord l0 M7).bind fun q21 =>
  if q21.1 = (-1) then
    (gK 2 q21.2 l0).bind fun _ =>
    (mX2_refuse l0 q21.2).bind fun q31 =>
    some (0, q31.2)
  else
    (gF 2 5 q21.2 l0).bind fun a36 =>
    (gF 5 5 q21.2 a36).bind fun a39 =>
    if a39 < 40 then
      mX2_readPart_56 l0 a18 q21.1 q21.2
    else
      (gF 2 9 q21.2 l0).bind fun a50 =>
      (gK 2 q21.2 l0).bind fun _ =>
      (mX2_note l0 4 a50 q21.2).bind fun q53 =>
      mX2_readPart_56 l0 a18 q21.1 q53.2
noncomputable def mX5_partsInside (l0 : Int) (M : Mem) : Option (Int × Mem) :=
  if l0 = 0 then
    some (1, M)
  else
  if l0 = 1 then
    some (1, M)
  else
  if l0 = 2 then
    some (1, M)
  else
  if l0 = 3 then
    some (1, M)
  else
  if l0 = 4 then
    some (1, M)
  else
  if l0 = 5 then
    some (2, M)
  else
  if l0 = 6 then
    some (2, M)
  else
  if l0 = 7 then
    some (2, M)
  else
  some (0, M)
noncomputable def mX5_findBehind_53 (k8 : Int → Int → Mem → Option (Int × Mem)) (k26 : Int → Int → Int → Int → Mem → Option (Int × Mem)) (l0 l1 l3 s0 : Int) (M : Mem) : Option (Int × Mem) :=
  k26 l0 l1 s0 (wI (l3 + (-1))) M
noncomputable def bX5_findBehind_26 (k8 : Int → Int → Mem → Option (Int × Mem)) (k26 : Int → Int → Int → Int → Mem → Option (Int × Mem)) (l0 l1 l2 l3 : Int) (M : Mem) : Option (Int × Mem) :=
  if l3 ≤ 0 then
    (gF 5 4 M l0).bind fun a61 =>
    (aS 10 M a61 l1 l2).bind fun M66 =>
    k8 l0 (wI (l1 + (-1))) M66
  else
    (gF 5 0 M l0).bind fun a32 =>
    (aL 10 M a32).bind fun a35 =>
    if a35 ≤ l2 then
      (gF 5 0 M l0).bind fun a49 =>
      (aL 10 M a49).bind fun a52 =>
      mX5_findBehind_53 k8 k26 l0 l1 l3 a52 M
    else
      (gF 5 4 M l0).bind fun a40 =>
      (aG 10 M a40 l2).bind fun a44 =>
      mX5_findBehind_53 k8 k26 l0 l1 l3 a44 M
noncomputable def mX5_findBehind_26 (k8 : Int → Int → Mem → Option (Int × Mem)) : Nat → Int → Int → Int → Int → Mem → Option (Int × Mem)
  | 0 => fun _ _ _ _ _ => none
  | fu + 1 => bX5_findBehind_26 k8 (mX5_findBehind_26 k8 fu)
noncomputable def bX5_findBehind_8 (k8 : Int → Int → Mem → Option (Int × Mem)) (l0 l1 : Int) (M : Mem) : Option (Int × Mem) :=
  if l1 < 0 then
    some (0, M)
  else
    (gF 5 0 M l0).bind fun a17 =>
    (aG 10 M a17 l1).bind fun a21 =>
    (mX5_partsInside a21 M).bind fun q22 =>
    mX5_findBehind_26 k8 FU l0 l1 (wI (l1 + 1)) q22.1 q22.2
noncomputable def mX5_findBehind_8 : Nat → Int → Int → Mem → Option (Int × Mem)
  | 0 => fun _ _ _ => none
  | fu + 1 => bX5_findBehind_8 (mX5_findBehind_8 fu)
noncomputable def mX5_findBehind (l0 : Int) (M : Mem) : Option (Int × Mem) :=
  (gF 5 0 M l0).bind fun a1 =>
  (aL 10 M a1).bind fun a4 =>
  mX5_findBehind_8 FU l0 (wI (a4 - 1)) M
noncomputable def mX5_finished_65 (l1 : Int) (M : Mem) : Option (Int × Mem) :=
  (gK 5 M l1).bind fun _ =>
  (mX5_findBehind l1 M).bind fun q66 =>
  some (l1, q66.2)
noncomputable def bX5_finished_14 (k14 : Int → Int → Int → Mem → Option (Int × Mem)) (l0 l1 l2 : Int) (M : Mem) : Option (Int × Mem) :=
  (gF 5 5 M l0).bind fun a16 =>
  if a16 ≤ l2 then
    mX5_finished_65 l1 M
  else
    (gF 5 0 M l0).bind fun a24 =>
    (aL 10 M a24).bind fun a27 =>
    if a27 ≤ l2 then
      mX5_finished_65 l1 M
    else
      (gF 5 0 M l0).bind fun a33 =>
      (aG 10 M a33 l2).bind fun a37 =>
      (gF 5 1 M l0).bind fun a39 =>
      (aG 10 M a39 l2).bind fun a43 =>
      (gF 5 2 M l0).bind fun a45 =>
      (aG 10 M a45 l2).bind fun a49 =>
      (gF 5 3 M l0).bind fun a51 =>
      (aG 10 M a51 l2).bind fun a55 =>
      (gK 5 M l1).bind fun _ =>
      (mX5_write l1 a37 a43 a49 a55 M).bind fun q56 =>
      k14 l0 l1 (wI (l2 + 1)) q56.2
noncomputable def mX5_finished_14 : Nat → Int → Int → Int → Mem → Option (Int × Mem)
  | 0 => fun _ _ _ _ => none
  | fu + 1 => bX5_finished_14 (mX5_finished_14 fu)
noncomputable def mX5_finished (l0 : Int) (M : Mem) : Option (Int × Mem) :=
  (some (nO 5 M)).bind fun q0 =>
  (gF 5 5 q0.2 l0).bind fun a5 =>
  (gK 5 q0.2 q0.1).bind fun _ =>
  (mX5_init q0.1 a5 q0.2).bind fun q8 =>
  mX5_finished_14 FU l0 q0.1 0 q8.2
noncomputable def mX2_read_121 (l0 : Int) (M : Mem) : Option (Int × Mem) :=
  (gF 2 0 M l0).bind fun a122 =>
  (gF 6 6 M a122).bind fun a125 =>
  if a125 = 0 then
    (gF 2 5 M l0).bind fun a132 =>
    (gK 5 M a132).bind fun _ =>
    (mX5_finished a132 M).bind fun q135 =>
    some (q135.1, q135.2)
  else
    some (0, M)
noncomputable def mX2_read_110 (l0 : Int) (M : Mem) : Option (Int × Mem) :=
  (gF 2 8 M l0).bind fun a111 =>
  if a111 = 0 then
    mX2_read_121 l0 M
  else
    (gK 2 M l0).bind fun _ =>
    (mX2_refuse l0 M).bind fun q118 =>
    mX2_read_121 l0 q118.2
noncomputable def bX2_read_79 (k79 : Int → Int → Mem → Option (Int × Mem)) (l0 l2 : Int) (M : Mem) : Option (Int × Mem) :=
  if 400 < l2 then
    mX2_read_110 l0 M
  else
    (gF 2 7 M l0).bind fun a87 =>
    if a87 ≤ 0 then
      mX2_read_110 l0 M
    else
      (gF 2 4 M l0).bind fun a94 =>
      if a94 = 0 then
        (gK 2 M l0).bind fun _ =>
        (mX2_readPart l0 M).bind fun q101 =>
        k79 l0 (wI (l2 + 1)) q101.2
      else
        mX2_read_110 l0 M
noncomputable def mX2_read_79 : Nat → Int → Int → Mem → Option (Int × Mem)
  | 0 => fun _ _ _ => none
  | fu + 1 => bX2_read_79 (mX2_read_79 fu)
noncomputable def mX2_read (l0 l1 : Int) (M : Mem) : Option (Int × Mem) :=
  (pF 2 0 M l0 l1).bind fun M2 =>
  (gF 2 0 M2 l0).bind fun a7 =>
  (gF 6 4 M2 a7).bind fun a10 =>
  (pF 2 1 M2 l0 a10).bind fun M13 =>
  (gF 2 0 M13 l0).bind fun a18 =>
  (gF 6 5 M13 a18).bind fun a21 =>
  (pF 2 2 M13 l0 a21).bind fun M24 =>
  (gF 2 0 M24 l0).bind fun a29 =>
  (gF 6 0 M24 a29).bind fun a32 =>
  (pF 2 3 M24 l0 a32).bind fun M35 =>
  (gF 2 0 M35 l0).bind fun a39 =>
  (gK 6 M35 a39).bind fun _ =>
  (mX6_clearTape a39 M35).bind fun q42 =>
  (pZ 2 4 q42.2 l0 0).bind fun M47 =>
  (gF 2 5 M47 l0).bind fun a51 =>
  (pF 5 5 M47 a51 0).bind fun M55 =>
  (pF 2 10 M55 l0 0).bind fun M60 =>
  (pF 2 7 M60 l0 0).bind fun M65 =>
  (gK 2 M65 l0).bind fun _ =>
  (mX2_expectPart l0 0 M65).bind fun q70 =>
  (gK 2 q70.2 l0).bind fun _ =>
  (mX2_advance l0 q70.2).bind fun q74 =>
  mX2_read_79 FU l0 0 q74.2
noncomputable def mX3_init (l0 : Int) (M : Mem) : Option (Int × Mem) :=
  (gK 3 M l0).bind fun _ =>
  (nA 10 3 M 3).bind fun q6 =>
  (aS 10 q6.2 q6.1 0 2).bind fun M11 =>
  (aS 10 M11 q6.1 1 2).bind fun M15 =>
  (aS 10 M15 q6.1 2 2).bind fun M19 =>
  (pF 3 0 M19 l0 q6.1).bind fun M20 =>
  (nA 10 4 M20 4).bind fun q25 =>
  (pF 3 1 q25.2 l0 q25.1).bind fun M27 =>
  (nA 10 4 M27 4).bind fun q32 =>
  (pF 3 2 q32.2 l0 q32.1).bind fun M34 =>
  (nA 10 4 M34 4).bind fun q39 =>
  (pF 3 3 q39.2 l0 q39.1).bind fun M41 =>
  (nA 10 4 M41 4).bind fun q46 =>
  (pF 3 4 q46.2 l0 q46.1).bind fun M48 =>
  (nA 10 4 M48 4).bind fun q53 =>
  (pF 3 5 q53.2 l0 q53.1).bind fun M55 =>
  (pF 3 6 M55 l0 0).bind fun M60 =>
  (pF 3 7 M60 l0 0).bind fun M65 =>
  some (0, M65)
noncomputable def mX3_isKind (l0 : Int) (M : Mem) : Option (Int × Mem) :=
  if l0 < 0 then
    some (0, M)
  else
    if 3 ≤ l0 then
      some (0, M)
    else
      some (1, M)
noncomputable def mX3_layOut_69 (k7 : Int → Int → Mem → Option (Int × Mem)) (l0 l1 s0 s1 s2 : Int) (M : Mem) : Option (Int × Mem) :=
  (aS 10 M s0 s1 s2).bind fun M69 =>
  (gF 3 7 M69 l0).bind fun a72 =>
  (gF 3 4 M69 l0).bind fun a76 =>
  (aG 10 M69 a76 l1).bind fun a80 =>
  (gF 3 5 M69 l0).bind fun a82 =>
  (aG 10 M69 a82 l1).bind fun a86 =>
  (pF 3 7 M69 l0 (wI (a72 + (wI (a80 * a86))))).bind fun M89 =>
  k7 l0 (wI (l1 + 1)) M89
noncomputable def bX3_layOut_7 (k7 : Int → Int → Mem → Option (Int × Mem)) (l0 l1 : Int) (M : Mem) : Option (Int × Mem) :=
  (gF 3 6 M l0).bind fun a9 =>
  if a9 ≤ l1 then
    some (0, M)
  else
    (gF 3 2 M l0).bind fun a16 =>
    (aG 10 M a16 l1).bind fun a20 =>
    (gF 3 3 M l0).bind fun a23 =>
    (gF 3 7 M l0).bind fun a28 =>
    (aS 10 M a23 l1 a28).bind fun M31 =>
    (gF 3 4 M31 l0).bind fun a33 =>
    (gF 3 0 M31 l0).bind fun a38 =>
    (gF 3 1 M31 l0).bind fun a42 =>
    (aG 10 M31 a42 l1).bind fun a46 =>
    (aG 10 M31 a38 a46).bind fun a47 =>
    (aS 10 M31 a33 l1 a47).bind fun M48 =>
    (gF 3 5 M48 l0).bind fun a50 =>
    if a20 = (-1) then
      mX3_layOut_69 k7 l0 l1 a50 l1 1 M48
    else
      (gF 3 0 M48 l0).bind fun a64 =>
      (aG 10 M48 a64 a20).bind fun a68 =>
      mX3_layOut_69 k7 l0 l1 a50 l1 a68 M48
noncomputable def mX3_layOut_7 : Nat → Int → Int → Mem → Option (Int × Mem)
  | 0 => fun _ _ _ => none
  | fu + 1 => bX3_layOut_7 (mX3_layOut_7 fu)
noncomputable def mX3_layOut (l0 : Int) (M : Mem) : Option (Int × Mem) :=
  (pF 3 7 M l0 0).bind fun M2 =>
  mX3_layOut_7 FU l0 0 M2
noncomputable def mX3_copy (l0 l1 : Int) (M : Mem) : Option (Int × Mem) :=
  (gF 3 0 M l1).bind fun a1 =>
  (gF 3 0 M l0).bind fun a6 =>
  (aC 10 M a1 0 a6 0 3).bind fun M11 =>
  (gF 3 1 M11 l1).bind fun a15 =>
  (gF 3 1 M11 l0).bind fun a20 =>
  (aC 10 M11 a15 0 a20 0 4).bind fun M25 =>
  (gF 3 2 M25 l1).bind fun a29 =>
  (gF 3 2 M25 l0).bind fun a34 =>
  (aC 10 M25 a29 0 a34 0 4).bind fun M39 =>
  (gF 3 6 M39 l1).bind fun a44 =>
  (pF 3 6 M39 l0 a44).bind fun M47 =>
  (gK 3 M47 l0).bind fun _ =>
  (mX3_layOut l0 M47).bind fun q51 =>
  some (0, q51.2)
noncomputable def mX3_resize (l0 l1 l2 : Int) (M : Mem) : Option (Int × Mem) :=
  (mX3_isKind l1 M).bind fun q1 =>
  if q1.1 = 0 then
    some (0, q1.2)
  else
    if l2 < 1 then
      some (0, q1.2)
    else
      if 3 < l2 then
        some (0, q1.2)
      else
        (gF 3 0 q1.2 l0).bind fun a18 =>
        (aG 10 q1.2 a18 l1).bind fun a22 =>
        if a22 = l2 then
          some (0, q1.2)
        else
          (gF 3 0 q1.2 l0).bind fun a30 =>
          (aS 10 q1.2 a30 l1 l2).bind fun M35 =>
          (gK 3 M35 l0).bind fun _ =>
          (mX3_layOut l0 M35).bind fun q37 =>
          some (1, q37.2)
noncomputable def mX3_addRelation_29 (l0 l1 l2 : Int) (M : Mem) : Option (Int × Mem) :=
  (gF 3 1 M l0).bind fun a30 =>
  (gF 3 6 M l0).bind fun a34 =>
  (aS 10 M a30 a34 l1).bind fun M38 =>
  (gF 3 2 M38 l0).bind fun a40 =>
  (gF 3 6 M38 l0).bind fun a44 =>
  (aS 10 M38 a40 a44 l2).bind fun M48 =>
  (gF 3 6 M48 l0).bind fun a51 =>
  (pF 3 6 M48 l0 (wI (a51 + 1))).bind fun M56 =>
  (gK 3 M56 l0).bind fun _ =>
  (mX3_layOut l0 M56).bind fun q60 =>
  (gF 3 6 q60.2 l0).bind fun a64 =>
  some (wI (a64 - 1), q60.2)
noncomputable def mX3_addRelation (l0 l1 l2 : Int) (M : Mem) : Option (Int × Mem) :=
  (gF 3 6 M l0).bind fun a1 =>
  if 4 ≤ a1 then
    some ((-1), M)
  else
    (mX3_isKind l1 M).bind fun q9 =>
    if q9.1 = 0 then
      some ((-1), q9.2)
    else
      if l2 = (-1) then
        mX3_addRelation_29 l0 l1 l2 q9.2
      else
        (mX3_isKind l2 q9.2).bind fun q21 =>
        if q21.1 = 0 then
          some ((-1), q21.2)
        else
          mX3_addRelation_29 l0 l1 l2 q21.2
noncomputable def mX3_relationAt_24 (k4 : Int → Int → Int → Int → Mem → Option (Int × Mem)) (l0 l1 l2 l3 : Int) (M : Mem) : Option (Int × Mem) :=
  k4 l0 l1 l2 (wI (l3 + 1)) M
noncomputable def bX3_relationAt_4 (k4 : Int → Int → Int → Int → Mem → Option (Int × Mem)) (l0 l1 l2 l3 : Int) (M : Mem) : Option (Int × Mem) :=
  (gF 3 6 M l0).bind fun a6 =>
  if a6 ≤ l3 then
    some (l2, M)
  else
    (gF 3 3 M l0).bind fun a13 =>
    (aG 10 M a13 l3).bind fun a17 =>
    if l1 < a17 then
      mX3_relationAt_24 k4 l0 l1 l2 l3 M
    else
      mX3_relationAt_24 k4 l0 l1 l3 l3 M
noncomputable def mX3_relationAt_4 : Nat → Int → Int → Int → Int → Mem → Option (Int × Mem)
  | 0 => fun _ _ _ _ _ => none
  | fu + 1 => bX3_relationAt_4 (mX3_relationAt_4 fu)
noncomputable def mX3_relationAt (l0 l1 : Int) (M : Mem) : Option (Int × Mem) :=
  mX3_relationAt_4 FU l0 l1 (-1) 0 M
noncomputable def bX3_firstAt_12 (k12 : Int → Int → Int → Int → Mem → Option (Int × Mem)) (l0 l1 l2 l3 : Int) (M : Mem) : Option (Int × Mem) :=
  (gF 3 4 M l0).bind fun a14 =>
  (aG 10 M a14 l1).bind fun a18 =>
  if a18 ≤ l3 then
    some ((-1), M)
  else
    (gF 3 3 M l0).bind fun a24 =>
    (aG 10 M a24 l1).bind fun a28 =>
    (gF 3 5 M l0).bind fun a33 =>
    (aG 10 M a33 l1).bind fun a37 =>
    if wI (a28 + (wI ((wI (l3 + 1)) * a37))) ≤ l2 then
      k12 l0 l1 l2 (wI (l3 + 1)) M
    else
      some (l3, M)
noncomputable def mX3_firstAt_12 : Nat → Int → Int → Int → Int → Mem → Option (Int × Mem)
  | 0 => fun _ _ _ _ _ => none
  | fu + 1 => bX3_firstAt_12 (mX3_firstAt_12 fu)
noncomputable def mX3_firstAt (l0 l1 l2 : Int) (M : Mem) : Option (Int × Mem) :=
  (gK 3 M l0).bind fun _ =>
  (mX3_hasRelation l0 l1 M).bind fun q2 =>
  if q2.1 = 0 then
    some ((-1), q2.2)
  else
    mX3_firstAt_12 FU l0 l1 l2 0 q2.2
noncomputable def mX3_secondAt (l0 l1 l2 : Int) (M : Mem) : Option (Int × Mem) :=
  (gK 3 M l0).bind fun _ =>
  (mX3_isOfTwo l0 l1 M).bind fun q2 =>
  if q2.1 = 0 then
    some ((-1), q2.2)
  else
    (gF 3 3 q2.2 l0).bind fun a12 =>
    (aG 10 q2.2 a12 l1).bind fun a16 =>
    (gK 3 q2.2 l0).bind fun _ =>
    (mX3_firstAt l0 l1 l2 q2.2).bind fun q21 =>
    (gF 3 5 q21.2 l0).bind fun a25 =>
    (aG 10 q21.2 a25 l1).bind fun a29 =>
    some (wI ((wI (l2 - a16)) - (wI (q21.1 * a29))), q21.2)
noncomputable def mX6_init (l0 : Int) (M : Mem) : Option (Int × Mem) :=
  (gK 6 M l0).bind fun _ =>
  (some (nO 3 M)).bind fun q5 =>
  (gK 3 q5.2 q5.1).bind fun _ =>
  (mX3_init q5.1 q5.2).bind fun q9 =>
  (pF 6 0 q9.2 l0 q5.1).bind fun M12 =>
  (pF 6 1 M12 l0 0).bind fun M17 =>
  (nA 13 4 M17 4).bind fun q22 =>
  (pF 6 2 q22.2 l0 q22.1).bind fun M24 =>
  (nA 11 4 M24 4).bind fun q29 =>
  (pF 6 3 q29.2 l0 q29.1).bind fun M31 =>
  (nA 10 400 M31 400).bind fun q38 =>
  (pF 6 4 q38.2 l0 q38.1).bind fun M40 =>
  (pF 6 5 M40 l0 0).bind fun M45 =>
  (pF 6 6 M45 l0 0).bind fun M50 =>
  (pF 6 7 M50 l0 (-1)).bind fun M55 =>
  (nA 14 8 M55 8).bind fun q61 =>
  (pF 6 8 q61.2 l0 q61.1).bind fun M64 =>
  (nA 10 8 M64 8).bind fun q70 =>
  (pF 6 9 q70.2 l0 q70.1).bind fun M72 =>
  (nA 10 8 M72 8).bind fun q78 =>
  (pF 6 10 q78.2 l0 q78.1).bind fun M80 =>
  (pF 6 11 M80 l0 0).bind fun M85 =>
  (pF 6 12 M85 l0 0).bind fun M90 =>
  (pF 6 13 M90 l0 0).bind fun M95 =>
  (pF 6 14 M95 l0 (-1)).bind fun M100 =>
  (nA 10 40 M100 40).bind fun q106 =>
  (pF 6 15 q106.2 l0 q106.1).bind fun M108 =>
  (nA 11 40 M108 40).bind fun q114 =>
  (pF 6 16 q114.2 l0 q114.1).bind fun M116 =>
  (nA 10 40 M116 40).bind fun q122 =>
  (pF 6 17 q122.2 l0 q122.1).bind fun M124 =>
  (pF 6 18 M124 l0 0).bind fun M129 =>
  some (0, M129)
noncomputable def mX4_init (l0 : Int) (M : Mem) : Option (Int × Mem) :=
  (gK 4 M l0).bind fun _ =>
  (some (nO 6 M)).bind fun q5 =>
  (gK 6 q5.2 q5.1).bind fun _ =>
  (mX6_init q5.1 q5.2).bind fun q9 =>
  (pF 4 0 q9.2 l0 q5.1).bind fun M12 =>
  (some (nO 0 M12)).bind fun q16 =>
  (gK 0 q16.2 q16.1).bind fun _ =>
  (mX0_init q16.1 q16.2).bind fun q20 =>
  (pF 4 1 q20.2 l0 q16.1).bind fun M23 =>
  (some (nO 1 M23)).bind fun q27 =>
  (gK 1 q27.2 q27.1).bind fun _ =>
  (mX1_init q27.1 q27.2).bind fun q31 =>
  (pF 4 2 q31.2 l0 q27.1).bind fun M34 =>
  (nA 16 9 M34 9).bind fun q40 =>
  (pF 4 3 q40.2 l0 q40.1).bind fun M43 =>
  (pF 4 4 M43 l0 0).bind fun M48 =>
  (some (nO 7 M48)).bind fun q52 =>
  (gK 7 q52.2 q52.1).bind fun _ =>
  (mX7_init q52.1 q52.2).bind fun q56 =>
  (pF 4 5 q56.2 l0 q52.1).bind fun M59 =>
  (some (nO 7 M59)).bind fun q63 =>
  (gK 7 q63.2 q63.1).bind fun _ =>
  (mX7_init q63.1 q63.2).bind fun q67 =>
  (pF 4 6 q67.2 l0 q63.1).bind fun M70 =>
  (some (nO 7 M70)).bind fun q74 =>
  (gK 7 q74.2 q74.1).bind fun _ =>
  (mX7_init q74.1 q74.2).bind fun q78 =>
  (pF 4 7 q78.2 l0 q74.1).bind fun M81 =>
  (some (nO 3 M81)).bind fun q85 =>
  (gK 3 q85.2 q85.1).bind fun _ =>
  (mX3_init q85.1 q85.2).bind fun q89 =>
  (pF 4 8 q89.2 l0 q85.1).bind fun M92 =>
  (nA 10 3 M92 3).bind fun q97 =>
  (pF 4 9 q97.2 l0 q97.1).bind fun M99 =>
  (pF 4 10 M99 l0 (-1)).bind fun M104 =>
  (nA 10 12 M104 12).bind fun q110 =>
  (pF 4 11 q110.2 l0 q110.1).bind fun M112 =>
  (gF 4 3 M112 l0).bind fun a124 =>
  (some (nO 7 M112)).bind fun q128 =>
  (gK 7 q128.2 q128.1).bind fun _ =>
  (mX7_init q128.1 q128.2).bind fun q132 =>
  (aSR 16 q132.2 a124 0 q128.1).bind fun M135 =>
  (gF 4 3 M135 l0).bind fun a124 =>
  (some (nO 7 M135)).bind fun q128 =>
  (gK 7 q128.2 q128.1).bind fun _ =>
  (mX7_init q128.1 q128.2).bind fun q132 =>
  (aSR 16 q132.2 a124 1 q128.1).bind fun M135 =>
  (gF 4 3 M135 l0).bind fun a124 =>
  (some (nO 7 M135)).bind fun q128 =>
  (gK 7 q128.2 q128.1).bind fun _ =>
  (mX7_init q128.1 q128.2).bind fun q132 =>
  (aSR 16 q132.2 a124 2 q128.1).bind fun M135 =>
  (gF 4 3 M135 l0).bind fun a124 =>
  (some (nO 7 M135)).bind fun q128 =>
  (gK 7 q128.2 q128.1).bind fun _ =>
  (mX7_init q128.1 q128.2).bind fun q132 =>
  (aSR 16 q132.2 a124 3 q128.1).bind fun M135 =>
  (gF 4 3 M135 l0).bind fun a124 =>
  (some (nO 7 M135)).bind fun q128 =>
  (gK 7 q128.2 q128.1).bind fun _ =>
  (mX7_init q128.1 q128.2).bind fun q132 =>
  (aSR 16 q132.2 a124 4 q128.1).bind fun M135 =>
  (gF 4 3 M135 l0).bind fun a124 =>
  (some (nO 7 M135)).bind fun q128 =>
  (gK 7 q128.2 q128.1).bind fun _ =>
  (mX7_init q128.1 q128.2).bind fun q132 =>
  (aSR 16 q132.2 a124 5 q128.1).bind fun M135 =>
  (gF 4 3 M135 l0).bind fun a124 =>
  (some (nO 7 M135)).bind fun q128 =>
  (gK 7 q128.2 q128.1).bind fun _ =>
  (mX7_init q128.1 q128.2).bind fun q132 =>
  (aSR 16 q132.2 a124 6 q128.1).bind fun M135 =>
  (gF 4 3 M135 l0).bind fun a124 =>
  (some (nO 7 M135)).bind fun q128 =>
  (gK 7 q128.2 q128.1).bind fun _ =>
  (mX7_init q128.1 q128.2).bind fun q132 =>
  (aSR 16 q132.2 a124 7 q128.1).bind fun M135 =>
  (gF 4 3 M135 l0).bind fun a124 =>
  (some (nO 7 M135)).bind fun q128 =>
  (gK 7 q128.2 q128.1).bind fun _ =>
  (mX7_init q128.1 q128.2).bind fun q132 =>
  (aSR 16 q132.2 a124 8 q128.1).bind fun M135 =>
  some (0, M135)
noncomputable def mX4_forget (l0 : Int) (M : Mem) : Option (Int × Mem) :=
  (pF 4 4 M l0 0).bind fun M2 =>
  (pF 4 10 M2 l0 (-1)).bind fun M7 =>
  (gF 4 2 M7 l0).bind fun a11 =>
  (gK 1 M7 a11).bind fun _ =>
  (mX1_forget a11 M7).bind fun q14 =>
  some (0, q14.2)
noncomputable def mX4_forgetGuess (l0 : Int) (M : Mem) : Option (Int × Mem) :=
  (gF 4 4 M l0).bind fun a2 =>
  (pF 4 4 M l0 (iand a2 (-257))).bind fun M9 =>
  some (0, M9)
noncomputable def mX4_canTell (l0 : Int) (M : Mem) : Option (Int × Mem) :=
  (gF 4 0 M l0).bind fun a1 =>
  (gF 6 0 M a1).bind fun a4 =>
  (gF 3 7 M a4).bind fun a7 =>
  if 12 < a7 then
    some (0, M)
  else
    some (1, M)
noncomputable def mX7_takeAll_45 (k7 : Int → Int → Mem → Option (Int × Mem)) (l0 l2 s0 s1 s2 : Int) (M : Mem) : Option (Int × Mem) :=
  (aS 13 M s0 s1 s2).bind fun M45 =>
  k7 l0 (wI (l2 + 1)) M45
noncomputable def bX7_takeAll_7 (k7 : Int → Int → Mem → Option (Int × Mem)) (l0 l2 : Int) (M : Mem) : Option (Int × Mem) :=
  (gF 7 1 M l0).bind fun a9 =>
  if a9 ≤ l2 then
    some (0, M)
  else
    (gF 7 0 M l0).bind fun a16 =>
    (gF 7 2 M l0).bind fun a21 =>
    if 6 ≤ a21 then
      mX7_takeAll_45 k7 l0 l2 a16 l2 (-1) M
    else
      (gF 7 2 M l0).bind fun a32 =>
      mX7_takeAll_45 k7 l0 l2 a16 l2 (wL ((lshl 1 (ishl 1 a32)) - 1)) M
noncomputable def mX7_takeAll_7 : Nat → Int → Int → Mem → Option (Int × Mem)
  | 0 => fun _ _ _ => none
  | fu + 1 => bX7_takeAll_7 (mX7_takeAll_7 fu)
noncomputable def mX7_takeAll (l0 l1 : Int) (M : Mem) : Option (Int × Mem) :=
  (gK 7 M l0).bind fun _ =>
  (mX7_takeNone l0 l1 M).bind fun q2 =>
  mX7_takeAll_7 FU l0 0 q2.2
noncomputable def mX6_viewedDay (l0 : Int) (M : Mem) : Option (Int × Mem) :=
  (gF 6 14 M l0).bind fun a1 =>
  if a1 = (-1) then
    (gF 6 13 M l0).bind fun a9 =>
    some (a9, M)
  else
    (gF 6 14 M l0).bind fun a16 =>
    some (a16, M)
noncomputable def mX6_knownOf_69 (k17 : Int → Int → Int → Int → Mem → Option (Int × Mem)) (l0 l4 l5 l6 : Int) (M : Mem) : Option (Int × Mem) :=
  k17 l0 l4 l5 (wI (l6 + 1)) M
noncomputable def mX6_knownOf_67 (k17 : Int → Int → Int → Int → Mem → Option (Int × Mem)) (l0 l4 l6 s0 : Int) (M : Mem) : Option (Int × Mem) :=
  mX6_knownOf_69 k17 l0 l4 s0 l6 M
noncomputable def bX6_knownOf_17 (k17 : Int → Int → Int → Int → Mem → Option (Int × Mem)) (l0 l4 l5 l6 : Int) (M : Mem) : Option (Int × Mem) :=
  (gF 6 18 M l0).bind fun a20 =>
  if a20 ≤ l6 then
    some (l5, M)
  else
    (gF 6 15 M l0).bind fun a27 =>
    (aG 10 M a27 l6).bind fun a32 =>
    if a32 = l4 then
      (gF 6 17 M l0).bind fun a39 =>
      (aG 10 M a39 l6).bind fun a44 =>
      (gK 6 M l0).bind fun _ =>
      (mX6_viewedDay l0 M).bind fun q46 =>
      if q46.1 < a44 then
        mX6_knownOf_69 k17 l0 l4 l5 l6 q46.2
      else
        (gF 6 16 q46.2 l0).bind fun a53 =>
        (aG 11 q46.2 a53 l6).bind fun a58 =>
        if a58 = 0 then
          mX6_knownOf_67 k17 l0 l4 l6 0 q46.2
        else
          mX6_knownOf_67 k17 l0 l4 l6 1 q46.2
    else
      mX6_knownOf_69 k17 l0 l4 l5 l6 M
noncomputable def mX6_knownOf_17 : Nat → Int → Int → Int → Int → Mem → Option (Int × Mem)
  | 0 => fun _ _ _ _ _ => none
  | fu + 1 => bX6_knownOf_17 (mX6_knownOf_17 fu)
noncomputable def mX6_knownOf (l0 l1 l2 l3 : Int) (M : Mem) : Option (Int × Mem) :=
  (some (wI ((wI ((wI ((wI (l1 * 3)) + l2)) * 3)) + l3))).bind fun b9 =>
  mX6_knownOf_17 FU l0 b9 (-1) 0 M
noncomputable def mX7_keepWhere_38 (k2 : Int → Int → Int → Int → Mem → Option (Int × Mem)) (l0 l1 l2 l3 s0 s1 s2 s3 : Int) (M : Mem) : Option (Int × Mem) :=
  (aS 13 M s0 s1 (land s2 s3)).bind fun M39 =>
  k2 l0 l1 l2 (wI (l3 + 1)) M39
noncomputable def bX7_keepWhere_2 (k2 : Int → Int → Int → Int → Mem → Option (Int × Mem)) (l0 l1 l2 l3 : Int) (M : Mem) : Option (Int × Mem) :=
  (gF 7 1 M l0).bind fun a4 =>
  if a4 ≤ l3 then
    some (0, M)
  else
    (gF 7 0 M l0).bind fun a11 =>
    (aG 13 M a11 l3).bind fun a16 =>
    if l2 = 0 then
      (mX7_soAt l1 l3 M).bind fun q31 =>
      mX7_keepWhere_38 k2 l0 l1 l2 l3 a11 l3 a16 (lxor q31.1 (-1)) q31.2
    else
      (mX7_soAt l1 l3 M).bind fun q23 =>
      mX7_keepWhere_38 k2 l0 l1 l2 l3 a11 l3 a16 q23.1 q23.2
noncomputable def mX7_keepWhere_2 : Nat → Int → Int → Int → Int → Mem → Option (Int × Mem)
  | 0 => fun _ _ _ _ _ => none
  | fu + 1 => bX7_keepWhere_2 (mX7_keepWhere_2 fu)
noncomputable def mX7_keepWhere (l0 l1 l2 : Int) (M : Mem) : Option (Int × Mem) :=
  mX7_keepWhere_2 FU l0 l1 l2 0 M
noncomputable def mX4_findPossible_104 (k21 : Int → Int → Int → Mem → Option (Int × Mem)) (k31 : Int → Int → Int → Int → Mem → Option (Int × Mem)) (k44 : Int → Int → Int → Int → Int → Mem → Option (Int × Mem)) (l0 l1 l2 l3 l4 : Int) (M : Mem) : Option (Int × Mem) :=
  k44 l0 l1 l2 l3 (wI (l4 + 1)) M
noncomputable def mX4_findPossible_101 (k21 : Int → Int → Int → Mem → Option (Int × Mem)) (k31 : Int → Int → Int → Int → Mem → Option (Int × Mem)) (k44 : Int → Int → Int → Int → Int → Mem → Option (Int × Mem)) (l0 l1 l2 l3 l4 s0 s1 s2 : Int) (M : Mem) : Option (Int × Mem) :=
  (gK 7 M s0).bind fun _ =>
  (mX7_keepWhere s0 s1 s2 M).bind fun q101 =>
  mX4_findPossible_104 k21 k31 k44 l0 l1 l2 l3 l4 q101.2
noncomputable def bX4_findPossible_44 (k21 : Int → Int → Int → Mem → Option (Int × Mem)) (k31 : Int → Int → Int → Int → Mem → Option (Int × Mem)) (k44 : Int → Int → Int → Int → Int → Mem → Option (Int × Mem)) (l0 l1 l2 l3 l4 : Int) (M : Mem) : Option (Int × Mem) :=
  (gF 3 5 M l1).bind fun a47 =>
  (aG 10 M a47 l2).bind fun a51 =>
  if a51 ≤ l4 then
    k31 l0 l1 l2 (wI (l3 + 1)) M
  else
    (gF 4 0 M l0).bind fun a56 =>
    (gK 6 M a56).bind fun _ =>
    (mX6_knownOf a56 l2 l3 l4 M).bind fun q63 =>
    if q63.1 = (-1) then
      mX4_findPossible_104 k21 k31 k44 l0 l1 l2 l3 l4 q63.2
    else
      (gF 4 5 q63.2 l0).bind fun a75 =>
      (gK 3 q63.2 l1).bind fun _ =>
      (mX3_place l1 l2 l3 l4 q63.2).bind fun q84 =>
      (gK 3 q84.2 l1).bind fun _ =>
      (mX3_bit l1 q84.1 q84.2).bind fun q87 =>
      if q63.1 = 1 then
        mX4_findPossible_101 k21 k31 k44 l0 l1 l2 l3 l4 a75 q87.1 1 q87.2
      else
        mX4_findPossible_101 k21 k31 k44 l0 l1 l2 l3 l4 a75 q87.1 0 q87.2
noncomputable def mX4_findPossible_44 (k21 : Int → Int → Int → Mem → Option (Int × Mem)) (k31 : Int → Int → Int → Int → Mem → Option (Int × Mem)) : Nat → Int → Int → Int → Int → Int → Mem → Option (Int × Mem)
  | 0 => fun _ _ _ _ _ _ => none
  | fu + 1 => bX4_findPossible_44 k21 k31 (mX4_findPossible_44 k21 k31 fu)
noncomputable def bX4_findPossible_31 (k21 : Int → Int → Int → Mem → Option (Int × Mem)) (k31 : Int → Int → Int → Int → Mem → Option (Int × Mem)) (l0 l1 l2 l3 : Int) (M : Mem) : Option (Int × Mem) :=
  (gF 3 4 M l1).bind fun a33 =>
  (aG 10 M a33 l2).bind fun a37 =>
  if a37 ≤ l3 then
    k21 l0 l1 (wI (l2 + 1)) M
  else
    mX4_findPossible_44 k21 k31 FU l0 l1 l2 l3 0 M
noncomputable def mX4_findPossible_31 (k21 : Int → Int → Int → Mem → Option (Int × Mem)) : Nat → Int → Int → Int → Int → Mem → Option (Int × Mem)
  | 0 => fun _ _ _ _ _ => none
  | fu + 1 => bX4_findPossible_31 k21 (mX4_findPossible_31 k21 fu)
noncomputable def bX4_findPossible_21 (k21 : Int → Int → Int → Mem → Option (Int × Mem)) (l0 l1 l2 : Int) (M : Mem) : Option (Int × Mem) :=
  (gF 3 6 M l1).bind fun a23 =>
  if a23 ≤ l2 then
    some (0, M)
  else
    mX4_findPossible_31 k21 FU l0 l1 l2 0 M
noncomputable def mX4_findPossible_21 : Nat → Int → Int → Int → Mem → Option (Int × Mem)
  | 0 => fun _ _ _ _ => none
  | fu + 1 => bX4_findPossible_21 (mX4_findPossible_21 fu)
noncomputable def mX4_findPossible (l0 : Int) (M : Mem) : Option (Int × Mem) :=
  (gF 4 0 M l0).bind fun a1 =>
  (gF 6 0 M a1).bind fun a4 =>
  (gF 4 5 M l0).bind fun a9 =>
  (gF 3 7 M a4).bind fun a13 =>
  (gK 7 M a9).bind fun _ =>
  (mX7_takeAll a9 a13 M).bind fun q16 =>
  mX4_findPossible_21 FU l0 a4 0 q16.2
noncomputable def mX7_copy (l0 l1 : Int) (M : Mem) : Option (Int × Mem) :=
  (gF 7 2 M l1).bind fun a2 =>
  (pF 7 2 M l0 a2).bind fun M5 =>
  (gF 7 1 M5 l1).bind fun a10 =>
  (pF 7 1 M5 l0 a10).bind fun M13 =>
  (gF 7 0 M13 l1).bind fun a17 =>
  (gF 7 0 M13 l0).bind fun a22 =>
  (gF 7 1 M13 l0).bind fun a27 =>
  (aC 13 M13 a17 0 a22 0 a27).bind fun M30 =>
  some (0, M30)
noncomputable def mX6_viewedStories_64 (k4 : Int → Int → Int → Mem → Option (Int × Mem)) (l0 l1 l2 : Int) (M : Mem) : Option (Int × Mem) :=
  k4 l0 l1 (wI (l2 + 1)) M
noncomputable def mX6_viewedStories_40 (k4 : Int → Int → Int → Mem → Option (Int × Mem)) (l0 l1 l2 s0 : Int) (M : Mem) : Option (Int × Mem) :=
  (gF 6 9 M l0).bind fun a42 =>
  (aG 10 M a42 l2).bind fun a46 =>
  (gK 6 M l0).bind fun _ =>
  (mX6_viewedDay l0 M).bind fun q48 =>
  if q48.1 < a46 then
    mX6_viewedStories_64 k4 l0 l1 l2 q48.2
  else
    if s0 = 0 then
      mX6_viewedStories_64 k4 l0 (ior l1 (ishl 1 l2)) l2 q48.2
    else
      mX6_viewedStories_64 k4 l0 l1 l2 q48.2
noncomputable def mX6_viewedStories_39 (k4 : Int → Int → Int → Mem → Option (Int × Mem)) (l0 l1 l2 : Int) (M : Mem) : Option (Int × Mem) :=
  mX6_viewedStories_40 k4 l0 l1 l2 0 M
noncomputable def bX6_viewedStories_4 (k4 : Int → Int → Int → Mem → Option (Int × Mem)) (l0 l1 l2 : Int) (M : Mem) : Option (Int × Mem) :=
  (gF 6 11 M l0).bind fun a6 =>
  if a6 ≤ l2 then
    some (l1, M)
  else
    (gF 6 10 M l0).bind fun a13 =>
    (aG 10 M a13 l2).bind fun a17 =>
    if a17 = (-1) then
      mX6_viewedStories_39 k4 l0 l1 l2 M
    else
      (gF 6 10 M l0).bind fun a23 =>
      (aG 10 M a23 l2).bind fun a27 =>
      (gK 6 M l0).bind fun _ =>
      (mX6_viewedDay l0 M).bind fun q29 =>
      if q29.1 < a27 then
        mX6_viewedStories_39 k4 l0 l1 l2 q29.2
      else
        mX6_viewedStories_40 k4 l0 l1 l2 1 q29.2
noncomputable def mX6_viewedStories_4 : Nat → Int → Int → Int → Mem → Option (Int × Mem)
  | 0 => fun _ _ _ _ => none
  | fu + 1 => bX6_viewedStories_4 (mX6_viewedStories_4 fu)
noncomputable def mX6_viewedStories (l0 : Int) (M : Mem) : Option (Int × Mem) :=
  mX6_viewedStories_4 FU l0 0 0 M
noncomputable def mX7_usedWords (l0 : Int) (M : Mem) : Option (Int × Mem) :=
  (gF 7 1 M l0).bind fun a1 =>
  some (a1, M)
noncomputable def mX4_truth_90 (l3 : Int) (M : Mem) : Option (Int × Mem) :=
  some (l3, M)
noncomputable def bX4_truth_39 (k39 : Int → Int → Int → Int → Int → Mem → Option (Int × Mem)) (l0 l1 l2 l3 l4 : Int) (M : Mem) : Option (Int × Mem) :=
  (gK 7 M l3).bind fun _ =>
  (mX7_usedWords l3 M).bind fun q42 =>
  if q42.1 ≤ l4 then
    (gF 4 4 q42.2 l0).bind fun a80 =>
    (pF 4 4 q42.2 l0 (ior a80 (ishl 1 l1))).bind fun M87 =>
    mX4_truth_90 l3 M87
  else
    (gF 7 0 q42.2 l3).bind fun a49 =>
    (gF 4 1 q42.2 l0).bind fun a55 =>
    (gF 4 0 q42.2 l0).bind fun a59 =>
    (gF 6 0 q42.2 a59).bind fun a62 =>
    (gK 0 q42.2 a55).bind fun _ =>
    (mX0_soInWord a55 a62 l2 l4 q42.2).bind fun q68 =>
    (aS 13 q68.2 a49 l4 q68.1).bind fun M71 =>
    k39 l0 l1 l2 l3 (wI (l4 + 1)) M71
noncomputable def mX4_truth_39 : Nat → Int → Int → Int → Int → Int → Mem → Option (Int × Mem)
  | 0 => fun _ _ _ _ _ _ => none
  | fu + 1 => bX4_truth_39 (mX4_truth_39 fu)
noncomputable def mX4_truth (l0 l1 l2 : Int) (M : Mem) : Option (Int × Mem) :=
  (gF 4 3 M l0).bind fun a1 =>
  (aG 16 M a1 l1).bind fun a5 =>
  if l2 = 0 then
    mX4_truth_90 a5 M
  else
    (gF 4 4 M l0).bind fun a12 =>
    if iand (ishr a12 l1) 1 = 0 then
      (gF 4 0 M l0).bind fun a24 =>
      (gF 6 0 M a24).bind fun a27 =>
      (gF 3 7 M a27).bind fun a30 =>
      (gK 7 M a5).bind fun _ =>
      (mX7_takeNone a5 a30 M).bind fun q33 =>
      mX4_truth_39 FU l0 l1 l2 a5 0 q33.2
    else
      mX4_truth_90 a5 M
noncomputable def bX7_keepOnly_2 (k2 : Int → Int → Int → Mem → Option (Int × Mem)) (l0 l1 l2 : Int) (M : Mem) : Option (Int × Mem) :=
  (gF 7 1 M l0).bind fun a4 =>
  if a4 ≤ l2 then
    some (0, M)
  else
    (gF 7 0 M l0).bind fun a11 =>
    (aG 13 M a11 l2).bind fun a16 =>
    (gF 7 0 M l1).bind fun a18 =>
    (aG 13 M a18 l2).bind fun a22 =>
    (aS 13 M a11 l2 (land a16 a22)).bind fun M24 =>
    k2 l0 l1 (wI (l2 + 1)) M24
noncomputable def mX7_keepOnly_2 : Nat → Int → Int → Int → Mem → Option (Int × Mem)
  | 0 => fun _ _ _ _ => none
  | fu + 1 => bX7_keepOnly_2 (mX7_keepOnly_2 fu)
noncomputable def mX7_keepOnly (l0 l1 : Int) (M : Mem) : Option (Int × Mem) :=
  mX7_keepOnly_2 FU l0 l1 0 M
noncomputable def mX4_lookUp_69 (k34 : Int → Int → Int → Mem → Option (Int × Mem)) (l0 l1 l2 : Int) (M : Mem) : Option (Int × Mem) :=
  k34 l0 l1 (wI (l2 + 1)) M
noncomputable def bX4_lookUp_34 (k34 : Int → Int → Int → Mem → Option (Int × Mem)) (l0 l1 l2 : Int) (M : Mem) : Option (Int × Mem) :=
  if 8 ≤ l2 then
    some (1, M)
  else
    if iand (ishr l1 l2) 1 = 0 then
      mX4_lookUp_69 k34 l0 l1 l2 M
    else
      (gF 4 6 M l0).bind fun a49 =>
      (gF 4 0 M l0).bind fun a55 =>
      (gF 6 8 M a55).bind fun a58 =>
      (aG 14 M a58 l2).bind fun a62 =>
      (gK 4 M l0).bind fun _ =>
      (mX4_truth l0 l2 a62 M).bind fun q63 =>
      (gK 7 q63.2 a49).bind fun _ =>
      (mX7_keepOnly a49 q63.1 q63.2).bind fun q66 =>
      mX4_lookUp_69 k34 l0 l1 l2 q66.2
noncomputable def mX4_lookUp_34 : Nat → Int → Int → Int → Mem → Option (Int × Mem)
  | 0 => fun _ _ _ _ => none
  | fu + 1 => bX4_lookUp_34 (mX4_lookUp_34 fu)
noncomputable def mX4_lookUp (l0 : Int) (M : Mem) : Option (Int × Mem) :=
  (gK 4 M l0).bind fun _ =>
  (mX4_canTell l0 M).bind fun q1 =>
  if q1.1 = 0 then
    some (0, q1.2)
  else
    (gK 4 q1.2 l0).bind fun _ =>
    (mX4_findPossible l0 q1.2).bind fun q10 =>
    (gF 4 6 q10.2 l0).bind fun a14 =>
    (gF 4 5 q10.2 l0).bind fun a18 =>
    (gK 7 q10.2 a14).bind fun _ =>
    (mX7_copy a14 a18 q10.2).bind fun q21 =>
    (gF 4 0 q21.2 l0).bind fun a25 =>
    (gK 6 q21.2 a25).bind fun _ =>
    (mX6_viewedStories a25 q21.2).bind fun q28 =>
    mX4_lookUp_34 FU l0 q28.1 0 q28.2
noncomputable def mJ13_bitCount_95d88 (l0 : Int) (M : Mem) : Option (Int × Mem) :=
  (some (wL (l0 - (land (lus l0 1) 6148914691236517205)))).bind fun b9 =>
  (some (wL ((land b9 3689348814741910323) + (land (lus b9 2) 3689348814741910323)))).bind fun b23 =>
  (some (land (wL (b23 + (lus b23 4))) 1085102592571150095)).bind fun b33 =>
  (some (wL ((wL (b33 + (lus b33 8))) + (lus (wL (b33 + (lus b33 8))) 16)))).bind fun b47 =>
  (some (wL (b47 + (lus b47 32)))).bind fun b54 =>
  some (iand (l2i b54) 127, M)
noncomputable def bX7_count_4 (k4 : Int → Int → Int → Mem → Option (Int × Mem)) (l0 l1 l2 : Int) (M : Mem) : Option (Int × Mem) :=
  (gF 7 1 M l0).bind fun a6 =>
  if a6 ≤ l2 then
    some (l1, M)
  else
    (gF 7 0 M l0).bind fun a14 =>
    (aG 13 M a14 l2).bind fun a18 =>
    (mJ13_bitCount_95d88 a18 M).bind fun q19 =>
    k4 l0 (wI (l1 + q19.1)) (wI (l2 + 1)) q19.2
noncomputable def mX7_count_4 : Nat → Int → Int → Int → Mem → Option (Int × Mem)
  | 0 => fun _ _ _ _ => none
  | fu + 1 => bX7_count_4 (mX7_count_4 fu)
noncomputable def mX7_count (l0 : Int) (M : Mem) : Option (Int × Mem) :=
  mX7_count_4 FU l0 0 0 M
noncomputable def mX4_countWorlds (l0 : Int) (M : Mem) : Option (Int × Mem) :=
  (gK 4 M l0).bind fun _ =>
  (mX4_lookUp l0 M).bind fun q1 =>
  if q1.1 = 0 then
    some ((-1), q1.2)
  else
    (gF 4 6 q1.2 l0).bind fun a8 =>
    (gK 7 q1.2 a8).bind fun _ =>
    (mX7_count a8 q1.2).bind fun q11 =>
    some (q11.1, q11.2)
noncomputable def mX4_pickForms (l0 : Int) (M : Mem) : Option (Int × Mem) :=
  (gF 4 7 M l0).bind fun a1 =>
  (gF 4 6 M l0).bind fun a5 =>
  (gK 7 M a1).bind fun _ =>
  (mX7_copy a1 a5 M).bind fun q8 =>
  (gF 4 7 q8.2 l0).bind fun a12 =>
  (gF 4 2 q8.2 l0).bind fun a16 =>
  (gF 4 0 q8.2 l0).bind fun a20 =>
  (gF 6 0 q8.2 a20).bind fun a23 =>
  (gK 1 q8.2 a16).bind fun _ =>
  (mX1_leastOnes a16 a23 q8.2).bind fun q26 =>
  (gK 7 q26.2 a12).bind fun _ =>
  (mX7_keepOnly a12 q26.1 q26.2).bind fun q29 =>
  some (0, q29.2)
noncomputable def mX4_countForms (l0 : Int) (M : Mem) : Option (Int × Mem) :=
  (gK 4 M l0).bind fun _ =>
  (mX4_lookUp l0 M).bind fun q1 =>
  if q1.1 = 0 then
    some ((-1), q1.2)
  else
    (gK 4 q1.2 l0).bind fun _ =>
    (mX4_pickForms l0 q1.2).bind fun q10 =>
    (gF 4 7 q10.2 l0).bind fun a14 =>
    (gK 7 q10.2 a14).bind fun _ =>
    (mX7_count a14 q10.2).bind fun q17 =>
    some (q17.1, q17.2)
noncomputable def mX7_nth_33 (k4 : Int → Int → Int → Mem → Option (Int × Mem)) (l0 l2 l3 : Int) (M : Mem) : Option (Int × Mem) :=
  k4 l0 l2 (wI (l3 + 1)) M
noncomputable def bX7_nth_4 (k4 : Int → Int → Int → Mem → Option (Int × Mem)) (l0 l2 l3 : Int) (M : Mem) : Option (Int × Mem) :=
  (gK 7 M l0).bind fun _ =>
  (mX7_most l0 M).bind fun q6 =>
  if q6.1 ≤ l3 then
    some ((-1), q6.2)
  else
    if l2 < 0 then
      some ((-1), q6.2)
    else
      (gK 7 q6.2 l0).bind fun _ =>
      (mX7_has l0 l3 q6.2).bind fun q18 =>
      if q18.1 = 0 then
        mX7_nth_33 k4 l0 l2 l3 q18.2
      else
        if l2 = 0 then
          some (l3, q18.2)
        else
          mX7_nth_33 k4 l0 (wI (l2 + (-1))) l3 q18.2
noncomputable def mX7_nth_4 : Nat → Int → Int → Int → Mem → Option (Int × Mem)
  | 0 => fun _ _ _ _ => none
  | fu + 1 => bX7_nth_4 (mX7_nth_4 fu)
noncomputable def mX7_nth (l0 l1 : Int) (M : Mem) : Option (Int × Mem) :=
  mX7_nth_4 FU l0 l1 0 M
noncomputable def mX4_nthForm (l0 l1 : Int) (M : Mem) : Option (Int × Mem) :=
  (gK 4 M l0).bind fun _ =>
  (mX4_lookUp l0 M).bind fun q1 =>
  if q1.1 = 0 then
    some ((-1), q1.2)
  else
    (gK 4 q1.2 l0).bind fun _ =>
    (mX4_pickForms l0 q1.2).bind fun q10 =>
    (gF 4 7 q10.2 l0).bind fun a14 =>
    (gK 7 q10.2 a14).bind fun _ =>
    (mX7_nth a14 l1 q10.2).bind fun q18 =>
    some (q18.1, q18.2)
noncomputable def mX4_leastRow (l0 : Int) (M : Mem) : Option (Int × Mem) :=
  (gK 4 M l0).bind fun _ =>
  (mX4_canTell l0 M).bind fun q1 =>
  if q1.1 = 0 then
    some ((-1), q1.2)
  else
    (gF 4 2 q1.2 l0).bind fun a8 =>
    (gF 4 0 q1.2 l0).bind fun a12 =>
    (gF 6 0 q1.2 a12).bind fun a15 =>
    (gF 4 0 q1.2 l0).bind fun a19 =>
    (gF 6 1 q1.2 a19).bind fun a22 =>
    (gK 1 q1.2 a8).bind fun _ =>
    (mX1_leastOf a8 a15 (l2i a22) q1.2).bind fun q26 =>
    some (q26.1, q26.2)
noncomputable def mX4_fewestApart (l0 l1 : Int) (M : Mem) : Option (Int × Mem) :=
  (gK 4 M l0).bind fun _ =>
  (mX4_canTell l0 M).bind fun q1 =>
  if q1.1 = 0 then
    some ((-1), q1.2)
  else
    (gF 4 2 q1.2 l0).bind fun a10 =>
    (gF 4 0 q1.2 l0).bind fun a14 =>
    (gF 6 0 q1.2 a14).bind fun a17 =>
    (gF 4 0 q1.2 l0).bind fun a21 =>
    (gF 6 1 q1.2 a21).bind fun a24 =>
    (gK 1 q1.2 a10).bind fun _ =>
    (mX1_fewestApart a10 a17 (l2i a24) (l2i l1) q1.2).bind fun q30 =>
    some (q30.1, q30.2)
noncomputable def mX4_fits_167 (k73 : Int → Int → Int → Mem → Option (Int × Mem)) (l0 l4 l5 l6 : Int) (M : Mem) : Option (Int × Mem) :=
  if lcmp l6 0 = 0 then
    k73 l0 l4 (wI (l5 + 1)) M
  else
    some (1, M)
noncomputable def mX4_fits_161 (k73 : Int → Int → Int → Mem → Option (Int × Mem)) (k100 : Int → Int → Int → Int → Int → Mem → Option (Int × Mem)) (l0 l4 l5 l6 l8 : Int) (M : Mem) : Option (Int × Mem) :=
  k100 l0 l4 l5 l6 (wI (l8 + 1)) M
noncomputable def bX4_fits_100 (k73 : Int → Int → Int → Mem → Option (Int × Mem)) (k100 : Int → Int → Int → Int → Int → Mem → Option (Int × Mem)) (l0 l4 l5 l6 l8 : Int) (M : Mem) : Option (Int × Mem) :=
  if 8 ≤ l8 then
    mX4_fits_167 k73 l0 l4 l5 l6 M
  else
    if lcmp l6 0 = 0 then
      mX4_fits_167 k73 l0 l4 l5 l6 M
    else
      (gF 4 0 M l0).bind fun a115 =>
      (gF 6 8 M a115).bind fun a118 =>
      (aG 14 M a118 l8).bind fun a123 =>
      if iand (ishr l4 l8) 1 = 0 then
        mX4_fits_161 k73 k100 l0 l4 l5 l6 l8 M
      else
        if a123 = 0 then
          mX4_fits_161 k73 k100 l0 l4 l5 l6 l8 M
        else
          (gF 4 1 M l0).bind fun a144 =>
          (gF 4 8 M l0).bind fun a148 =>
          (gK 0 M a144).bind fun _ =>
          (mX0_soInWord a144 a148 a123 l5 M).bind fun q155 =>
          mX4_fits_161 k73 k100 l0 l4 l5 (land l6 q155.1) l8 q155.2
noncomputable def mX4_fits_100 (k73 : Int → Int → Int → Mem → Option (Int × Mem)) : Nat → Int → Int → Int → Int → Int → Mem → Option (Int × Mem)
  | 0 => fun _ _ _ _ _ _ => none
  | fu + 1 => bX4_fits_100 k73 (mX4_fits_100 k73 fu)
noncomputable def bX4_fits_73 (k73 : Int → Int → Int → Mem → Option (Int × Mem)) (l0 l4 l5 : Int) (M : Mem) : Option (Int × Mem) :=
  (gF 4 7 M l0).bind fun a76 =>
  (gK 7 M a76).bind fun _ =>
  (mX7_usedWords a76 M).bind fun q79 =>
  if q79.1 ≤ l5 then
    some (0, q79.2)
  else
    (gF 4 7 q79.2 l0).bind fun a86 =>
    (gF 7 0 q79.2 a86).bind fun a89 =>
    (aG 13 q79.2 a89 l5).bind fun a94 =>
    mX4_fits_100 k73 FU l0 l4 l5 a94 0 q79.2
noncomputable def mX4_fits_73 : Nat → Int → Int → Int → Mem → Option (Int × Mem)
  | 0 => fun _ _ _ _ => none
  | fu + 1 => bX4_fits_73 (mX4_fits_73 fu)
noncomputable def mX4_fits (l0 l1 l2 l3 l4 : Int) (M : Mem) : Option (Int × Mem) :=
  if l3 < 1 then
    some (0, M)
  else
    if l3 ≤ 3 then
      (gF 4 8 M l0).bind fun a13 =>
      (gK 3 M a13).bind fun _ =>
      (mX3_resize a13 0 l1 M).bind fun q18 =>
      (gF 4 8 q18.2 l0).bind fun a23 =>
      (gK 3 q18.2 a23).bind fun _ =>
      (mX3_resize a23 1 l2 q18.2).bind fun q28 =>
      (gF 4 8 q28.2 l0).bind fun a33 =>
      (gK 3 q28.2 a33).bind fun _ =>
      (mX3_resize a33 2 l3 q28.2).bind fun q38 =>
      (gF 4 8 q38.2 l0).bind fun a43 =>
      (gF 3 7 q38.2 a43).bind fun a46 =>
      if a46 ≤ 12 then
        (gF 4 7 q38.2 l0).bind fun a57 =>
        (gF 4 8 q38.2 l0).bind fun a61 =>
        (gF 3 7 q38.2 a61).bind fun a64 =>
        (gK 7 q38.2 a57).bind fun _ =>
        (mX7_takeAll a57 a64 q38.2).bind fun q67 =>
        mX4_fits_73 FU l0 l4 0 q67.2
      else
        some (0, q38.2)
    else
      some (0, M)
noncomputable def bX4_findLeastSizes_93 (k93 : Int → Int → Mem → Option (Int × Mem)) (l0 l2 : Int) (M : Mem) : Option (Int × Mem) :=
  if 3 ≤ l2 then
    some (0, M)
  else
    (gF 4 9 M l0).bind fun a99 =>
    (aS 10 M a99 l2 (-1)).bind fun M104 =>
    k93 l0 (wI (l2 + 1)) M104
noncomputable def mX4_findLeastSizes_93 : Nat → Int → Int → Mem → Option (Int × Mem)
  | 0 => fun _ _ _ => none
  | fu + 1 => bX4_findLeastSizes_93 (mX4_findLeastSizes_93 fu)
noncomputable def bX4_findLeastSizes_32 (k16 : Int → Int → Int → Mem → Option (Int × Mem)) (k24 : Int → Int → Int → Int → Mem → Option (Int × Mem)) (k32 : Int → Int → Int → Int → Int → Mem → Option (Int × Mem)) (l0 l1 l2 l3 l4 : Int) (M : Mem) : Option (Int × Mem) :=
  if 3 < l4 then
    k24 l0 l1 l2 (wI (l3 + 1)) M
  else
    (gK 4 M l0).bind fun _ =>
    (mX4_fits l0 l3 l4 (wI ((wI (l2 - l3)) - l4)) l1 M).bind fun q49 =>
    if q49.1 = 0 then
      k32 l0 l1 l2 l3 (wI (l4 + 1)) q49.2
    else
      (gF 4 8 q49.2 l0).bind fun a56 =>
      (gF 3 0 q49.2 a56).bind fun a59 =>
      (gF 4 9 q49.2 l0).bind fun a64 =>
      (aC 10 q49.2 a59 0 a64 0 3).bind fun M69 =>
      some (0, M69)
noncomputable def mX4_findLeastSizes_32 (k16 : Int → Int → Int → Mem → Option (Int × Mem)) (k24 : Int → Int → Int → Int → Mem → Option (Int × Mem)) : Nat → Int → Int → Int → Int → Int → Mem → Option (Int × Mem)
  | 0 => fun _ _ _ _ _ _ => none
  | fu + 1 => bX4_findLeastSizes_32 k16 k24 (mX4_findLeastSizes_32 k16 k24 fu)
noncomputable def bX4_findLeastSizes_24 (k16 : Int → Int → Int → Mem → Option (Int × Mem)) (k24 : Int → Int → Int → Int → Mem → Option (Int × Mem)) (l0 l1 l2 l3 : Int) (M : Mem) : Option (Int × Mem) :=
  if 3 < l3 then
    k16 l0 l1 (wI (l2 + 1)) M
  else
    mX4_findLeastSizes_32 k16 k24 FU l0 l1 l2 l3 1 M
noncomputable def mX4_findLeastSizes_24 (k16 : Int → Int → Int → Mem → Option (Int × Mem)) : Nat → Int → Int → Int → Int → Mem → Option (Int × Mem)
  | 0 => fun _ _ _ _ _ => none
  | fu + 1 => bX4_findLeastSizes_24 k16 (mX4_findLeastSizes_24 k16 fu)
noncomputable def bX4_findLeastSizes_16 (k16 : Int → Int → Int → Mem → Option (Int × Mem)) (l0 l1 l2 : Int) (M : Mem) : Option (Int × Mem) :=
  if 9 < l2 then
    mX4_findLeastSizes_93 FU l0 0 M
  else
    mX4_findLeastSizes_24 k16 FU l0 l1 l2 1 M
noncomputable def mX4_findLeastSizes_16 : Nat → Int → Int → Int → Mem → Option (Int × Mem)
  | 0 => fun _ _ _ _ => none
  | fu + 1 => bX4_findLeastSizes_16 (mX4_findLeastSizes_16 fu)
noncomputable def mX4_findLeastSizes (l0 l1 : Int) (M : Mem) : Option (Int × Mem) :=
  (gF 4 8 M l0).bind fun a1 =>
  (gF 4 0 M l0).bind fun a5 =>
  (gF 6 0 M a5).bind fun a8 =>
  (gK 3 M a1).bind fun _ =>
  (mX3_copy a1 a8 M).bind fun q11 =>
  mX4_findLeastSizes_16 FU l0 l1 3 q11.2
noncomputable def mX4_leastSize_26 (l0 l1 : Int) (M : Mem) : Option (Int × Mem) :=
  (gF 4 9 M l0).bind fun a27 =>
  (aG 10 M a27 l1).bind fun a31 =>
  some (a31, M)
noncomputable def mX4_leastSize (l0 l1 : Int) (M : Mem) : Option (Int × Mem) :=
  (gF 4 0 M l0).bind fun a1 =>
  (gK 6 M a1).bind fun _ =>
  (mX6_viewedStories a1 M).bind fun q4 =>
  (gF 4 10 q4.2 l0).bind fun a9 =>
  if a9 = q4.1 then
    mX4_leastSize_26 l0 l1 q4.2
  else
    (gK 4 q4.2 l0).bind fun _ =>
    (mX4_findLeastSizes l0 q4.1 q4.2).bind fun q18 =>
    (pF 4 10 q18.2 l0 q4.1).bind fun M23 =>
    mX4_leastSize_26 l0 l1 M23
noncomputable def bX7_isNothing_2 (k2 : Int → Int → Mem → Option (Int × Mem)) (l0 l1 : Int) (M : Mem) : Option (Int × Mem) :=
  (gF 7 1 M l0).bind fun a4 =>
  if a4 ≤ l1 then
    some (1, M)
  else
    (gF 7 0 M l0).bind fun a11 =>
    (aG 13 M a11 l1).bind fun a15 =>
    if lcmp a15 0 = 0 then
      k2 l0 (wI (l1 + 1)) M
    else
      some (0, M)
noncomputable def mX7_isNothing_2 : Nat → Int → Int → Mem → Option (Int × Mem)
  | 0 => fun _ _ _ => none
  | fu + 1 => bX7_isNothing_2 (mX7_isNothing_2 fu)
noncomputable def mX7_isNothing (l0 : Int) (M : Mem) : Option (Int × Mem) :=
  mX7_isNothing_2 FU l0 0 M
noncomputable def mX4_isBefore_35 (M : Mem) : Option (Int × Mem) :=
  some (1, M)
noncomputable def mX4_isBefore (l0 l1 : Int) (M : Mem) : Option (Int × Mem) :=
  (mJ6_bitCount_0f7a4 l0 M).bind fun q1 =>
  (mJ6_bitCount_0f7a4 l1 q1.2).bind fun q5 =>
  (some (iand (ixor l0 l1) (ineg (ixor l0 l1)))).bind fun b18 =>
  if wI (q1.1 - q5.1) < 0 then
    mX4_isBefore_35  q5.2
  else
    if wI (q1.1 - q5.1) = 0 then
      if iand l0 b18 = 0 then
        some (0, q5.2)
      else
        mX4_isBefore_35  q5.2
    else
      some (0, q5.2)
noncomputable def mX4_leavesNothing_54 (k2 : Int → Int → Int → Int → Mem → Option (Int × Mem)) (k21 : Int → Int → Int → Int → Int → Int → Mem → Option (Int × Mem)) (l0 l1 l2 l3 l4 l6 : Int) (M : Mem) : Option (Int × Mem) :=
  k21 l0 l1 l2 l3 l4 (wI (l6 + 1)) M
noncomputable def bX4_leavesNothing_21 (k2 : Int → Int → Int → Int → Mem → Option (Int × Mem)) (k21 : Int → Int → Int → Int → Int → Int → Mem → Option (Int × Mem)) (l0 l1 l2 l3 l4 l6 : Int) (M : Mem) : Option (Int × Mem) :=
  if 8 ≤ l6 then
    if lcmp l4 0 = 0 then
      k2 l0 l1 l2 (wI (l3 + 1)) M
    else
      some (0, M)
  else
    if iand (ishr l2 l6) 1 = 0 then
      mX4_leavesNothing_54 k2 k21 l0 l1 l2 l3 l4 l6 M
    else
      (gF 4 3 M l0).bind fun a40 =>
      (aG 16 M a40 l6).bind fun a45 =>
      (gF 7 0 M a45).bind fun a46 =>
      (aG 13 M a46 l3).bind fun a50 =>
      mX4_leavesNothing_54 k2 k21 l0 l1 l2 l3 (land l4 a50) l6 M
noncomputable def mX4_leavesNothing_21 (k2 : Int → Int → Int → Int → Mem → Option (Int × Mem)) : Nat → Int → Int → Int → Int → Int → Int → Mem → Option (Int × Mem)
  | 0 => fun _ _ _ _ _ _ _ => none
  | fu + 1 => bX4_leavesNothing_21 k2 (mX4_leavesNothing_21 k2 fu)
noncomputable def bX4_leavesNothing_2 (k2 : Int → Int → Int → Int → Mem → Option (Int × Mem)) (l0 l1 l2 l3 : Int) (M : Mem) : Option (Int × Mem) :=
  (gK 7 M l1).bind fun _ =>
  (mX7_usedWords l1 M).bind fun q4 =>
  if q4.1 ≤ l3 then
    some (1, q4.2)
  else
    (gF 7 0 q4.2 l1).bind fun a11 =>
    (aG 13 q4.2 a11 l3).bind fun a15 =>
    mX4_leavesNothing_21 k2 FU l0 l1 l2 l3 a15 0 q4.2
noncomputable def mX4_leavesNothing_2 : Nat → Int → Int → Int → Int → Mem → Option (Int × Mem)
  | 0 => fun _ _ _ _ _ => none
  | fu + 1 => bX4_leavesNothing_2 (mX4_leavesNothing_2 fu)
noncomputable def mX4_leavesNothing (l0 l1 l2 : Int) (M : Mem) : Option (Int × Mem) :=
  mX4_leavesNothing_2 FU l0 l1 l2 0 M
noncomputable def mX4_fewestAgainst_64 (k13 : Int → Int → Int → Int → Int → Mem → Option (Int × Mem)) (l0 l1 l2 l3 l4 : Int) (M : Mem) : Option (Int × Mem) :=
  k13 l0 l1 l2 l3 (wI (l4 + 1)) M
noncomputable def mX4_fewestAgainst_44 (k13 : Int → Int → Int → Int → Int → Mem → Option (Int × Mem)) (l0 l1 l2 l3 l4 s0 : Int) (M : Mem) : Option (Int × Mem) :=
  if s0 = 0 then
    mX4_fewestAgainst_64 k13 l0 l1 l2 l3 l4 M
  else
    (gK 4 M l0).bind fun _ =>
    (mX4_leavesNothing l0 l1 l4 M).bind fun q55 =>
    if q55.1 = 0 then
      mX4_fewestAgainst_64 k13 l0 l1 l2 l3 l4 q55.2
    else
      mX4_fewestAgainst_64 k13 l0 l1 l2 l4 l4 q55.2
noncomputable def mX4_fewestAgainst_43 (k13 : Int → Int → Int → Int → Int → Mem → Option (Int × Mem)) (l0 l1 l2 l3 l4 : Int) (M : Mem) : Option (Int × Mem) :=
  mX4_fewestAgainst_44 k13 l0 l1 l2 l3 l4 0 M
noncomputable def bX4_fewestAgainst_13 (k13 : Int → Int → Int → Int → Int → Mem → Option (Int × Mem)) (l0 l1 l2 l3 l4 : Int) (M : Mem) : Option (Int × Mem) :=
  if 256 ≤ l4 then
    some (l3, M)
  else
    if iand l4 (ixor l2 (-1)) = 0 then
      (mX4_isBefore l4 l3 M).bind fun q33 =>
      if q33.1 = 0 then
        mX4_fewestAgainst_43 k13 l0 l1 l2 l3 l4 q33.2
      else
        mX4_fewestAgainst_44 k13 l0 l1 l2 l3 l4 1 q33.2
    else
      mX4_fewestAgainst_43 k13 l0 l1 l2 l3 l4 M
noncomputable def mX4_fewestAgainst_13 : Nat → Int → Int → Int → Int → Int → Mem → Option (Int × Mem)
  | 0 => fun _ _ _ _ _ _ => none
  | fu + 1 => bX4_fewestAgainst_13 (mX4_fewestAgainst_13 fu)
noncomputable def mX4_fewestAgainst (l0 l1 : Int) (M : Mem) : Option (Int × Mem) :=
  (gF 4 0 M l0).bind fun a1 =>
  (gK 6 M a1).bind fun _ =>
  (mX6_viewedStories a1 M).bind fun q4 =>
  mX4_fewestAgainst_13 FU l0 l1 q4.1 q4.1 0 q4.2
noncomputable def mX4_coreStories (l0 : Int) (M : Mem) : Option (Int × Mem) :=
  (gK 4 M l0).bind fun _ =>
  (mX4_lookUp l0 M).bind fun q1 =>
  if q1.1 = 0 then
    some (0, q1.2)
  else
    (gF 4 6 q1.2 l0).bind fun a8 =>
    (gK 7 q1.2 a8).bind fun _ =>
    (mX7_isNothing a8 q1.2).bind fun q11 =>
    if q11.1 = 0 then
      some (0, q11.2)
    else
      (gF 4 5 q11.2 l0).bind fun a19 =>
      (gK 4 q11.2 l0).bind fun _ =>
      (mX4_fewestAgainst l0 a19 q11.2).bind fun q22 =>
      some (q22.1, q22.2)
noncomputable def bX7_countWhere_4 (k4 : Int → Int → Int → Int → Mem → Option (Int × Mem)) (l0 l1 l2 l3 : Int) (M : Mem) : Option (Int × Mem) :=
  (gF 7 1 M l0).bind fun a6 =>
  if a6 ≤ l3 then
    some (l2, M)
  else
    (gF 7 0 M l0).bind fun a14 =>
    (aG 13 M a14 l3).bind fun a18 =>
    (mX7_soAt l1 l3 M).bind fun q21 =>
    (mJ13_bitCount_95d88 (land a18 q21.1) q21.2).bind fun q25 =>
    k4 l0 l1 (wI (l2 + q25.1)) (wI (l3 + 1)) q25.2
noncomputable def mX7_countWhere_4 : Nat → Int → Int → Int → Int → Mem → Option (Int × Mem)
  | 0 => fun _ _ _ _ _ => none
  | fu + 1 => bX7_countWhere_4 (mX7_countWhere_4 fu)
noncomputable def mX7_countWhere (l0 l1 : Int) (M : Mem) : Option (Int × Mem) :=
  mX7_countWhere_4 FU l0 l1 0 0 M
noncomputable def mX4_sureness (l0 l1 : Int) (M : Mem) : Option (Int × Mem) :=
  if l1 = (-1) then
    some ((-1), M)
  else
    (gK 4 M l0).bind fun _ =>
    (mX4_lookUp l0 M).bind fun q6 =>
    if q6.1 = 0 then
      some ((-1), q6.2)
    else
      (gF 4 6 q6.2 l0).bind fun a13 =>
      (gK 7 q6.2 a13).bind fun _ =>
      (mX7_isNothing a13 q6.2).bind fun q16 =>
      if q16.1 = 0 then
        (gF 4 6 q16.2 l0).bind fun a25 =>
        (gF 4 0 q16.2 l0).bind fun a29 =>
        (gF 6 0 q16.2 a29).bind fun a32 =>
        (gK 3 q16.2 a32).bind fun _ =>
        (mX3_bit a32 l1 q16.2).bind fun q36 =>
        (gK 7 q36.2 a25).bind fun _ =>
        (mX7_countWhere a25 q36.1 q36.2).bind fun q39 =>
        if q39.1 = 0 then
          some (0, q39.2)
        else
          (gF 4 6 q39.2 l0).bind fun a51 =>
          (gK 7 q39.2 a51).bind fun _ =>
          (mX7_count a51 q39.2).bind fun q54 =>
          if q39.1 = q54.1 then
            some (1, q54.2)
          else
            some ((-1), q54.2)
      else
        some ((-1), q16.2)
noncomputable def mX4_causeStories_35 (l0 s0 s1 s2 : Int) (M : Mem) : Option (Int × Mem) :=
  (gK 7 M s0).bind fun _ =>
  (mX7_keepWhere s0 s1 s2 M).bind fun q35 =>
  (gF 4 7 q35.2 l0).bind fun a40 =>
  (gK 4 q35.2 l0).bind fun _ =>
  (mX4_fewestAgainst l0 a40 q35.2).bind fun q43 =>
  some (q43.1, q43.2)
noncomputable def mX4_causeStories (l0 l1 l2 : Int) (M : Mem) : Option (Int × Mem) :=
  (gF 4 7 M l0).bind fun a1 =>
  (gF 4 5 M l0).bind fun a5 =>
  (gK 7 M a1).bind fun _ =>
  (mX7_copy a1 a5 M).bind fun q8 =>
  (gF 4 7 q8.2 l0).bind fun a12 =>
  (gF 4 0 q8.2 l0).bind fun a16 =>
  (gF 6 0 q8.2 a16).bind fun a19 =>
  (gK 3 q8.2 a19).bind fun _ =>
  (mX3_bit a19 l1 q8.2).bind fun q23 =>
  if l2 = 0 then
    mX4_causeStories_35 l0 a12 q23.1 1 q23.2
  else
    mX4_causeStories_35 l0 a12 q23.1 0 q23.2
noncomputable def mX6_hasStory (l0 l1 : Int) (M : Mem) : Option (Int × Mem) :=
  if l1 < 0 then
    some (0, M)
  else
    (gF 6 11 M l0).bind fun a6 =>
    if a6 ≤ l1 then
      some (0, M)
    else
      some (1, M)
noncomputable def mX4_countWithout_96 (k60 : Int → Int → Int → Int → Mem → Option (Int × Mem)) (l0 l1 l2 l4 : Int) (M : Mem) : Option (Int × Mem) :=
  k60 l0 l1 l2 (wI (l4 + 1)) M
noncomputable def bX4_countWithout_60 (k60 : Int → Int → Int → Int → Mem → Option (Int × Mem)) (l0 l1 l2 l4 : Int) (M : Mem) : Option (Int × Mem) :=
  if 8 ≤ l4 then
    (gF 4 7 M l0).bind fun a103 =>
    (gK 7 M a103).bind fun _ =>
    (mX7_count a103 M).bind fun q106 =>
    some (q106.1, q106.2)
  else
    if l4 = l1 then
      mX4_countWithout_96 k60 l0 l1 l2 l4 M
    else
      if iand (ishr l2 l4) 1 = 0 then
        mX4_countWithout_96 k60 l0 l1 l2 l4 M
      else
        (gF 4 7 M l0).bind fun a83 =>
        (gF 4 3 M l0).bind fun a87 =>
        (aG 16 M a87 l4).bind fun a92 =>
        (gK 7 M a83).bind fun _ =>
        (mX7_keepOnly a83 a92 M).bind fun q93 =>
        mX4_countWithout_96 k60 l0 l1 l2 l4 q93.2
noncomputable def mX4_countWithout_60 : Nat → Int → Int → Int → Int → Mem → Option (Int × Mem)
  | 0 => fun _ _ _ _ _ => none
  | fu + 1 => bX4_countWithout_60 (mX4_countWithout_60 fu)
noncomputable def mX4_countWithout_32 (l0 l1 l2 s0 : Int) (M : Mem) : Option (Int × Mem) :=
  if s0 = 0 then
    some ((-1), M)
  else
    (gK 4 M l0).bind fun _ =>
    (mX4_lookUp l0 M).bind fun q38 =>
    if q38.1 = 0 then
      some ((-1), q38.2)
    else
      (gF 4 7 q38.2 l0).bind fun a47 =>
      (gF 4 5 q38.2 l0).bind fun a51 =>
      (gK 7 q38.2 a47).bind fun _ =>
      (mX7_copy a47 a51 q38.2).bind fun q54 =>
      mX4_countWithout_60 FU l0 l1 l2 0 q54.2
noncomputable def mX4_countWithout_31 (l0 l1 l2 : Int) (M : Mem) : Option (Int × Mem) :=
  mX4_countWithout_32 l0 l1 l2 0 M
noncomputable def mX4_countWithout (l0 l1 : Int) (M : Mem) : Option (Int × Mem) :=
  (gF 4 0 M l0).bind fun a1 =>
  (gK 6 M a1).bind fun _ =>
  (mX6_viewedStories a1 M).bind fun q4 =>
  (gF 4 0 q4.2 l0).bind fun a9 =>
  (gK 6 q4.2 a9).bind fun _ =>
  (mX6_hasStory a9 l1 q4.2).bind fun q13 =>
  if q13.1 = 0 then
    mX4_countWithout_31 l0 l1 q4.1 q13.2
  else
    if iand (ishr q4.1 l1) 1 = 0 then
      mX4_countWithout_31 l0 l1 q4.1 q13.2
    else
      mX4_countWithout_32 l0 l1 q4.1 1 q13.2
noncomputable def mX4_takeAsked_112 (k33 : Int → Int → Int → Int → Mem → Option (Int × Mem)) (l0 l1 l2 l3 : Int) (M : Mem) : Option (Int × Mem) :=
  k33 l0 (ior l1 (ishl 1 l3)) l2 (wI (l3 + 1)) M
noncomputable def mX4_takeAsked_106 (k33 : Int → Int → Int → Int → Mem → Option (Int × Mem)) (k51 : Int → Int → Int → Int → Int → Int → Mem → Option (Int × Mem)) (l0 l1 l2 l3 l4 l5 : Int) (M : Mem) : Option (Int × Mem) :=
  k51 l0 l1 l2 l3 l4 (wI (l5 + 1)) M
noncomputable def bX4_takeAsked_51 (k33 : Int → Int → Int → Int → Mem → Option (Int × Mem)) (k51 : Int → Int → Int → Int → Int → Int → Mem → Option (Int × Mem)) (l0 l1 l2 l3 l4 l5 : Int) (M : Mem) : Option (Int × Mem) :=
  (gF 4 0 M l0).bind fun a54 =>
  (gF 6 0 M a54).bind fun a57 =>
  (gF 3 7 M a57).bind fun a60 =>
  if a60 ≤ l5 then
    mX4_takeAsked_112 k33 l0 l1 l2 l3 M
  else
    if 12 ≤ l5 then
      mX4_takeAsked_112 k33 l0 l1 l2 l3 M
    else
      (gF 4 0 M l0).bind fun a76 =>
      (gF 6 0 M a76).bind fun a79 =>
      (gK 3 M a79).bind fun _ =>
      (mX3_bit a79 l5 M).bind fun q84 =>
      if iand (ishr l4 q84.1) 1 = 0 then
        mX4_takeAsked_106 k33 k51 l0 l1 l2 l3 l4 l5 q84.2
      else
        (gF 4 11 q84.2 l0).bind fun a94 =>
        (aG 10 q84.2 a94 l5).bind fun a100 =>
        (aS 10 q84.2 a94 l5 (ior a100 (ishl 1 l3))).bind fun M105 =>
        mX4_takeAsked_106 k33 k51 l0 l1 l2 l3 l4 l5 M105
noncomputable def mX4_takeAsked_51 (k33 : Int → Int → Int → Int → Mem → Option (Int × Mem)) : Nat → Int → Int → Int → Int → Int → Int → Mem → Option (Int × Mem)
  | 0 => fun _ _ _ _ _ _ _ => none
  | fu + 1 => bX4_takeAsked_51 k33 (mX4_takeAsked_51 k33 fu)
noncomputable def bX4_takeAsked_33 (k33 : Int → Int → Int → Int → Mem → Option (Int × Mem)) (l0 l1 l2 l3 : Int) (M : Mem) : Option (Int × Mem) :=
  if l2 ≤ l3 then
    some (l1, M)
  else
    (gF 4 6 M l0).bind fun a39 =>
    (gK 7 M a39).bind fun _ =>
    (mX7_nth a39 l3 M).bind fun q43 =>
    mX4_takeAsked_51 k33 FU l0 l1 l2 l3 q43.1 0 q43.2
noncomputable def mX4_takeAsked_33 : Nat → Int → Int → Int → Int → Mem → Option (Int × Mem)
  | 0 => fun _ _ _ _ _ => none
  | fu + 1 => bX4_takeAsked_33 (mX4_takeAsked_33 fu)
noncomputable def bX4_takeAsked_4 (k4 : Int → Int → Int → Mem → Option (Int × Mem)) (l0 l1 l2 : Int) (M : Mem) : Option (Int × Mem) :=
  if 12 ≤ l2 then
    (gF 4 6 M l0).bind fun a24 =>
    (gK 7 M a24).bind fun _ =>
    (mX7_count a24 M).bind fun q27 =>
    mX4_takeAsked_33 FU l0 l1 q27.1 0 q27.2
  else
    (gF 4 11 M l0).bind fun a11 =>
    (aS 10 M a11 l2 0).bind fun M16 =>
    k4 l0 l1 (wI (l2 + 1)) M16
noncomputable def mX4_takeAsked_4 : Nat → Int → Int → Int → Mem → Option (Int × Mem)
  | 0 => fun _ _ _ _ => none
  | fu + 1 => bX4_takeAsked_4 (mX4_takeAsked_4 fu)
noncomputable def mX4_takeAsked (l0 : Int) (M : Mem) : Option (Int × Mem) :=
  mX4_takeAsked_4 FU l0 0 0 M
noncomputable def mX4_suffice_98 (k28 : Int → Int → Int → Int → Mem → Option (Int × Mem)) (f_suffice : Int → Int → Int → Mem → Option (Int × Mem)) (l0 l1 l2 l3 : Int) (M : Mem) : Option (Int × Mem) :=
  k28 l0 l1 l2 (wI (l3 + 1)) M
noncomputable def mX4_suffice_65 (k28 : Int → Int → Int → Int → Mem → Option (Int × Mem)) (f_suffice : Int → Int → Int → Mem → Option (Int × Mem)) (l0 l1 l2 l3 l4 l5 s0 : Int) (M : Mem) : Option (Int × Mem) :=
  if s0 = 0 then
    mX4_suffice_98 k28 f_suffice l0 l1 l2 l3 M
  else
    (f_suffice l0 l4 (wI (l2 - 1)) M).bind fun q78 =>
    if q78.1 = 0 then
      mX4_suffice_98 k28 f_suffice l0 l1 l2 l3 q78.2
    else
      (f_suffice l0 l5 (wI (l2 - 1)) q78.2).bind fun q90 =>
      if q90.1 = 0 then
        mX4_suffice_98 k28 f_suffice l0 l1 l2 l3 q90.2
      else
        some (1, q90.2)
noncomputable def mX4_suffice_64 (k28 : Int → Int → Int → Int → Mem → Option (Int × Mem)) (f_suffice : Int → Int → Int → Mem → Option (Int × Mem)) (l0 l1 l2 l3 l4 l5 : Int) (M : Mem) : Option (Int × Mem) :=
  mX4_suffice_65 k28 f_suffice l0 l1 l2 l3 l4 l5 0 M
noncomputable def bX4_suffice_28 (f_suffice : Int → Int → Int → Mem → Option (Int × Mem)) (k28 : Int → Int → Int → Int → Mem → Option (Int × Mem)) (l0 l1 l2 l3 : Int) (M : Mem) : Option (Int × Mem) :=
  (aL 10 M l0).bind fun a30 =>
  if a30 ≤ l3 then
    some (0, M)
  else
    (aG 10 M l0 l3).bind fun a37 =>
    (aG 10 M l0 l3).bind fun a44 =>
    (some (iand l1 (ixor a44 (-1)))).bind fun b48 =>
    if iand l1 a37 = 0 then
      mX4_suffice_64 k28 f_suffice l0 l1 l2 l3 (iand l1 a37) b48 M
    else
      if b48 = 0 then
        mX4_suffice_64 k28 f_suffice l0 l1 l2 l3 (iand l1 a37) b48 M
      else
        mX4_suffice_65 k28 f_suffice l0 l1 l2 l3 (iand l1 a37) b48 1 M
noncomputable def mX4_suffice_28 (f_suffice : Int → Int → Int → Mem → Option (Int × Mem)) : Nat → Int → Int → Int → Int → Mem → Option (Int × Mem)
  | 0 => fun _ _ _ _ _ => none
  | fu + 1 => bX4_suffice_28 f_suffice (mX4_suffice_28 f_suffice fu)
noncomputable def mX4_suffice (f_suffice : Int → Int → Int → Mem → Option (Int × Mem)) (l0 l1 l2 : Int) (M : Mem) : Option (Int × Mem) :=
  (mJ6_bitCount_0f7a4 l1 M).bind fun q1 =>
  if 1 < q1.1 then
    if l2 ≤ 0 then
      some (0, q1.2)
    else
      (mJ6_bitCount_0f7a4 l1 q1.2).bind fun q15 =>
      if q15.1 ≤ ishl 1 l2 then
        mX4_suffice_28 f_suffice FU l0 l1 l2 0 q15.2
      else
        some (0, q15.2)
  else
    some (1, q1.2)
noncomputable def gX4_suffice : Nat → Int → Int → Int → Mem → Option (Int × Mem)
  | 0 => fun _ _ _ _ => none
  | d + 1 => mX4_suffice (gX4_suffice d)
noncomputable def bX4_fewestQuestions_38 (k38 : Int → Int → Int → Mem → Option (Int × Mem)) (l0 l1 l2 : Int) (M : Mem) : Option (Int × Mem) :=
  if 4 < l2 then
    some ((-1), M)
  else
    (gF 4 11 M l0).bind fun a44 =>
    (gX4_suffice 8 a44 l1 l2 M).bind fun q49 =>
    if q49.1 = 0 then
      k38 l0 l1 (wI (l2 + 1)) q49.2
    else
      some (l2, q49.2)
noncomputable def mX4_fewestQuestions_38 : Nat → Int → Int → Int → Mem → Option (Int × Mem)
  | 0 => fun _ _ _ _ => none
  | fu + 1 => bX4_fewestQuestions_38 (mX4_fewestQuestions_38 fu)
noncomputable def mX4_fewestQuestions (l0 : Int) (M : Mem) : Option (Int × Mem) :=
  (gK 4 M l0).bind fun _ =>
  (mX4_lookUp l0 M).bind fun q1 =>
  if q1.1 = 0 then
    some ((-1), q1.2)
  else
    (gF 4 6 q1.2 l0).bind fun a8 =>
    (gK 7 q1.2 a8).bind fun _ =>
    (mX7_isNothing a8 q1.2).bind fun q11 =>
    if q11.1 = 0 then
      (gF 4 6 q11.2 l0).bind fun a18 =>
      (gK 7 q11.2 a18).bind fun _ =>
      (mX7_count a18 q11.2).bind fun q21 =>
      if q21.1 ≤ 16 then
        (gK 4 q21.2 l0).bind fun _ =>
        (mX4_takeAsked l0 q21.2).bind fun q32 =>
        mX4_fewestQuestions_38 FU l0 q32.1 0 q32.2
      else
        some ((-1), q21.2)
    else
      some ((-1), q11.2)
noncomputable def mX4_greaterAt (l0 l1 : Int) (M : Mem) : Option (Int × Mem) :=
  (gF 4 6 M l0).bind fun a1 =>
  (gF 4 0 M l0).bind fun a5 =>
  (gF 6 0 M a5).bind fun a8 =>
  (gK 3 M a8).bind fun _ =>
  (mX3_bit a8 l1 M).bind fun q12 =>
  (gK 7 q12.2 a1).bind fun _ =>
  (mX7_countWhere a1 q12.1 q12.2).bind fun q15 =>
  (gF 4 6 q15.2 l0).bind fun a21 =>
  (gK 7 q15.2 a21).bind fun _ =>
  (mX7_count a21 q15.2).bind fun q24 =>
  some (if q15.1 < wI (q24.1 - q15.1) then wI (q24.1 - q15.1) else q15.1, q24.2)
noncomputable def mX4_settlingPlace_57 (k23 : Int → Int → Int → Mem → Option (Int × Mem)) (l0 l1 l2 : Int) (M : Mem) : Option (Int × Mem) :=
  k23 l0 l1 (wI (l2 + 1)) M
noncomputable def mX4_settlingPlace_55 (k23 : Int → Int → Int → Mem → Option (Int × Mem)) (l0 l2 : Int) (M : Mem) : Option (Int × Mem) :=
  mX4_settlingPlace_57 k23 l0 l2 l2 M
noncomputable def bX4_settlingPlace_23 (k23 : Int → Int → Int → Mem → Option (Int × Mem)) (l0 l1 l2 : Int) (M : Mem) : Option (Int × Mem) :=
  (gF 4 0 M l0).bind fun a25 =>
  (gF 6 0 M a25).bind fun a28 =>
  (gF 3 7 M a28).bind fun a31 =>
  if a31 ≤ l2 then
    some (l1, M)
  else
    if l1 = (-1) then
      mX4_settlingPlace_55 k23 l0 l2 M
    else
      (gK 4 M l0).bind fun _ =>
      (mX4_greaterAt l0 l2 M).bind fun q44 =>
      (gK 4 q44.2 l0).bind fun _ =>
      (mX4_greaterAt l0 l1 q44.2).bind fun q49 =>
      if q49.1 ≤ q44.1 then
        mX4_settlingPlace_57 k23 l0 l1 l2 q49.2
      else
        mX4_settlingPlace_55 k23 l0 l2 q49.2
noncomputable def mX4_settlingPlace_23 : Nat → Int → Int → Int → Mem → Option (Int × Mem)
  | 0 => fun _ _ _ _ => none
  | fu + 1 => bX4_settlingPlace_23 (mX4_settlingPlace_23 fu)
noncomputable def mX4_settlingPlace (l0 : Int) (M : Mem) : Option (Int × Mem) :=
  (gK 4 M l0).bind fun _ =>
  (mX4_lookUp l0 M).bind fun q1 =>
  if q1.1 = 0 then
    some ((-1), q1.2)
  else
    (gF 4 6 q1.2 l0).bind fun a8 =>
    (gK 7 q1.2 a8).bind fun _ =>
    (mX7_isNothing a8 q1.2).bind fun q11 =>
    if q11.1 = 0 then
      mX4_settlingPlace_23 FU l0 (-1) 0 q11.2
    else
      some ((-1), q11.2)
noncomputable def mX4_nearestWorld_64 (k16 : Int → Int → Int → Int → Mem → Option (Int × Mem)) (l0 l1 l2 l3 : Int) (M : Mem) : Option (Int × Mem) :=
  k16 l0 l1 l2 (wI (l3 + 1)) M
noncomputable def bX4_nearestWorld_16 (k16 : Int → Int → Int → Int → Mem → Option (Int × Mem)) (l0 l1 l2 l3 : Int) (M : Mem) : Option (Int × Mem) :=
  (gF 4 6 M l0).bind fun a18 =>
  (gK 7 M a18).bind fun _ =>
  (mX7_most a18 M).bind fun q21 =>
  if q21.1 ≤ l3 then
    some (l1, q21.2)
  else
    (gF 4 0 q21.2 l0).bind fun a28 =>
    (gF 6 1 q21.2 a28).bind fun a31 =>
    (mJ13_bitCount_95d88 (lxor a31 (i2l l3)) q21.2).bind fun q37 =>
    if l2 ≤ q37.1 then
      mX4_nearestWorld_64 k16 l0 l1 l2 l3 q37.2
    else
      (gF 4 6 q37.2 l0).bind fun a49 =>
      (gK 7 q37.2 a49).bind fun _ =>
      (mX7_has a49 l3 q37.2).bind fun q53 =>
      if q53.1 = 0 then
        mX4_nearestWorld_64 k16 l0 l1 l2 l3 q53.2
      else
        mX4_nearestWorld_64 k16 l0 l3 q37.1 l3 q53.2
noncomputable def mX4_nearestWorld_16 : Nat → Int → Int → Int → Int → Mem → Option (Int × Mem)
  | 0 => fun _ _ _ _ _ => none
  | fu + 1 => bX4_nearestWorld_16 (mX4_nearestWorld_16 fu)
noncomputable def mX4_nearestWorld (l0 : Int) (M : Mem) : Option (Int × Mem) :=
  (gK 4 M l0).bind fun _ =>
  (mX4_lookUp l0 M).bind fun q1 =>
  if q1.1 = 0 then
    some ((-1), q1.2)
  else
    mX4_nearestWorld_16 FU l0 (-1) 13 0 q1.2
noncomputable def mX4_countGuessWorlds (l0 : Int) (M : Mem) : Option (Int × Mem) :=
  (gF 4 0 M l0).bind fun a1 =>
  (gF 6 12 M a1).bind fun a4 =>
  if a4 = 0 then
    some ((-1), M)
  else
    (gK 4 M l0).bind fun _ =>
    (mX4_lookUp l0 M).bind fun q11 =>
    if q11.1 = 0 then
      some ((-1), q11.2)
    else
      (gF 4 6 q11.2 l0).bind fun a20 =>
      (gF 4 0 q11.2 l0).bind fun a27 =>
      (gF 6 12 q11.2 a27).bind fun a30 =>
      (gK 4 q11.2 l0).bind fun _ =>
      (mX4_truth l0 8 a30 q11.2).bind fun q33 =>
      (gK 7 q33.2 a20).bind fun _ =>
      (mX7_keepOnly a20 q33.1 q33.2).bind fun q36 =>
      (gF 4 6 q36.2 l0).bind fun a40 =>
      (gK 7 q36.2 a40).bind fun _ =>
      (mX7_count a40 q36.2).bind fun q43 =>
      some (q43.1, q43.2)
noncomputable def mX4_countGuessForms (l0 : Int) (M : Mem) : Option (Int × Mem) :=
  (gF 4 0 M l0).bind fun a1 =>
  (gF 6 12 M a1).bind fun a4 =>
  if a4 = 0 then
    some ((-1), M)
  else
    (gK 4 M l0).bind fun _ =>
    (mX4_lookUp l0 M).bind fun q11 =>
    if q11.1 = 0 then
      some ((-1), q11.2)
    else
      (gK 4 q11.2 l0).bind fun _ =>
      (mX4_pickForms l0 q11.2).bind fun q20 =>
      (gF 4 7 q20.2 l0).bind fun a24 =>
      (gF 4 0 q20.2 l0).bind fun a31 =>
      (gF 6 12 q20.2 a31).bind fun a34 =>
      (gK 4 q20.2 l0).bind fun _ =>
      (mX4_truth l0 8 a34 q20.2).bind fun q37 =>
      (gK 7 q37.2 a24).bind fun _ =>
      (mX7_keepOnly a24 q37.1 q37.2).bind fun q40 =>
      (gF 4 7 q40.2 l0).bind fun a44 =>
      (gK 7 q40.2 a44).bind fun _ =>
      (mX7_count a44 q40.2).bind fun q47 =>
      some (q47.1, q47.2)
noncomputable def bX7_drop_2 (k2 : Int → Int → Int → Mem → Option (Int × Mem)) (l0 l1 l2 : Int) (M : Mem) : Option (Int × Mem) :=
  (gF 7 1 M l0).bind fun a4 =>
  if a4 ≤ l2 then
    some (0, M)
  else
    (gF 7 0 M l0).bind fun a11 =>
    (aG 13 M a11 l2).bind fun a16 =>
    (gF 7 0 M l1).bind fun a18 =>
    (aG 13 M a18 l2).bind fun a22 =>
    (aS 13 M a11 l2 (land a16 (lxor a22 (-1)))).bind fun M28 =>
    k2 l0 l1 (wI (l2 + 1)) M28
noncomputable def mX7_drop_2 : Nat → Int → Int → Int → Mem → Option (Int × Mem)
  | 0 => fun _ _ _ _ => none
  | fu + 1 => bX7_drop_2 (mX7_drop_2 fu)
noncomputable def mX7_drop (l0 l1 : Int) (M : Mem) : Option (Int × Mem) :=
  mX7_drop_2 FU l0 l1 0 M
noncomputable def mX4_formAgainst (l0 : Int) (M : Mem) : Option (Int × Mem) :=
  (gF 4 0 M l0).bind fun a1 =>
  (gF 6 12 M a1).bind fun a4 =>
  if a4 = 0 then
    some ((-1), M)
  else
    (gK 4 M l0).bind fun _ =>
    (mX4_lookUp l0 M).bind fun q11 =>
    if q11.1 = 0 then
      some ((-1), q11.2)
    else
      (gK 4 q11.2 l0).bind fun _ =>
      (mX4_pickForms l0 q11.2).bind fun q20 =>
      (gF 4 7 q20.2 l0).bind fun a24 =>
      (gF 4 0 q20.2 l0).bind fun a31 =>
      (gF 6 12 q20.2 a31).bind fun a34 =>
      (gK 4 q20.2 l0).bind fun _ =>
      (mX4_truth l0 8 a34 q20.2).bind fun q37 =>
      (gK 7 q37.2 a24).bind fun _ =>
      (mX7_drop a24 q37.1 q37.2).bind fun q40 =>
      (gF 4 7 q40.2 l0).bind fun a44 =>
      (gK 7 q40.2 a44).bind fun _ =>
      (mX7_nth a44 0 q40.2).bind fun q48 =>
      some (q48.1, q48.2)
noncomputable def mX6_copyWorlds (l0 l1 : Int) (M : Mem) : Option (Int × Mem) :=
  (gF 6 1 M l1).bind fun a2 =>
  (pF 6 1 M l0 a2).bind fun M5 =>
  (gF 6 2 M5 l1).bind fun a9 =>
  (gF 6 2 M5 l0).bind fun a14 =>
  (aC 13 M5 a9 0 a14 0 4).bind fun M19 =>
  (gF 6 3 M19 l1).bind fun a23 =>
  (gF 6 3 M19 l0).bind fun a28 =>
  (aCZ 11 M19 a23 0 a28 0 4).bind fun M33 =>
  some (0, M33)
noncomputable def bX6_copyStories_2 (k2 : Int → Int → Int → Mem → Option (Int × Mem)) (l0 l1 l2 : Int) (M : Mem) : Option (Int × Mem) :=
  if 8 ≤ l2 then
    (gF 6 11 M l1).bind fun a52 =>
    (pF 6 11 M l0 a52).bind fun M55 =>
    some (0, M55)
  else
    (gF 6 8 M l0).bind fun a9 =>
    (gF 6 8 M l1).bind fun a14 =>
    (aG 14 M a14 l2).bind fun a18 =>
    (aSR 14 M a9 l2 a18).bind fun M19 =>
    (gF 6 9 M19 l0).bind fun a21 =>
    (gF 6 9 M19 l1).bind fun a26 =>
    (aG 10 M19 a26 l2).bind fun a30 =>
    (aS 10 M19 a21 l2 a30).bind fun M31 =>
    (gF 6 10 M31 l0).bind fun a33 =>
    (gF 6 10 M31 l1).bind fun a38 =>
    (aG 10 M31 a38 l2).bind fun a42 =>
    (aS 10 M31 a33 l2 a42).bind fun M43 =>
    k2 l0 l1 (wI (l2 + 1)) M43
noncomputable def mX6_copyStories_2 : Nat → Int → Int → Int → Mem → Option (Int × Mem)
  | 0 => fun _ _ _ _ => none
  | fu + 1 => bX6_copyStories_2 (mX6_copyStories_2 fu)
noncomputable def mX6_copyStories (l0 l1 : Int) (M : Mem) : Option (Int × Mem) :=
  mX6_copyStories_2 FU l0 l1 0 M
noncomputable def mX6_copy (l0 l1 : Int) (M : Mem) : Option (Int × Mem) :=
  (gF 6 0 M l0).bind fun a1 =>
  (gF 6 0 M l1).bind fun a5 =>
  (gK 3 M a1).bind fun _ =>
  (mX3_copy a1 a5 M).bind fun q8 =>
  (gK 6 q8.2 l0).bind fun _ =>
  (mX6_copyWorlds l0 l1 q8.2).bind fun q13 =>
  (gF 6 4 q13.2 l1).bind fun a17 =>
  (gF 6 4 q13.2 l0).bind fun a22 =>
  (aC 10 q13.2 a17 0 a22 0 400).bind fun M29 =>
  (gF 6 5 M29 l1).bind fun a34 =>
  (pF 6 5 M29 l0 a34).bind fun M37 =>
  (gF 6 6 M37 l1).bind fun a42 =>
  (pF 6 6 M37 l0 a42).bind fun M45 =>
  (gF 6 7 M45 l1).bind fun a50 =>
  (pF 6 7 M45 l0 a50).bind fun M53 =>
  (gK 6 M53 l0).bind fun _ =>
  (mX6_copyStories l0 l1 M53).bind fun q58 =>
  (gF 6 12 q58.2 l1).bind fun a63 =>
  (pF 6 12 q58.2 l0 a63).bind fun M66 =>
  (gF 6 13 M66 l1).bind fun a71 =>
  (pF 6 13 M66 l0 a71).bind fun M74 =>
  (gF 6 14 M74 l1).bind fun a79 =>
  (pF 6 14 M74 l0 a79).bind fun M82 =>
  (gF 6 15 M82 l1).bind fun a86 =>
  (gF 6 15 M82 l0).bind fun a91 =>
  (aC 10 M82 a86 0 a91 0 40).bind fun M97 =>
  (gF 6 16 M97 l1).bind fun a101 =>
  (gF 6 16 M97 l0).bind fun a106 =>
  (aCZ 11 M97 a101 0 a106 0 40).bind fun M112 =>
  (gF 6 17 M112 l1).bind fun a116 =>
  (gF 6 17 M112 l0).bind fun a121 =>
  (aC 10 M112 a116 0 a121 0 40).bind fun M127 =>
  (gF 6 18 M127 l1).bind fun a132 =>
  (pF 6 18 M127 l0 a132).bind fun M135 =>
  some (0, M135)
noncomputable def bX6_clearWorlds_7 (k7 : Int → Int → Mem → Option (Int × Mem)) (l0 l1 : Int) (M : Mem) : Option (Int × Mem) :=
  if 4 ≤ l1 then
    some (0, M)
  else
    (gF 6 3 M l0).bind fun a13 =>
    (aSZ 11 M a13 l1 0).bind fun M18 =>
    k7 l0 (wI (l1 + 1)) M18
noncomputable def mX6_clearWorlds_7 : Nat → Int → Int → Mem → Option (Int × Mem)
  | 0 => fun _ _ _ => none
  | fu + 1 => bX6_clearWorlds_7 (mX6_clearWorlds_7 fu)
noncomputable def mX6_clearWorlds (l0 : Int) (M : Mem) : Option (Int × Mem) :=
  (pF 6 1 M l0 0).bind fun M2 =>
  mX6_clearWorlds_7 FU l0 0 M2
noncomputable def mX6_isSo (l0 l1 : Int) (M : Mem) : Option (Int × Mem) :=
  (gF 6 1 M l0).bind fun a1 =>
  (gF 6 0 M l0).bind fun a5 =>
  (gK 3 M a5).bind fun _ =>
  (mX3_bit a5 l1 M).bind fun q9 =>
  if lcmp (land (lshr a1 q9.1) 1) 0 = 0 then
    some (0, q9.2)
  else
    some (1, q9.2)
noncomputable def bX6_addBytes_3 (k3 : Int → Int → Int → Mem → Option (Int × Mem)) (l0 l1 l2 : Int) (M : Mem) : Option (Int × Mem) :=
  if l2 < 0 then
    some (0, M)
  else
    (gF 6 5 M l0).bind fun a8 =>
    if 400 ≤ a8 then
      some (0, M)
    else
      (gF 6 4 M l0).bind fun a18 =>
      (gF 6 5 M l0).bind fun a22 =>
      (aS 10 M a18 a22 (iand (ishr l1 l2) 255)).bind fun M32 =>
      (gF 6 5 M32 l0).bind fun a35 =>
      (pF 6 5 M32 l0 (wI (a35 + 1))).bind fun M40 =>
      k3 l0 l1 (wI (l2 + (-8))) M40
noncomputable def mX6_addBytes_3 : Nat → Int → Int → Int → Mem → Option (Int × Mem)
  | 0 => fun _ _ _ _ => none
  | fu + 1 => bX6_addBytes_3 (mX6_addBytes_3 fu)
noncomputable def mX6_addBytes (l0 l1 : Int) (M : Mem) : Option (Int × Mem) :=
  mX6_addBytes_3 FU l0 l1 24 M
noncomputable def mX6_storyText (l0 l1 : Int) (M : Mem) : Option (Int × Mem) :=
  (gK 6 M l0).bind fun _ =>
  (mX6_hasStory l0 l1 M).bind fun q2 =>
  if q2.1 = 0 then
    some (0, q2.2)
  else
    (gF 6 8 q2.2 l0).bind fun a9 =>
    (aG 14 q2.2 a9 l1).bind fun a13 =>
    some (a13, q2.2)
noncomputable def mX6_addStory (l0 l1 : Int) (M : Mem) : Option (Int × Mem) :=
  (gF 6 11 M l0).bind fun a1 =>
  if a1 < 8 then
    (gF 6 8 M l0).bind fun a12 =>
    (gF 6 11 M l0).bind fun a16 =>
    (aSR 14 M a12 a16 l1).bind fun M20 =>
    (gF 6 9 M20 l0).bind fun a22 =>
    (gF 6 11 M20 l0).bind fun a26 =>
    (gF 6 13 M20 l0).bind fun a30 =>
    (aS 10 M20 a22 a26 a30).bind fun M33 =>
    (gF 6 10 M33 l0).bind fun a35 =>
    (gF 6 11 M33 l0).bind fun a39 =>
    (aS 10 M33 a35 a39 (-1)).bind fun M43 =>
    (gF 6 11 M43 l0).bind fun a46 =>
    (pF 6 11 M43 l0 (wI (a46 + 1))).bind fun M51 =>
    (gF 6 11 M51 l0).bind fun a55 =>
    some (wI (a55 - 1), M51)
  else
    some ((-1), M)
noncomputable def mX6_addKnown_16 (l0 l1 l2 l4 s0 : Int) (M : Mem) : Option (Int × Mem) :=
  (gF 6 18 M l0).bind fun a19 =>
  if 40 ≤ a19 then
    some (0, M)
  else
    (gF 6 0 M l0).bind fun a28 =>
    (gK 3 M a28).bind fun _ =>
    (mX3_hasRelation a28 l1 M).bind fun q32 =>
    if q32.1 = 0 then
      some (0, q32.2)
    else
      if l2 < 0 then
        some (0, q32.2)
      else
        if 3 ≤ l2 then
          some (0, q32.2)
        else
          if s0 < 0 then
            some (0, q32.2)
          else
            if s0 < 3 then
              (gF 6 15 q32.2 l0).bind fun a61 =>
              (gF 6 18 q32.2 l0).bind fun a65 =>
              (aS 10 q32.2 a61 a65 (wI ((wI ((wI ((wI (l1 * 3)) + l2)) * 3)) + s0))).bind fun M78 =>
              (gF 6 16 M78 l0).bind fun a80 =>
              (gF 6 18 M78 l0).bind fun a84 =>
              (aSZ 11 M78 a80 a84 l4).bind fun M89 =>
              (gF 6 17 M89 l0).bind fun a91 =>
              (gF 6 18 M89 l0).bind fun a95 =>
              (gF 6 13 M89 l0).bind fun a99 =>
              (aS 10 M89 a91 a95 a99).bind fun M102 =>
              (gF 6 18 M102 l0).bind fun a105 =>
              (pF 6 18 M102 l0 (wI (a105 + 1))).bind fun M110 =>
              some (1, M110)
            else
              some (0, q32.2)
noncomputable def mX6_addKnown (l0 l1 l2 l3 l4 : Int) (M : Mem) : Option (Int × Mem) :=
  (gF 6 0 M l0).bind fun a1 =>
  (gK 3 M a1).bind fun _ =>
  (mX3_isOfTwo a1 l1 M).bind fun q5 =>
  if q5.1 = 0 then
    mX6_addKnown_16 l0 l1 l2 l4 0 q5.2
  else
    mX6_addKnown_16 l0 l1 l2 l4 l3 q5.2
noncomputable def mX8_init (l0 : Int) (M : Mem) : Option (Int × Mem) :=
  (gK 8 M l0).bind fun _ =>
  (some (nO 4 M)).bind fun q5 =>
  (gK 4 q5.2 q5.1).bind fun _ =>
  (mX4_init q5.1 q5.2).bind fun q9 =>
  (pF 8 0 q9.2 l0 q5.1).bind fun M12 =>
  (gF 8 0 M12 l0).bind fun a17 =>
  (gF 4 0 M12 a17).bind fun a20 =>
  (pF 8 1 M12 l0 a20).bind fun M23 =>
  (some (nO 2 M23)).bind fun q27 =>
  (gK 2 q27.2 q27.1).bind fun _ =>
  (mX2_init q27.1 q27.2).bind fun q31 =>
  (pF 8 2 q31.2 l0 q27.1).bind fun M34 =>
  (nA 15 3 M34 3).bind fun q39 =>
  (pF 8 3 q39.2 l0 q39.1).bind fun M42 =>
  (nA 11 3 M42 3).bind fun q47 =>
  (pF 8 4 q47.2 l0 q47.1).bind fun M49 =>
  (gF 8 3 M49 l0).bind fun a60 =>
  (some (nO 6 M49)).bind fun q64 =>
  (gK 6 q64.2 q64.1).bind fun _ =>
  (mX6_init q64.1 q64.2).bind fun q68 =>
  (aSR 15 q68.2 a60 0 q64.1).bind fun M71 =>
  (gF 8 3 M71 l0).bind fun a60 =>
  (some (nO 6 M71)).bind fun q64 =>
  (gK 6 q64.2 q64.1).bind fun _ =>
  (mX6_init q64.1 q64.2).bind fun q68 =>
  (aSR 15 q68.2 a60 1 q64.1).bind fun M71 =>
  (gF 8 3 M71 l0).bind fun a60 =>
  (some (nO 6 M71)).bind fun q64 =>
  (gK 6 q64.2 q64.1).bind fun _ =>
  (mX6_init q64.1 q64.2).bind fun q68 =>
  (aSR 15 q68.2 a60 2 q64.1).bind fun M71 =>
  some (0, M71)
noncomputable def mX8_size (l0 l1 l2 : Int) (M : Mem) : Option (Int × Mem) :=
  (gF 8 1 M l0).bind fun a1 =>
  (gF 6 0 M a1).bind fun a4 =>
  (gK 3 M a4).bind fun _ =>
  (mX3_resize a4 l1 l2 M).bind fun q9 =>
  if q9.1 = 0 then
    some (0, q9.2)
  else
    (gF 8 1 q9.2 l0).bind fun a18 =>
    (gK 6 q9.2 a18).bind fun _ =>
    (mX6_clearWorlds a18 q9.2).bind fun q21 =>
    (gF 8 0 q21.2 l0).bind fun a25 =>
    (gK 4 q21.2 a25).bind fun _ =>
    (mX4_forget a25 q21.2).bind fun q28 =>
    some (1, q28.2)
noncomputable def mX8_relation_32 (l3 : Int) (M : Mem) : Option (Int × Mem) :=
  some (l3, M)
noncomputable def mX8_relation (l0 l1 l2 : Int) (M : Mem) : Option (Int × Mem) :=
  (gF 8 1 M l0).bind fun a1 =>
  (gF 6 0 M a1).bind fun a4 =>
  (gK 3 M a4).bind fun _ =>
  (mX3_addRelation a4 l1 l2 M).bind fun q9 =>
  if q9.1 = (-1) then
    mX8_relation_32 q9.1 q9.2
  else
    (gF 8 1 q9.2 l0).bind fun a19 =>
    (gK 6 q9.2 a19).bind fun _ =>
    (mX6_clearWorlds a19 q9.2).bind fun q22 =>
    (gF 8 0 q22.2 l0).bind fun a26 =>
    (gK 4 q22.2 a26).bind fun _ =>
    (mX4_forget a26 q22.2).bind fun q29 =>
    mX8_relation_32 q9.1 q29.2
noncomputable def mX8_facts (l0 : Int) (M : Mem) : Option (Int × Mem) :=
  (gF 8 1 M l0).bind fun a1 =>
  (gF 6 0 M a1).bind fun a4 =>
  (gF 3 7 M a4).bind fun a7 =>
  some (a7, M)
noncomputable def mX8_tell (l0 l1 l2 l3 l4 : Int) (M : Mem) : Option (Int × Mem) :=
  (gF 8 1 M l0).bind fun a1 =>
  (gF 6 0 M a1).bind fun a4 =>
  (gK 3 M a4).bind fun _ =>
  (mX3_place a4 l1 l2 l3 M).bind fun q10 =>
  if q10.1 = (-1) then
    some (0, q10.2)
  else
    (gF 8 1 q10.2 l0).bind fun a22 =>
    (gK 6 q10.2 a22).bind fun _ =>
    (mX6_isSo a22 q10.1 q10.2).bind fun q27 =>
    if q27.1 = l4 then
      some (0, q27.2)
    else
      (gF 8 1 q27.2 l0).bind fun a38 =>
      (gF 6 1 q27.2 a38).bind fun a42 =>
      (gF 8 1 q27.2 l0).bind fun a47 =>
      (gF 6 0 q27.2 a47).bind fun a50 =>
      (gK 3 q27.2 a50).bind fun _ =>
      (mX3_bit a50 q10.1 q27.2).bind fun q55 =>
      (pF 6 1 q55.2 a38 (lxor a42 (lshl 1 q55.1))).bind fun M60 =>
      some (1, M60)
noncomputable def mX8_fact (l0 l1 l2 l3 : Int) (M : Mem) : Option (Int × Mem) :=
  (gF 8 1 M l0).bind fun a1 =>
  (gF 6 0 M a1).bind fun a4 =>
  (gK 3 M a4).bind fun _ =>
  (mX3_place a4 l1 l2 l3 M).bind fun q10 =>
  if q10.1 = (-1) then
    some ((-1), q10.2)
  else
    (gF 8 1 q10.2 l0).bind fun a24 =>
    (gK 6 q10.2 a24).bind fun _ =>
    (mX6_isSo a24 q10.1 q10.2).bind fun q29 =>
    if q29.1 = 0 then
      some (0, q29.2)
    else
      some (1, q29.2)
noncomputable def mX8_known (l0 l1 l2 l3 l4 : Int) (M : Mem) : Option (Int × Mem) :=
  (gF 8 1 M l0).bind fun a1 =>
  (gK 6 M a1).bind fun _ =>
  (mX6_addKnown a1 l1 l2 l3 l4 M).bind fun q9 =>
  (zR q9.1).bind fun z =>
  some (z, q9.2)
noncomputable def mX8_keep (l0 l1 : Int) (M : Mem) : Option (Int × Mem) :=
  if l1 < 0 then
    some (0, M)
  else
    if l1 < 4 then
      (gF 8 1 M l0).bind fun a12 =>
      (gF 6 2 M a12).bind fun a15 =>
      (gF 8 1 M l0).bind fun a20 =>
      (gF 6 1 M a20).bind fun a23 =>
      (aS 13 M a15 l1 a23).bind fun M26 =>
      (gF 8 1 M26 l0).bind fun a28 =>
      (gF 6 3 M26 a28).bind fun a31 =>
      (aSZ 11 M26 a31 l1 1).bind fun M36 =>
      some (1, M36)
    else
      some (0, M)
noncomputable def mX8_apart (l0 l1 : Int) (M : Mem) : Option (Int × Mem) :=
  if l1 < 0 then
    some ((-1), M)
  else
    if 4 ≤ l1 then
      some ((-1), M)
    else
      (gF 8 1 M l0).bind fun a10 =>
      (gF 6 3 M a10).bind fun a13 =>
      (aG 11 M a13 l1).bind fun a17 =>
      if a17 = 0 then
        some ((-1), M)
      else
        (gF 8 0 M l0).bind fun a24 =>
        (gF 8 1 M l0).bind fun a28 =>
        (gF 6 2 M a28).bind fun a31 =>
        (aG 13 M a31 l1).bind fun a35 =>
        (gK 4 M a24).bind fun _ =>
        (mX4_fewestApart a24 a35 M).bind fun q36 =>
        some (q36.1, q36.2)
noncomputable def mX8_feed (l0 l1 l2 l3 l4 l5 : Int) (M : Mem) : Option (Int × Mem) :=
  (gF 8 1 M l0).bind fun a1 =>
  (gF 6 5 M a1).bind fun a4 =>
  if wI (a4 + 20) ≤ 400 then
    (gF 8 1 M l0).bind fun a19 =>
    (gK 6 M a19).bind fun _ =>
    (mX6_addBytes a19 l1 M).bind fun q23 =>
    (gF 8 1 q23.2 l0).bind fun a27 =>
    (gK 6 q23.2 a27).bind fun _ =>
    (mX6_addBytes a27 l2 q23.2).bind fun q31 =>
    (gF 8 1 q31.2 l0).bind fun a35 =>
    (gK 6 q31.2 a35).bind fun _ =>
    (mX6_addBytes a35 l3 q31.2).bind fun q39 =>
    (gF 8 1 q39.2 l0).bind fun a43 =>
    (gK 6 q39.2 a43).bind fun _ =>
    (mX6_addBytes a43 l4 q39.2).bind fun q48 =>
    (gF 8 1 q48.2 l0).bind fun a52 =>
    (gK 6 q48.2 a52).bind fun _ =>
    (mX6_addBytes a52 l5 q48.2).bind fun q57 =>
    (gF 8 1 q57.2 l0).bind fun a61 =>
    (gF 6 5 q57.2 a61).bind fun a64 =>
    some (a64, q57.2)
  else
    some ((-1), M)
noncomputable def mX8_end (l0 l1 : Int) (M : Mem) : Option (Int × Mem) :=
  if l1 < 0 then
    some ((-1), M)
  else
    (gF 8 1 M l0).bind fun a6 =>
    (gF 6 5 M a6).bind fun a9 =>
    if l1 ≤ a9 then
      (gF 8 1 M l0).bind fun a18 =>
      (pF 6 5 M a18 l1).bind fun M22 =>
      some (l1, M22)
    else
      some ((-1), M)
noncomputable def mX8_story (l0 : Int) (M : Mem) : Option (Int × Mem) :=
  (gF 8 1 M l0).bind fun a1 =>
  (gF 6 11 M a1).bind fun a4 =>
  if a4 < 8 then
    (gF 8 2 M l0).bind fun a23 =>
    (gF 8 1 M l0).bind fun a27 =>
    (gK 2 M a23).bind fun _ =>
    (mX2_read a23 a27 M).bind fun q30 =>
    if q30.1 = 0 then
      some ((-1), q30.2)
    else
      (gF 8 1 q30.2 l0).bind fun a43 =>
      (gK 6 q30.2 a43).bind fun _ =>
      (mX6_addStory a43 q30.1 q30.2).bind fun q47 =>
      some (q47.1, q47.2)
  else
    (gF 8 1 M l0).bind fun a13 =>
    (gK 6 M a13).bind fun _ =>
    (mX6_clearTape a13 M).bind fun q16 =>
    some ((-2), q16.2)
noncomputable def mX8_guess (l0 : Int) (M : Mem) : Option (Int × Mem) :=
  (gF 8 2 M l0).bind fun a1 =>
  (gF 8 1 M l0).bind fun a5 =>
  (gK 2 M a1).bind fun _ =>
  (mX2_read a1 a5 M).bind fun q8 =>
  if q8.1 = 0 then
    some ((-1), q8.2)
  else
    (gF 8 1 q8.2 l0).bind fun a19 =>
    (pF 6 12 q8.2 a19 q8.1).bind fun M23 =>
    (gF 8 0 M23 l0).bind fun a27 =>
    (gK 4 M23 a27).bind fun _ =>
    (mX4_forgetGuess a27 M23).bind fun q30 =>
    (gF 5 5 q30.2 q8.1).bind fun a34 =>
    some (a34, q30.2)
noncomputable def mX8_fault (l0 l1 : Int) (M : Mem) : Option (Int × Mem) :=
  if l1 = 0 then
    (gF 8 1 M l0).bind fun a29 =>
    (gF 6 6 M a29).bind fun a32 =>
    some (a32, M)
  else
  if l1 = 1 then
    (gF 8 1 M l0).bind fun a37 =>
    (gF 6 7 M a37).bind fun a40 =>
    some (a40, M)
  else
  some ((-1), M)
noncomputable def mX8_strike (l0 l1 : Int) (M : Mem) : Option (Int × Mem) :=
  (gF 8 1 M l0).bind fun a1 =>
  (gK 6 M a1).bind fun _ =>
  (mX6_hasStory a1 l1 M).bind fun q5 =>
  if q5.1 = 0 then
    some (0, q5.2)
  else
    (gF 8 1 q5.2 l0).bind fun a12 =>
    (gF 6 10 q5.2 a12).bind fun a15 =>
    (aG 10 q5.2 a15 l1).bind fun a19 =>
    if a19 = (-1) then
      (gF 8 1 q5.2 l0).bind fun a27 =>
      (gF 6 10 q5.2 a27).bind fun a30 =>
      (gF 8 1 q5.2 l0).bind fun a35 =>
      (gF 6 13 q5.2 a35).bind fun a38 =>
      (aS 10 q5.2 a30 l1 a38).bind fun M41 =>
      some (1, M41)
    else
      some (0, q5.2)
noncomputable def mX8_day (l0 l1 : Int) (M : Mem) : Option (Int × Mem) :=
  (gF 8 1 M l0).bind fun a2 =>
  (gF 6 13 M a2).bind fun a5 =>
  if l1 < a5 then
    some (0, M)
  else
    if l1 ≤ 999 then
      (gF 8 1 M l0).bind fun a21 =>
      (pF 6 13 M a21 l1).bind fun M25 =>
      some (1, M25)
    else
      some (0, M)
noncomputable def mX8_view (l0 l1 : Int) (M : Mem) : Option (Int × Mem) :=
  if l1 < (-1) then
    some (0, M)
  else
    (gF 8 1 M l0).bind fun a7 =>
    (gF 6 13 M a7).bind fun a10 =>
    if l1 ≤ a10 then
      (gF 8 1 M l0).bind fun a19 =>
      (pF 6 14 M a19 l1).bind fun M23 =>
      some (1, M23)
    else
      some (0, M)
noncomputable def mX8_so_23 (l0 s0 : Int) (M : Mem) : Option (Int × Mem) :=
  if s0 = 0 then
    some ((-1), M)
  else
    (gF 8 0 M l0).bind fun a31 =>
    (gF 4 1 M a31).bind fun a34 =>
    (gF 8 1 M l0).bind fun a38 =>
    (gF 6 0 M a38).bind fun a41 =>
    (gF 8 1 M l0).bind fun a46 =>
    (gF 6 1 M a46).bind fun a49 =>
    (gK 0 M a34).bind fun _ =>
    (mX0_isSoIn a34 a41 s0 a49 M).bind fun q52 =>
    if q52.1 = 0 then
      some (0, q52.2)
    else
      some (1, q52.2)
noncomputable def mX8_so (l0 l1 : Int) (M : Mem) : Option (Int × Mem) :=
  if l1 = (-1) then
    (gF 8 1 M l0).bind fun a6 =>
    (gF 6 12 M a6).bind fun a9 =>
    mX8_so_23 l0 a9 M
  else
    (gF 8 1 M l0).bind fun a16 =>
    (gK 6 M a16).bind fun _ =>
    (mX6_storyText a16 l1 M).bind fun q20 =>
    mX8_so_23 l0 q20.1 q20.2
noncomputable def mX8_breaks (l0 l1 l2 : Int) (M : Mem) : Option (Int × Mem) :=
  (gF 8 1 M l0).bind fun a1 =>
  (gK 6 M a1).bind fun _ =>
  (mX6_storyText a1 l1 M).bind fun q5 =>
  if q5.1 = 0 then
    some ((-1), q5.2)
  else
    (gF 8 0 q5.2 l0).bind fun a16 =>
    (gF 4 1 q5.2 a16).bind fun a19 =>
    (gF 8 1 q5.2 l0).bind fun a23 =>
    (gF 6 0 q5.2 a23).bind fun a26 =>
    (gF 8 1 q5.2 l0).bind fun a31 =>
    (gF 6 1 q5.2 a31).bind fun a34 =>
    (gK 0 q5.2 a19).bind fun _ =>
    (mX0_breakNumber a19 a26 q5.1 a34 l2 q5.2).bind fun q38 =>
    some (q38.1, q38.2)
noncomputable def mX8_worlds (l0 : Int) (M : Mem) : Option (Int × Mem) :=
  (gF 8 0 M l0).bind fun a1 =>
  (gK 4 M a1).bind fun _ =>
  (mX4_countWorlds a1 M).bind fun q4 =>
  some (q4.1, q4.2)
noncomputable def mX8_forms (l0 : Int) (M : Mem) : Option (Int × Mem) :=
  (gF 8 0 M l0).bind fun a1 =>
  (gK 4 M a1).bind fun _ =>
  (mX4_countForms a1 M).bind fun q4 =>
  some (q4.1, q4.2)
noncomputable def mX8_becomes (l0 l1 : Int) (M : Mem) : Option (Int × Mem) :=
  if l1 = (-1) then
    some (0, M)
  else
    (gF 8 1 M l0).bind fun a8 =>
    (pF 6 1 M a8 (i2l l1)).bind fun M13 =>
    some (1, M13)
noncomputable def mX8_form (l0 l1 : Int) (M : Mem) : Option (Int × Mem) :=
  (gF 8 0 M l0).bind fun a2 =>
  (gK 4 M a2).bind fun _ =>
  (mX4_nthForm a2 l1 M).bind fun q6 =>
  (gK 8 q6.2 l0).bind fun _ =>
  (mX8_becomes l0 q6.1 q6.2).bind fun q9 =>
  (zR q9.1).bind fun z =>
  some (z, q9.2)
noncomputable def mX8_name (l0 : Int) (M : Mem) : Option (Int × Mem) :=
  (gF 8 0 M l0).bind fun a1 =>
  (gK 4 M a1).bind fun _ =>
  (mX4_leastRow a1 M).bind fun q4 =>
  (gF 8 1 q4.2 l0).bind fun a11 =>
  (gF 6 1 q4.2 a11).bind fun a14 =>
  if lcmp (i2l q4.1) a14 = 0 then
    some (0, q4.2)
  else
    (gK 8 q4.2 l0).bind fun _ =>
    (mX8_becomes l0 q4.1 q4.2).bind fun q23 =>
    if q23.1 = 0 then
      some (0, q23.2)
    else
      some (1, q23.2)
noncomputable def mX8_least (l0 l1 : Int) (M : Mem) : Option (Int × Mem) :=
  (mX3_isKind l1 M).bind fun q1 =>
  if q1.1 = 0 then
    some ((-1), q1.2)
  else
    (gF 8 0 q1.2 l0).bind fun a8 =>
    (gK 4 q1.2 a8).bind fun _ =>
    (mX4_leastSize a8 l1 q1.2).bind fun q12 =>
    some (q12.1, q12.2)
noncomputable def mX8_nthBit_27 (k4 : Int → Int → Int → Mem → Option (Int × Mem)) (l0 l2 l3 : Int) (M : Mem) : Option (Int × Mem) :=
  k4 l0 l2 (wI (l3 + 1)) M
noncomputable def bX8_nthBit_4 (k4 : Int → Int → Int → Mem → Option (Int × Mem)) (l0 l2 l3 : Int) (M : Mem) : Option (Int × Mem) :=
  if 8 ≤ l3 then
    some ((-1), M)
  else
    if iand (ishr l0 l3) 1 = 0 then
      mX8_nthBit_27 k4 l0 l2 l3 M
    else
      if l2 = 0 then
        some (l3, M)
      else
        mX8_nthBit_27 k4 l0 (wI (l2 + (-1))) l3 M
noncomputable def mX8_nthBit_4 : Nat → Int → Int → Int → Mem → Option (Int × Mem)
  | 0 => fun _ _ _ _ => none
  | fu + 1 => bX8_nthBit_4 (mX8_nthBit_4 fu)
noncomputable def mX8_nthBit (l0 l1 : Int) (M : Mem) : Option (Int × Mem) :=
  mX8_nthBit_4 FU l0 l1 0 M
noncomputable def mX8_core (l0 l1 : Int) (M : Mem) : Option (Int × Mem) :=
  (gF 8 0 M l0).bind fun a1 =>
  (gK 4 M a1).bind fun _ =>
  (mX4_coreStories a1 M).bind fun q4 =>
  (mX8_nthBit q4.1 l1 q4.2).bind fun q8 =>
  some (q8.1, q8.2)
noncomputable def mX8_sure (l0 l1 l2 l3 : Int) (M : Mem) : Option (Int × Mem) :=
  (gF 8 0 M l0).bind fun a1 =>
  (gF 8 1 M l0).bind fun a5 =>
  (gF 6 0 M a5).bind fun a8 =>
  (gK 3 M a8).bind fun _ =>
  (mX3_place a8 l1 l2 l3 M).bind fun q14 =>
  (gK 4 q14.2 a1).bind fun _ =>
  (mX4_sureness a1 q14.1 q14.2).bind fun q17 =>
  some (q17.1, q17.2)
noncomputable def mX8_cause (l0 l1 l2 l3 l4 : Int) (M : Mem) : Option (Int × Mem) :=
  (gF 8 1 M l0).bind fun a1 =>
  (gF 6 0 M a1).bind fun a4 =>
  (gK 3 M a4).bind fun _ =>
  (mX3_place a4 l1 l2 l3 M).bind fun q10 =>
  (gF 8 0 q10.2 l0).bind fun a16 =>
  (gK 4 q10.2 a16).bind fun _ =>
  (mX4_sureness a16 q10.1 q10.2).bind fun q21 =>
  if q21.1 = (-1) then
    some ((-1), q21.2)
  else
    (gF 8 0 q21.2 l0).bind fun a37 =>
    (gK 4 q21.2 a37).bind fun _ =>
    (mX4_causeStories a37 q10.1 q21.1 q21.2).bind fun q44 =>
    (mX8_nthBit q44.1 l4 q44.2).bind fun q49 =>
    some (q49.1, q49.2)
noncomputable def mX8_without (l0 l1 : Int) (M : Mem) : Option (Int × Mem) :=
  (gF 8 0 M l0).bind fun a1 =>
  (gK 4 M a1).bind fun _ =>
  (mX4_countWithout a1 l1 M).bind fun q5 =>
  some (q5.1, q5.2)
noncomputable def mX8_questions (l0 : Int) (M : Mem) : Option (Int × Mem) :=
  (gF 8 0 M l0).bind fun a1 =>
  (gK 4 M a1).bind fun _ =>
  (mX4_fewestQuestions a1 M).bind fun q4 =>
  some (q4.1, q4.2)
noncomputable def mX8_settle (l0 l1 : Int) (M : Mem) : Option (Int × Mem) :=
  (gF 8 0 M l0).bind fun a1 =>
  (gK 4 M a1).bind fun _ =>
  (mX4_settlingPlace a1 M).bind fun q4 =>
  if q4.1 = (-1) then
    some ((-1), q4.2)
  else
    (gF 8 1 q4.2 l0).bind fun a16 =>
    (gF 6 0 q4.2 a16).bind fun a19 =>
    (gK 3 q4.2 a19).bind fun _ =>
    (mX3_relationAt a19 q4.1 q4.2).bind fun q23 =>
    if l1 = 0 then
      some (q23.1, q23.2)
    else
    if l1 = 1 then
      (gF 8 1 q23.2 l0).bind fun a63 =>
      (gF 6 0 q23.2 a63).bind fun a66 =>
      (gK 3 q23.2 a66).bind fun _ =>
      (mX3_firstAt a66 q23.1 q4.1 q23.2).bind fun q71 =>
      some (q71.1, q71.2)
    else
    if l1 = 2 then
      (gF 8 1 q23.2 l0).bind fun a76 =>
      (gF 6 0 q23.2 a76).bind fun a79 =>
      (gK 3 q23.2 a79).bind fun _ =>
      (mX3_secondAt a79 q23.1 q4.1 q23.2).bind fun q84 =>
      some (q84.1, q84.2)
    else
    if l1 = 3 then
      (gF 8 0 q23.2 l0).bind fun a89 =>
      (gK 4 q23.2 a89).bind fun _ =>
      (mX4_greaterAt a89 q4.1 q23.2).bind fun q93 =>
      some (q93.1, q93.2)
    else
    some ((-1), q23.2)
noncomputable def mX8_near (l0 : Int) (M : Mem) : Option (Int × Mem) :=
  (gF 8 0 M l0).bind fun a1 =>
  (gK 4 M a1).bind fun _ =>
  (mX4_nearestWorld a1 M).bind fun q4 =>
  if q4.1 = (-1) then
    some ((-1), q4.2)
  else
    (gF 8 1 q4.2 l0).bind fun a16 =>
    (gF 6 1 q4.2 a16).bind fun a19 =>
    (mJ13_bitCount_95d88 (lxor a19 (i2l q4.1)) q4.2).bind fun q25 =>
    (gF 8 1 q25.2 l0).bind fun a30 =>
    (pF 6 1 q25.2 a30 (i2l q4.1)).bind fun M35 =>
    some (q25.1, M35)
noncomputable def mX8_holds (l0 l1 : Int) (M : Mem) : Option (Int × Mem) :=
  if l1 = 0 then
    (gF 8 0 M l0).bind fun a29 =>
    (gK 4 M a29).bind fun _ =>
    (mX4_countGuessWorlds a29 M).bind fun q32 =>
    some (q32.1, q32.2)
  else
  if l1 = 1 then
    (gF 8 0 M l0).bind fun a37 =>
    (gK 4 M a37).bind fun _ =>
    (mX4_countGuessForms a37 M).bind fun q40 =>
    some (q40.1, q40.2)
  else
  some ((-1), M)
noncomputable def mX8_against (l0 : Int) (M : Mem) : Option (Int × Mem) :=
  (gF 8 0 M l0).bind fun a2 =>
  (gK 4 M a2).bind fun _ =>
  (mX4_formAgainst a2 M).bind fun q5 =>
  (gK 8 q5.2 l0).bind fun _ =>
  (mX8_becomes l0 q5.1 q5.2).bind fun q8 =>
  (zR q8.1).bind fun z =>
  some (z, q8.2)
noncomputable def mX8_many (l0 l1 : Int) (M : Mem) : Option (Int × Mem) :=
  if l1 = 0 then
    (gF 8 1 M l0).bind fun a61 =>
    (gF 6 0 M a61).bind fun a64 =>
    (gF 3 0 M a64).bind fun a67 =>
    (aG 10 M a67 l1).bind fun a71 =>
    some (a71, M)
  else
  if l1 = 1 then
    (gF 8 1 M l0).bind fun a61 =>
    (gF 6 0 M a61).bind fun a64 =>
    (gF 3 0 M a64).bind fun a67 =>
    (aG 10 M a67 l1).bind fun a71 =>
    some (a71, M)
  else
  if l1 = 2 then
    (gF 8 1 M l0).bind fun a61 =>
    (gF 6 0 M a61).bind fun a64 =>
    (gF 3 0 M a64).bind fun a67 =>
    (aG 10 M a67 l1).bind fun a71 =>
    some (a71, M)
  else
  if l1 = 3 then
    (gF 8 1 M l0).bind fun a74 =>
    (gF 6 0 M a74).bind fun a77 =>
    (gF 3 6 M a77).bind fun a80 =>
    some (a80, M)
  else
  if l1 = 4 then
    (gF 8 1 M l0).bind fun a85 =>
    (gF 6 11 M a85).bind fun a88 =>
    some (a88, M)
  else
  if l1 = 5 then
    (gF 8 1 M l0).bind fun a93 =>
    (gF 6 13 M a93).bind fun a96 =>
    some (a96, M)
  else
  if l1 = 6 then
    (gF 8 1 M l0).bind fun a101 =>
    (gF 6 14 M a101).bind fun a104 =>
    some (a104, M)
  else
  if l1 = 7 then
    (gF 8 1 M l0).bind fun a109 =>
    (gK 6 M a109).bind fun _ =>
    (mX6_viewedStories a109 M).bind fun q112 =>
    some (q112.1, q112.2)
  else
  if l1 = 8 then
    (gF 8 1 M l0).bind fun a117 =>
    (gF 6 1 M a117).bind fun a120 =>
    (mJ13_bitCount_95d88 a120 M).bind fun q123 =>
    some (q123.1, q123.2)
  else
  if l1 = 9 then
    (gF 8 1 M l0).bind fun a128 =>
    (gF 6 12 M a128).bind fun a131 =>
    if a131 = 0 then
      some (0, M)
    else
      (gF 8 1 M l0).bind fun a142 =>
      (gF 6 12 M a142).bind fun a145 =>
      (gF 5 5 M a145).bind fun a148 =>
      some (a148, M)
  else
  if l1 = 10 then
    (gF 8 1 M l0).bind fun a153 =>
    (gF 6 18 M a153).bind fun a156 =>
    some (a156, M)
  else
  some ((-2), M)
noncomputable def mX8_image (l0 l1 : Int) (M : Mem) : Option (Int × Mem) :=
  if l1 < 0 then
    some (0, M)
  else
    if l1 < 3 then
      (gF 8 3 M l0).bind fun a12 =>
      (aG 15 M a12 l1).bind fun a16 =>
      (gF 8 1 M l0).bind fun a18 =>
      (gK 6 M a16).bind fun _ =>
      (mX6_copy a16 a18 M).bind fun q21 =>
      (gF 8 4 q21.2 l0).bind fun a25 =>
      (aSZ 11 q21.2 a25 l1 1).bind fun M30 =>
      some (1, M30)
    else
      some (0, M)
noncomputable def mX8_again (l0 l1 : Int) (M : Mem) : Option (Int × Mem) :=
  if l1 < 0 then
    some (0, M)
  else
    if 3 ≤ l1 then
      some (0, M)
    else
      (gF 8 4 M l0).bind fun a10 =>
      (aG 11 M a10 l1).bind fun a14 =>
      if a14 = 0 then
        some (0, M)
      else
        (gF 8 1 M l0).bind fun a21 =>
        (gF 8 3 M l0).bind fun a25 =>
        (aG 15 M a25 l1).bind fun a29 =>
        (gK 6 M a21).bind fun _ =>
        (mX6_copy a21 a29 M).bind fun q30 =>
        (gF 8 0 q30.2 l0).bind fun a34 =>
        (gK 4 q30.2 a34).bind fun _ =>
        (mX4_forget a34 q30.2).bind fun q37 =>
        some (1, q37.2)
noncomputable def bX9_init_365 (k365 : Int → Int → Mem → Option (Int × Mem)) (l0 l1 : Int) (M : Mem) : Option (Int × Mem) :=
  if 3 ≤ l1 then
    some (0, M)
  else
    (gF 9 7 M l0).bind fun a371 =>
    (aS 10 M a371 l1 2).bind fun M376 =>
    k365 l0 (wI (l1 + 1)) M376
noncomputable def mX9_init_365 : Nat → Int → Int → Mem → Option (Int × Mem)
  | 0 => fun _ _ _ => none
  | fu + 1 => bX9_init_365 (mX9_init_365 fu)
noncomputable def mX9_init (l0 : Int) (M : Mem) : Option (Int × Mem) :=
  (gK 9 M l0).bind fun _ =>
  (nA 12 1600 M 1600).bind fun q8 =>
  (pF 9 1 q8.2 l0 q8.1).bind fun M10 =>
  (nA 10 4 M10 4).bind fun q15 =>
  (pF 9 2 q15.2 l0 q15.1).bind fun M17 =>
  (nA 10 4 M17 4).bind fun q22 =>
  (pF 9 3 q22.2 l0 q22.1).bind fun M24 =>
  (nA 10 4 M24 4).bind fun q29 =>
  (pF 9 4 q29.2 l0 q29.1).bind fun M31 =>
  (nA 10 4 M31 4).bind fun q36 =>
  (pF 9 5 q36.2 l0 q36.1).bind fun M38 =>
  (nA 10 4 M38 4).bind fun q43 =>
  (pF 9 6 q43.2 l0 q43.1).bind fun M45 =>
  (nA 10 12 M45 12).bind fun q51 =>
  (pF 9 7 q51.2 l0 q51.1).bind fun M53 =>
  (nA 10 4 M53 4).bind fun q58 =>
  (pF 9 8 q58.2 l0 q58.1).bind fun M60 =>
  (nA 10 16 M60 16).bind fun q66 =>
  (pF 9 9 q66.2 l0 q66.1).bind fun M68 =>
  (nA 10 16 M68 16).bind fun q74 =>
  (pF 9 10 q74.2 l0 q74.1).bind fun M76 =>
  (nA 11 144 M76 144).bind fun q83 =>
  (pF 9 11 q83.2 l0 q83.1).bind fun M85 =>
  (nA 10 4 M85 4).bind fun q90 =>
  (pF 9 12 q90.2 l0 q90.1).bind fun M92 =>
  (nA 10 32 M92 32).bind fun q98 =>
  (pF 9 13 q98.2 l0 q98.1).bind fun M100 =>
  (nA 10 32 M100 32).bind fun q106 =>
  (pF 9 14 q106.2 l0 q106.1).bind fun M108 =>
  (nA 10 36 M108 36).bind fun q114 =>
  (pF 9 15 q114.2 l0 q114.1).bind fun M116 =>
  (nA 10 1440 M116 1440).bind fun q123 =>
  (pF 9 16 q123.2 l0 q123.1).bind fun M125 =>
  (nA 10 1440 M125 1440).bind fun q132 =>
  (pF 9 17 q132.2 l0 q132.1).bind fun M134 =>
  (nA 10 1440 M134 1440).bind fun q141 =>
  (pF 9 18 q141.2 l0 q141.1).bind fun M143 =>
  (nA 10 1440 M143 1440).bind fun q150 =>
  (pF 9 19 q150.2 l0 q150.1).bind fun M152 =>
  (nA 10 4 M152 4).bind fun q157 =>
  (pF 9 20 q157.2 l0 q157.1).bind fun M159 =>
  (nA 10 160 M159 160).bind fun q166 =>
  (pF 9 21 q166.2 l0 q166.1).bind fun M168 =>
  (nA 10 160 M168 160).bind fun q175 =>
  (pF 9 22 q175.2 l0 q175.1).bind fun M177 =>
  (nA 10 160 M177 160).bind fun q184 =>
  (pF 9 23 q184.2 l0 q184.1).bind fun M186 =>
  (nA 11 576 M186 576).bind fun q193 =>
  (pF 9 24 q193.2 l0 q193.1).bind fun M195 =>
  (nA 11 16 M195 16).bind fun q201 =>
  (pF 9 25 q201.2 l0 q201.1).bind fun M203 =>
  (nA 10 3 M203 3).bind fun q208 =>
  (pF 9 26 q208.2 l0 q208.1).bind fun M210 =>
  (nA 10 5 M210 5).bind fun q215 =>
  (pF 9 27 q215.2 l0 q215.1).bind fun M217 =>
  (nA 11 36 M217 36).bind fun q223 =>
  (pF 9 28 q223.2 l0 q223.1).bind fun M225 =>
  (nA 10 420 M225 420).bind fun q232 =>
  (pF 9 39 q232.2 l0 q232.1).bind fun M234 =>
  (nA 10 41 M234 41).bind fun q240 =>
  (pF 9 41 q240.2 l0 q240.1).bind fun M242 =>
  (nA 10 41 M242 41).bind fun q248 =>
  (pF 9 42 q248.2 l0 q248.1).bind fun M250 =>
  (nA 10 41 M250 41).bind fun q256 =>
  (pF 9 43 q256.2 l0 q256.1).bind fun M258 =>
  (nA 10 41 M258 41).bind fun q264 =>
  (pF 9 44 q264.2 l0 q264.1).bind fun M266 =>
  (nA 11 3321 M266 3321).bind fun q273 =>
  (pF 9 45 q273.2 l0 q273.1).bind fun M275 =>
  (nA 11 9 M275 9).bind fun q281 =>
  (pF 9 47 q281.2 l0 q281.1).bind fun M283 =>
  (nA 10 3 M283 3).bind fun q288 =>
  (pF 9 51 q288.2 l0 q288.1).bind fun M290 =>
  (nA 11 256 M290 256).bind fun q297 =>
  (pF 9 55 q297.2 l0 q297.1).bind fun M299 =>
  (nA 10 12 M299 12).bind fun q305 =>
  (pF 9 56 q305.2 l0 q305.1).bind fun M307 =>
  (nA 10 16 M307 16).bind fun q313 =>
  (pF 9 58 q313.2 l0 q313.1).bind fun M315 =>
  (nA 11 65536 M315 65536).bind fun q321 =>
  (pF 9 59 q321.2 l0 q321.1).bind fun M323 =>
  (nA 11 65536 M323 65536).bind fun q329 =>
  (pF 9 60 q329.2 l0 q329.1).bind fun M331 =>
  (nA 10 12 M331 12).bind fun q337 =>
  (pF 9 61 q337.2 l0 q337.1).bind fun M339 =>
  (nA 11 3 M339 3).bind fun q344 =>
  (pF 9 62 q344.2 l0 q344.1).bind fun M346 =>
  (gF 9 4 M346 l0).bind fun a350 =>
  (aS 10 M346 a350 0 (-1)).bind fun M355 =>
  (gF 9 6 M355 l0).bind fun a357 =>
  (aS 10 M355 a357 0 (-1)).bind fun M362 =>
  mX9_init_365 FU l0 0 M362
noncomputable def mX9_in (l0 l1 l2 : Int) (M : Mem) : Option (Int × Mem) :=
  if l0 < l1 then
    some (0, M)
  else
    if l2 < l0 then
      some (0, M)
    else
      some (1, M)
noncomputable def bX9_move_3 (k3 : Int → Int → Int → Int → Int → Mem → Option (Int × Mem)) (l0 l1 l2 l3 l4 : Int) (M : Mem) : Option (Int × Mem) :=
  if l1 ≤ l4 then
    some (0, M)
  else
    (aG 10 M l0 (wI ((wI (l1 * l2)) + l4))).bind fun a23 =>
    (aS 10 M l0 (wI ((wI (l1 * l3)) + l4)) a23).bind fun M24 =>
    k3 l0 l1 l2 l3 (wI (l4 + 1)) M24
noncomputable def mX9_move_3 : Nat → Int → Int → Int → Int → Int → Mem → Option (Int × Mem)
  | 0 => fun _ _ _ _ _ _ => none
  | fu + 1 => bX9_move_3 (mX9_move_3 fu)
noncomputable def mX9_move (l0 l1 l2 l3 : Int) (M : Mem) : Option (Int × Mem) :=
  mX9_move_3 FU l0 l1 l2 l3 0 M
noncomputable def bX9_copy_116 (k116 : Int → Int → Int → Int → Mem → Option (Int × Mem)) (l0 l1 l2 l3 : Int) (M : Mem) : Option (Int × Mem) :=
  if 4 ≤ l3 then
    (gF 9 20 M l0).bind fun a148 =>
    (mX9_move a148 1 l1 l2 M).bind fun q154 =>
    (gF 9 21 q154.2 l0).bind fun a158 =>
    (mX9_move a158 40 l1 l2 q154.2).bind fun q165 =>
    (gF 9 22 q165.2 l0).bind fun a169 =>
    (mX9_move a169 40 l1 l2 q165.2).bind fun q176 =>
    (gF 9 23 q176.2 l0).bind fun a180 =>
    (mX9_move a180 40 l1 l2 q176.2).bind fun q187 =>
    (gF 9 2 q187.2 l0).bind fun a191 =>
    (mX9_move a191 1 l1 l2 q187.2).bind fun q197 =>
    (gF 9 3 q197.2 l0).bind fun a201 =>
    (mX9_move a201 1 l1 l2 q197.2).bind fun q207 =>
    (gF 9 4 q207.2 l0).bind fun a211 =>
    (mX9_move a211 1 l1 l2 q207.2).bind fun q217 =>
    (gF 9 5 q217.2 l0).bind fun a221 =>
    (mX9_move a221 1 l1 l2 q217.2).bind fun q227 =>
    (gF 9 6 q227.2 l0).bind fun a231 =>
    (mX9_move a231 1 l1 l2 q227.2).bind fun q237 =>
    (gF 9 7 q237.2 l0).bind fun a241 =>
    (mX9_move a241 3 l1 l2 q237.2).bind fun q247 =>
    (gF 9 8 q247.2 l0).bind fun a251 =>
    (mX9_move a251 1 l1 l2 q247.2).bind fun q257 =>
    (gF 9 9 q257.2 l0).bind fun a261 =>
    (mX9_move a261 4 l1 l2 q257.2).bind fun q267 =>
    (gF 9 10 q267.2 l0).bind fun a271 =>
    (mX9_move a271 4 l1 l2 q267.2).bind fun q277 =>
    (gF 9 12 q277.2 l0).bind fun a281 =>
    (mX9_move a281 1 l1 l2 q277.2).bind fun q287 =>
    (gF 9 13 q287.2 l0).bind fun a291 =>
    (mX9_move a291 8 l1 l2 q287.2).bind fun q298 =>
    (gF 9 14 q298.2 l0).bind fun a302 =>
    (mX9_move a302 8 l1 l2 q298.2).bind fun q309 =>
    (gF 9 15 q309.2 l0).bind fun a313 =>
    (mX9_move a313 9 l1 l2 q309.2).bind fun q320 =>
    (gF 9 16 q320.2 l0).bind fun a324 =>
    (mX9_move a324 360 l1 l2 q320.2).bind fun q332 =>
    (gF 9 17 q332.2 l0).bind fun a336 =>
    (mX9_move a336 360 l1 l2 q332.2).bind fun q344 =>
    (gF 9 18 q344.2 l0).bind fun a348 =>
    (mX9_move a348 360 l1 l2 q344.2).bind fun q356 =>
    (gF 9 19 q356.2 l0).bind fun a360 =>
    (mX9_move a360 360 l1 l2 q356.2).bind fun q368 =>
    some (0, q368.2)
  else
    (gF 9 25 M l0).bind fun a122 =>
    (gF 9 25 M l0).bind fun a131 =>
    (aG 11 M a131 (wI ((wI (4 * l1)) + l3))).bind fun a139 =>
    (aSZ 11 M a122 (wI ((wI (4 * l2)) + l3)) a139).bind fun M140 =>
    k116 l0 l1 l2 (wI (l3 + 1)) M140
noncomputable def mX9_copy_116 : Nat → Int → Int → Int → Int → Mem → Option (Int × Mem)
  | 0 => fun _ _ _ _ _ => none
  | fu + 1 => bX9_copy_116 (mX9_copy_116 fu)
noncomputable def bX9_copy_77 (k77 : Int → Int → Int → Int → Mem → Option (Int × Mem)) (l0 l1 l2 l3 : Int) (M : Mem) : Option (Int × Mem) :=
  if 144 ≤ l3 then
    mX9_copy_116 FU l0 l1 l2 0 M
  else
    (gF 9 24 M l0).bind fun a85 =>
    (gF 9 24 M l0).bind fun a96 =>
    (aG 11 M a96 (wI ((wI (144 * l1)) + l3))).bind fun a106 =>
    (aSZ 11 M a85 (wI ((wI (144 * l2)) + l3)) a106).bind fun M107 =>
    k77 l0 l1 l2 (wI (l3 + 1)) M107
noncomputable def mX9_copy_77 : Nat → Int → Int → Int → Int → Mem → Option (Int × Mem)
  | 0 => fun _ _ _ _ _ => none
  | fu + 1 => bX9_copy_77 (mX9_copy_77 fu)
noncomputable def bX9_copy_41 (k41 : Int → Int → Int → Int → Mem → Option (Int × Mem)) (l0 l1 l2 l3 : Int) (M : Mem) : Option (Int × Mem) :=
  if 36 ≤ l3 then
    mX9_copy_77 FU l0 l1 l2 0 M
  else
    (gF 9 11 M l0).bind fun a48 =>
    (gF 9 11 M l0).bind fun a58 =>
    (aG 11 M a58 (wI ((wI (36 * l1)) + l3))).bind fun a67 =>
    (aSZ 11 M a48 (wI ((wI (36 * l2)) + l3)) a67).bind fun M68 =>
    k41 l0 l1 l2 (wI (l3 + 1)) M68
noncomputable def mX9_copy_41 : Nat → Int → Int → Int → Int → Mem → Option (Int × Mem)
  | 0 => fun _ _ _ _ _ => none
  | fu + 1 => bX9_copy_41 (mX9_copy_41 fu)
noncomputable def bX9_copy_2 (k2 : Int → Int → Int → Int → Mem → Option (Int × Mem)) (l0 l1 l2 l3 : Int) (M : Mem) : Option (Int × Mem) :=
  if 400 ≤ l3 then
    mX9_copy_41 FU l0 l1 l2 0 M
  else
    (gF 9 1 M l0).bind fun a10 =>
    (gF 9 1 M l0).bind fun a21 =>
    (aG 12 M a21 (wI ((wI (400 * l1)) + l3))).bind fun a31 =>
    (aSB 12 M a10 (wI ((wI (400 * l2)) + l3)) a31).bind fun M32 =>
    k2 l0 l1 l2 (wI (l3 + 1)) M32
noncomputable def mX9_copy_2 : Nat → Int → Int → Int → Int → Mem → Option (Int × Mem)
  | 0 => fun _ _ _ _ _ => none
  | fu + 1 => bX9_copy_2 (mX9_copy_2 fu)
noncomputable def mX9_copy (l0 l1 l2 : Int) (M : Mem) : Option (Int × Mem) :=
  mX9_copy_2 FU l0 l1 l2 0 M
noncomputable def mX9_sizeOf (l0 l1 : Int) (M : Mem) : Option (Int × Mem) :=
  if l1 = (-1) then
    some (1, M)
  else
    (gF 9 26 M l0).bind fun a10 =>
    (aG 10 M a10 l1).bind fun a14 =>
    some (a14, M)
noncomputable def bX9_findStarts_9 (k9 : Int → Int → Mem → Option (Int × Mem)) (l0 l1 : Int) (M : Mem) : Option (Int × Mem) :=
  (gF 9 8 M l0).bind fun a11 =>
  (aG 10 M a11 0).bind fun a15 =>
  if a15 ≤ l1 then
    some (0, M)
  else
    (gF 9 27 M l0).bind fun a20 =>
    (gF 9 27 M l0).bind fun a27 =>
    (aG 10 M a27 l1).bind fun a31 =>
    (gF 9 9 M l0).bind fun a34 =>
    (aG 10 M a34 l1).bind fun a38 =>
    (gK 9 M l0).bind fun _ =>
    (mX9_sizeOf l0 a38 M).bind fun q39 =>
    (gF 9 10 q39.2 l0).bind fun a44 =>
    (aG 10 q39.2 a44 l1).bind fun a48 =>
    (gK 9 q39.2 l0).bind fun _ =>
    (mX9_sizeOf l0 a48 q39.2).bind fun q49 =>
    (aS 10 q49.2 a20 (wI (l1 + 1)) (wI (a31 + (wI (q39.1 * q49.1))))).bind fun M54 =>
    k9 l0 (wI (l1 + 1)) M54
noncomputable def mX9_findStarts_9 : Nat → Int → Int → Mem → Option (Int × Mem)
  | 0 => fun _ _ _ => none
  | fu + 1 => bX9_findStarts_9 (mX9_findStarts_9 fu)
noncomputable def mX9_findStarts (l0 : Int) (M : Mem) : Option (Int × Mem) :=
  (gF 9 27 M l0).bind fun a1 =>
  (aS 10 M a1 0 0).bind fun M6 =>
  mX9_findStarts_9 FU l0 0 M6
noncomputable def bX9_bringSizes_2 (k2 : Int → Int → Mem → Option (Int × Mem)) (l0 l1 : Int) (M : Mem) : Option (Int × Mem) :=
  if 3 ≤ l1 then
    (gK 9 M l0).bind fun _ =>
    (mX9_findStarts l0 M).bind fun q26 =>
    some (0, q26.2)
  else
    (gF 9 26 M l0).bind fun a8 =>
    (gF 9 7 M l0).bind fun a13 =>
    (aG 10 M a13 l1).bind fun a17 =>
    (aS 10 M a8 l1 a17).bind fun M18 =>
    k2 l0 (wI (l1 + 1)) M18
noncomputable def mX9_bringSizes_2 : Nat → Int → Int → Mem → Option (Int × Mem)
  | 0 => fun _ _ _ => none
  | fu + 1 => bX9_bringSizes_2 (mX9_bringSizes_2 fu)
noncomputable def mX9_bringSizes (l0 : Int) (M : Mem) : Option (Int × Mem) :=
  mX9_bringSizes_2 FU l0 0 M
noncomputable def bX9_bringWorld_6 (k6 : Int → Int → Mem → Option (Int × Mem)) (l0 l1 : Int) (M : Mem) : Option (Int × Mem) :=
  if 36 ≤ l1 then
    some (0, M)
  else
    (gF 9 28 M l0).bind fun a13 =>
    (gF 9 11 M l0).bind fun a18 =>
    (aG 11 M a18 l1).bind fun a22 =>
    (aSZ 11 M a13 l1 a22).bind fun M23 =>
    k6 l0 (wI (l1 + 1)) M23
noncomputable def mX9_bringWorld_6 : Nat → Int → Int → Mem → Option (Int × Mem)
  | 0 => fun _ _ _ => none
  | fu + 1 => bX9_bringWorld_6 (mX9_bringWorld_6 fu)
noncomputable def mX9_bringWorld (l0 : Int) (M : Mem) : Option (Int × Mem) :=
  (gK 9 M l0).bind fun _ =>
  (mX9_bringSizes l0 M).bind fun q1 =>
  mX9_bringWorld_6 FU l0 0 q1.2
noncomputable def mX9_manyFacts (l0 : Int) (M : Mem) : Option (Int × Mem) :=
  (gF 9 27 M l0).bind fun a1 =>
  (gF 9 8 M l0).bind fun a5 =>
  (aG 10 M a5 0).bind fun a9 =>
  (aG 10 M a1 a9).bind fun a10 =>
  some (a10, M)
noncomputable def mX9_factAt_15 (l0 l1 l2 s0 : Int) (M : Mem) : Option (Int × Mem) :=
  (gF 9 9 M l0).bind fun a21 =>
  (aG 10 M a21 l1).bind fun a25 =>
  (gK 9 M l0).bind fun _ =>
  (mX9_sizeOf l0 a25 M).bind fun q26 =>
  (mX9_in l2 0 (wI (q26.1 - 1)) q26.2).bind fun q31 =>
  if q31.1 = 0 then
    some ((-1), q31.2)
  else
    (gF 9 10 q31.2 l0).bind fun a42 =>
    (aG 10 q31.2 a42 l1).bind fun a46 =>
    (gK 9 q31.2 l0).bind fun _ =>
    (mX9_sizeOf l0 a46 q31.2).bind fun q47 =>
    (mX9_in s0 0 (wI (q47.1 - 1)) q47.2).bind fun q52 =>
    if q52.1 = 0 then
      some ((-1), q52.2)
    else
      (gF 9 27 q52.2 l0).bind fun a59 =>
      (aG 10 q52.2 a59 l1).bind fun a63 =>
      (gF 9 10 q52.2 l0).bind fun a66 =>
      (aG 10 q52.2 a66 l1).bind fun a70 =>
      (gK 9 q52.2 l0).bind fun _ =>
      (mX9_sizeOf l0 a70 q52.2).bind fun q71 =>
      some (wI ((wI (a63 + (wI (q71.1 * l2)))) + s0), q71.2)
noncomputable def mX9_factAt (l0 l1 l2 l3 : Int) (M : Mem) : Option (Int × Mem) :=
  (gF 9 10 M l0).bind fun a1 =>
  (aG 10 M a1 l1).bind fun a5 =>
  if a5 = (-1) then
    mX9_factAt_15 l0 l1 l2 0 M
  else
    mX9_factAt_15 l0 l1 l2 l3 M
noncomputable def mX9_isSo (l0 l1 l2 l3 : Int) (M : Mem) : Option (Int × Mem) :=
  (gK 9 M l0).bind fun _ =>
  (mX9_factAt l0 l1 l2 l3 M).bind fun q4 =>
  if q4.1 = (-1) then
    some (0, q4.2)
  else
    (gF 9 28 q4.2 l0).bind fun a16 =>
    (aG 11 q4.2 a16 q4.1).bind fun a21 =>
    if a21 = 0 then
      some (0, q4.2)
    else
      some (1, q4.2)
noncomputable def bX9_clearWorld_23 (k23 : Int → Int → Mem → Option (Int × Mem)) (l0 l1 : Int) (M : Mem) : Option (Int × Mem) :=
  if 4 ≤ l1 then
    some (0, M)
  else
    (gF 9 25 M l0).bind fun a29 =>
    (aSZ 11 M a29 l1 0).bind fun M34 =>
    k23 l0 (wI (l1 + 1)) M34
noncomputable def mX9_clearWorld_23 : Nat → Int → Int → Mem → Option (Int × Mem)
  | 0 => fun _ _ _ => none
  | fu + 1 => bX9_clearWorld_23 (mX9_clearWorld_23 fu)
noncomputable def bX9_clearWorld_2 (k2 : Int → Int → Mem → Option (Int × Mem)) (l0 l1 : Int) (M : Mem) : Option (Int × Mem) :=
  if 36 ≤ l1 then
    mX9_clearWorld_23 FU l0 0 M
  else
    (gF 9 11 M l0).bind fun a9 =>
    (aSZ 11 M a9 l1 0).bind fun M14 =>
    k2 l0 (wI (l1 + 1)) M14
noncomputable def mX9_clearWorld_2 : Nat → Int → Int → Mem → Option (Int × Mem)
  | 0 => fun _ _ _ => none
  | fu + 1 => bX9_clearWorld_2 (mX9_clearWorld_2 fu)
noncomputable def mX9_clearWorld (l0 : Int) (M : Mem) : Option (Int × Mem) :=
  mX9_clearWorld_2 FU l0 0 M
noncomputable def mX9_size (l0 l1 l2 : Int) (M : Mem) : Option (Int × Mem) :=
  (pF 9 0 M l0 0).bind fun M2 =>
  (mX9_in l1 0 2 M2).bind fun q8 =>
  if q8.1 = 0 then
    some (0, q8.2)
  else
    (mX9_in l2 1 3 q8.2).bind fun q17 =>
    if q17.1 = 0 then
      some (0, q17.2)
    else
      (gF 9 7 q17.2 l0).bind fun a24 =>
      (aG 10 q17.2 a24 l1).bind fun a28 =>
      if a28 = l2 then
        some (0, q17.2)
      else
        (gF 9 7 q17.2 l0).bind fun a36 =>
        (aS 10 q17.2 a36 l1 l2).bind fun M41 =>
        (gK 9 M41 l0).bind fun _ =>
        (mX9_clearWorld l0 M41).bind fun q43 =>
        some (1, q43.2)
noncomputable def mX9_relation (l0 l1 l2 : Int) (M : Mem) : Option (Int × Mem) :=
  (pF 9 0 M l0 0).bind fun M2 =>
  (gF 9 8 M2 l0).bind fun a6 =>
  (aG 10 M2 a6 0).bind fun a10 =>
  if a10 = 4 then
    some ((-1), M2)
  else
    (mX9_in l1 0 2 M2).bind fun q18 =>
    if q18.1 = 0 then
      some ((-1), q18.2)
    else
      (mX9_in l2 (-1) 2 q18.2).bind fun q27 =>
      if q27.1 = 0 then
        some ((-1), q27.2)
      else
        (gF 9 8 q27.2 l0).bind fun a36 =>
        (aG 10 q27.2 a36 0).bind fun a40 =>
        (gF 9 8 q27.2 l0).bind fun a43 =>
        (aG 10 q27.2 a43 0).bind fun a48 =>
        (aS 10 q27.2 a43 0 (wI (a48 + 1))).bind fun M51 =>
        (gF 9 9 M51 l0).bind fun a53 =>
        (aS 10 M51 a53 a40 l1).bind fun M58 =>
        (gF 9 10 M58 l0).bind fun a60 =>
        (aS 10 M58 a60 a40 l2).bind fun M65 =>
        (gK 9 M65 l0).bind fun _ =>
        (mX9_clearWorld l0 M65).bind fun q67 =>
        some (a40, q67.2)
noncomputable def mX9_facts (l0 : Int) (M : Mem) : Option (Int × Mem) :=
  (pF 9 0 M l0 0).bind fun M2 =>
  (gK 9 M2 l0).bind fun _ =>
  (mX9_bringSizes l0 M2).bind fun q6 =>
  (gK 9 q6.2 l0).bind fun _ =>
  (mX9_manyFacts l0 q6.2).bind fun q10 =>
  some (q10.1, q10.2)
noncomputable def mX9_isRelation (l0 l1 : Int) (M : Mem) : Option (Int × Mem) :=
  (gF 9 8 M l0).bind fun a3 =>
  (aG 10 M a3 0).bind fun a7 =>
  (mX9_in l1 0 (wI (a7 - 1)) M).bind fun q10 =>
  (zR q10.1).bind fun z =>
  some (z, q10.2)
noncomputable def mX9_toldFact (l0 l1 l2 l3 : Int) (M : Mem) : Option (Int × Mem) :=
  (gK 9 M l0).bind fun _ =>
  (mX9_bringSizes l0 M).bind fun q1 =>
  (gK 9 q1.2 l0).bind fun _ =>
  (mX9_isRelation l0 l1 q1.2).bind fun q6 =>
  if q6.1 = 0 then
    some ((-1), q6.2)
  else
    (gK 9 q6.2 l0).bind fun _ =>
    (mX9_factAt l0 l1 l2 l3 q6.2).bind fun q16 =>
    some (q16.1, q16.2)
noncomputable def mX9_tell (l0 l1 l2 l3 l4 : Int) (M : Mem) : Option (Int × Mem) :=
  (pF 9 0 M l0 0).bind fun M2 =>
  (gK 9 M2 l0).bind fun _ =>
  (mX9_toldFact l0 l1 l2 l3 M2).bind fun q9 =>
  if q9.1 = (-1) then
    some (0, q9.2)
  else
    (gF 9 11 q9.2 l0).bind fun a21 =>
    (aG 11 q9.2 a21 q9.1).bind fun a26 =>
    if a26 = l4 then
      some (0, q9.2)
    else
      (gF 9 11 q9.2 l0).bind fun a35 =>
      (aSZ 11 q9.2 a35 q9.1 l4).bind fun M42 =>
      some (1, M42)
noncomputable def mX9_fact (l0 l1 l2 l3 : Int) (M : Mem) : Option (Int × Mem) :=
  (pF 9 0 M l0 0).bind fun M2 =>
  (gK 9 M2 l0).bind fun _ =>
  (mX9_toldFact l0 l1 l2 l3 M2).bind fun q9 =>
  if q9.1 = (-1) then
    some ((-1), q9.2)
  else
    (gF 9 11 q9.2 l0).bind fun a25 =>
    (aG 11 q9.2 a25 q9.1).bind fun a30 =>
    if a30 = 0 then
      some (0, q9.2)
    else
      some (1, q9.2)
noncomputable def mX9_known_119 (l0 l5 s0 s1 s2 : Int) (M : Mem) : Option (Int × Mem) :=
  (aS 10 M s0 s1 s2).bind fun M119 =>
  (gF 9 23 M119 l0).bind fun a121 =>
  (gF 9 5 M119 l0).bind fun a127 =>
  (aG 10 M119 a127 0).bind fun a131 =>
  (aS 10 M119 a121 l5 a131).bind fun M132 =>
  some (1, M132)
noncomputable def mX9_known_101 (l0 l4 l5 s0 s1 s2 s3 : Int) (M : Mem) : Option (Int × Mem) :=
  (aS 10 M s0 s1 (wI (s2 + s3))).bind fun M102 =>
  (gF 9 22 M102 l0).bind fun a104 =>
  if l4 = 0 then
    mX9_known_119 l0 l5 a104 l5 0 M102
  else
    mX9_known_119 l0 l5 a104 l5 1 M102
noncomputable def mX9_known_54 (l0 l1 l2 l3 l4 : Int) (M : Mem) : Option (Int × Mem) :=
  (gF 9 20 M l0).bind fun a55 =>
  (aG 10 M a55 0).bind fun a59 =>
  (gF 9 20 M l0).bind fun a63 =>
  (aG 10 M a63 0).bind fun a68 =>
  (aS 10 M a63 0 (wI (a68 + 1))).bind fun M71 =>
  (gF 9 21 M71 l0).bind fun a73 =>
  (gF 9 10 M71 l0).bind fun a87 =>
  (aG 10 M71 a87 l1).bind fun a91 =>
  if a91 = (-1) then
    mX9_known_101 l0 l4 a59 a73 a59 (wI ((wI (9 * l1)) + (wI (3 * l2)))) 0 M71
  else
    mX9_known_101 l0 l4 a59 a73 a59 (wI ((wI (9 * l1)) + (wI (3 * l2)))) l3 M71
noncomputable def mX9_known (l0 l1 l2 l3 l4 : Int) (M : Mem) : Option (Int × Mem) :=
  (pF 9 0 M l0 0).bind fun M2 =>
  (gF 9 20 M2 l0).bind fun a6 =>
  (aG 10 M2 a6 0).bind fun a10 =>
  if a10 = 40 then
    some (0, M2)
  else
    (gK 9 M2 l0).bind fun _ =>
    (mX9_isRelation l0 l1 M2).bind fun q18 =>
    if q18.1 = 0 then
      some (0, q18.2)
    else
      (mX9_in l2 0 2 q18.2).bind fun q27 =>
      if q27.1 = 0 then
        some (0, q27.2)
      else
        (gF 9 10 q27.2 l0).bind fun a34 =>
        (aG 10 q27.2 a34 l1).bind fun a38 =>
        if a38 = (-1) then
          mX9_known_54 l0 l1 l2 l3 l4 q27.2
        else
          (mX9_in l3 0 2 q27.2).bind fun q46 =>
          if q46.1 = 0 then
            some (0, q46.2)
          else
            mX9_known_54 l0 l1 l2 l3 l4 q46.2
noncomputable def bX9_keep_25 (k25 : Int → Int → Int → Mem → Option (Int × Mem)) (l0 l1 l2 : Int) (M : Mem) : Option (Int × Mem) :=
  if 36 ≤ l2 then
    some (1, M)
  else
    (gF 9 24 M l0).bind fun a32 =>
    (gF 9 11 M l0).bind fun a42 =>
    (aG 11 M a42 l2).bind fun a46 =>
    (aSZ 11 M a32 (wI ((wI (36 * l1)) + l2)) a46).bind fun M47 =>
    k25 l0 l1 (wI (l2 + 1)) M47
noncomputable def mX9_keep_25 : Nat → Int → Int → Int → Mem → Option (Int × Mem)
  | 0 => fun _ _ _ _ => none
  | fu + 1 => bX9_keep_25 (mX9_keep_25 fu)
noncomputable def mX9_keep (l0 l1 : Int) (M : Mem) : Option (Int × Mem) :=
  (pF 9 0 M l0 0).bind fun M2 =>
  (mX9_in l1 0 3 M2).bind fun q8 =>
  if q8.1 = 0 then
    some (0, q8.2)
  else
    (gF 9 25 q8.2 l0).bind fun a17 =>
    (aSZ 11 q8.2 a17 l1 1).bind fun M22 =>
    mX9_keep_25 FU l0 l1 0 M22
noncomputable def mX9_canTell (l0 : Int) (M : Mem) : Option (Int × Mem) :=
  (gK 9 M l0).bind fun _ =>
  (mX9_bringSizes l0 M).bind fun q1 =>
  (gK 9 q1.2 l0).bind fun _ =>
  (mX9_manyFacts l0 q1.2).bind fun q5 =>
  if 12 < q5.1 then
    some (0, q5.2)
  else
    some (1, q5.2)
noncomputable def mX9_numberOfWorld_31 (k9 : Int → Int → Int → Int → Mem → Option (Int × Mem)) (l0 l1 l3 s0 s1 : Int) (M : Mem) : Option (Int × Mem) :=
  k9 l0 l1 (wI (s0 + s1)) (wI (l3 + 1)) M
noncomputable def bX9_numberOfWorld_9 (k9 : Int → Int → Int → Int → Mem → Option (Int × Mem)) (l0 l1 l2 l3 : Int) (M : Mem) : Option (Int × Mem) :=
  if l1 ≤ l3 then
    some (l2, M)
  else
    (gF 9 11 M l0).bind fun a18 =>
    (aG 11 M a18 l3).bind fun a22 =>
    if a22 = 0 then
      mX9_numberOfWorld_31 k9 l0 l1 l3 (wI (2 * l2)) 0 M
    else
      mX9_numberOfWorld_31 k9 l0 l1 l3 (wI (2 * l2)) 1 M
noncomputable def mX9_numberOfWorld_9 : Nat → Int → Int → Int → Int → Mem → Option (Int × Mem)
  | 0 => fun _ _ _ _ _ => none
  | fu + 1 => bX9_numberOfWorld_9 (mX9_numberOfWorld_9 fu)
noncomputable def mX9_numberOfWorld (l0 : Int) (M : Mem) : Option (Int × Mem) :=
  (gK 9 M l0).bind fun _ =>
  (mX9_manyFacts l0 M).bind fun q1 =>
  mX9_numberOfWorld_9 FU l0 q1.1 0 0 q1.2
noncomputable def mX9_inOrder_32 (l1 l2 s0 : Int) (M : Mem) : Option (Int × Mem) :=
  if l1 = 0 then
    some (l2, M)
  else
    if l1 = 1 then
      some (s0, M)
    else
      some (wI ((wI (3 - l2)) - s0), M)
noncomputable def mX9_inOrder (l0 l1 : Int) (M : Mem) : Option (Int × Mem) :=
  (dQ l0 2).bind fun a2 =>
  (dM l0 2).bind fun a6 =>
  if a6 = 0 then
    if a2 = 0 then
      mX9_inOrder_32 l1 a2 1 M
    else
      mX9_inOrder_32 l1 a2 0 M
  else
    if a2 = 2 then
      mX9_inOrder_32 l1 a2 1 M
    else
      mX9_inOrder_32 l1 a2 2 M
noncomputable def mX9_isOrder_35 (k2 : Int → Int → Int → Mem → Option (Int × Mem)) (l0 l1 l2 : Int) (M : Mem) : Option (Int × Mem) :=
  k2 l0 l1 (wI (l2 + 1)) M
noncomputable def bX9_isOrder_2 (k2 : Int → Int → Int → Mem → Option (Int × Mem)) (l0 l1 l2 : Int) (M : Mem) : Option (Int × Mem) :=
  if 3 ≤ l2 then
    some (1, M)
  else
    if l1 ≤ l2 then
      (mX9_inOrder l0 l2 M).bind fun q26 =>
      if q26.1 = l2 then
        mX9_isOrder_35 k2 l0 l1 l2 q26.2
      else
        some (0, q26.2)
    else
      (mX9_inOrder l0 l2 M).bind fun q14 =>
      if q14.1 < l1 then
        mX9_isOrder_35 k2 l0 l1 l2 q14.2
      else
        some (0, q14.2)
noncomputable def mX9_isOrder_2 : Nat → Int → Int → Int → Mem → Option (Int × Mem)
  | 0 => fun _ _ _ _ => none
  | fu + 1 => bX9_isOrder_2 (mX9_isOrder_2 fu)
noncomputable def mX9_isOrder (l0 l1 : Int) (M : Mem) : Option (Int × Mem) :=
  mX9_isOrder_2 FU l0 l1 0 M
noncomputable def mX9_takeOrders (l0 l1 : Int) (M : Mem) : Option (Int × Mem) :=
  (gF 9 51 M l0).bind fun a1 =>
  (dQ l1 36).bind fun a8 =>
  (aS 10 M a1 0 a8).bind fun M9 =>
  (gF 9 51 M9 l0).bind fun a11 =>
  (dQ l1 6).bind fun a18 =>
  (dM a18 6).bind fun a21 =>
  (aS 10 M9 a11 1 a21).bind fun M22 =>
  (gF 9 51 M22 l0).bind fun a24 =>
  (dM l1 6).bind fun a31 =>
  (aS 10 M22 a24 2 a31).bind fun M32 =>
  (gF 9 51 M32 l0).bind fun a34 =>
  (aG 10 M32 a34 0).bind fun a38 =>
  (gF 9 26 M32 l0).bind fun a40 =>
  (aG 10 M32 a40 0).bind fun a44 =>
  (mX9_isOrder a38 a44 M32).bind fun q45 =>
  if q45.1 = 0 then
    some (0, q45.2)
  else
    (gF 9 51 q45.2 l0).bind fun a52 =>
    (aG 10 q45.2 a52 1).bind fun a56 =>
    (gF 9 26 q45.2 l0).bind fun a58 =>
    (aG 10 q45.2 a58 1).bind fun a62 =>
    (mX9_isOrder a56 a62 q45.2).bind fun q63 =>
    if q63.1 = 0 then
      some (0, q63.2)
    else
      (gF 9 51 q63.2 l0).bind fun a70 =>
      (aG 10 q63.2 a70 2).bind fun a74 =>
      (gF 9 26 q63.2 l0).bind fun a76 =>
      (aG 10 q63.2 a76 2).bind fun a80 =>
      (mX9_isOrder a74 a80 q63.2).bind fun q81 =>
      if q81.1 = 0 then
        some (0, q81.2)
      else
        some (1, q81.2)
noncomputable def mX9_renamed (l0 l1 l2 : Int) (M : Mem) : Option (Int × Mem) :=
  if l1 = (-1) then
    some (0, M)
  else
    (gF 9 51 M l0).bind fun a10 =>
    (aG 10 M a10 l1).bind fun a14 =>
    (mX9_inOrder a14 l2 M).bind fun q16 =>
    some (q16.1, q16.2)
noncomputable def mX9_imageOf_127 (k9 : Int → Int → Int → Int → Mem → Option (Int × Mem)) (k34 : Int → Int → Int → Int → Int → Int → Mem → Option (Int × Mem)) (l0 l1 l3 l4 l5 s0 s1 : Int) (M : Mem) : Option (Int × Mem) :=
  k34 l0 l1 (ior s0 s1) l3 l4 (wI (l5 + 1)) M
noncomputable def bX9_imageOf_34 (k9 : Int → Int → Int → Int → Mem → Option (Int × Mem)) (k34 : Int → Int → Int → Int → Int → Int → Mem → Option (Int × Mem)) (l0 l1 l2 l3 l4 l5 : Int) (M : Mem) : Option (Int × Mem) :=
  (gF 9 27 M l0).bind fun a37 =>
  (aG 10 M a37 (wI (l3 + 1))).bind fun a43 =>
  (gF 9 27 M l0).bind fun a45 =>
  (aG 10 M a45 l3).bind fun a49 =>
  if wI (a43 - a49) ≤ l5 then
    k9 l0 l1 l2 (wI (l3 + 1)) M
  else
    (gF 9 27 M l0).bind fun a55 =>
    (aG 10 M a55 l3).bind fun a59 =>
    (gF 9 9 M l0).bind fun a64 =>
    (aG 10 M a64 l3).bind fun a68 =>
    (dQ l5 l4).bind fun a73 =>
    (gK 9 M l0).bind fun _ =>
    (mX9_renamed l0 a68 a73 M).bind fun q74 =>
    (gF 9 10 q74.2 l0).bind fun a81 =>
    (aG 10 q74.2 a81 l3).bind fun a85 =>
    (dM l5 l4).bind fun a90 =>
    (gK 9 q74.2 l0).bind fun _ =>
    (mX9_renamed l0 a85 a90 q74.2).bind fun q91 =>
    (some (wI ((wI (a59 + (wI (l4 * q74.1)))) + q91.1))).bind fun b95 =>
    (gF 9 28 q91.2 l0).bind fun a99 =>
    (gF 9 27 q91.2 l0).bind fun a103 =>
    (aG 10 q91.2 a103 l3).bind fun a107 =>
    (aG 11 q91.2 a99 (wI (a107 + l5))).bind fun a111 =>
    if a111 = 0 then
      mX9_imageOf_127 k9 k34 l0 l1 l3 l4 l5 l2 0 q91.2
    else
      mX9_imageOf_127 k9 k34 l0 l1 l3 l4 l5 l2 (ishl 1 (wI ((wI (l1 - 1)) - b95))) q91.2
noncomputable def mX9_imageOf_34 (k9 : Int → Int → Int → Int → Mem → Option (Int × Mem)) : Nat → Int → Int → Int → Int → Int → Int → Mem → Option (Int × Mem)
  | 0 => fun _ _ _ _ _ _ _ => none
  | fu + 1 => bX9_imageOf_34 k9 (mX9_imageOf_34 k9 fu)
noncomputable def bX9_imageOf_9 (k9 : Int → Int → Int → Int → Mem → Option (Int × Mem)) (l0 l1 l2 l3 : Int) (M : Mem) : Option (Int × Mem) :=
  (gF 9 8 M l0).bind fun a11 =>
  (aG 10 M a11 0).bind fun a15 =>
  if a15 ≤ l3 then
    some (l2, M)
  else
    (gF 9 10 M l0).bind fun a21 =>
    (aG 10 M a21 l3).bind fun a25 =>
    (gK 9 M l0).bind fun _ =>
    (mX9_sizeOf l0 a25 M).bind fun q26 =>
    mX9_imageOf_34 k9 FU l0 l1 l2 l3 q26.1 0 q26.2
noncomputable def mX9_imageOf_9 : Nat → Int → Int → Int → Int → Mem → Option (Int × Mem)
  | 0 => fun _ _ _ _ _ => none
  | fu + 1 => bX9_imageOf_9 (mX9_imageOf_9 fu)
noncomputable def mX9_imageOf (l0 : Int) (M : Mem) : Option (Int × Mem) :=
  (gK 9 M l0).bind fun _ =>
  (mX9_manyFacts l0 M).bind fun q1 =>
  mX9_imageOf_9 FU l0 q1.1 0 0 q1.2
noncomputable def bX9_ones_4 (k4 : Int → Int → Int → Mem → Option (Int × Mem)) (l0 l1 l2 : Int) (M : Mem) : Option (Int × Mem) :=
  if 16 ≤ l2 then
    some (l1, M)
  else
    (some (wI (l1 + (iand (ishr l0 l2) 1)))).bind fun b17 =>
    k4 l0 b17 (wI (l2 + 1)) M
noncomputable def mX9_ones_4 : Nat → Int → Int → Int → Mem → Option (Int × Mem)
  | 0 => fun _ _ _ _ => none
  | fu + 1 => bX9_ones_4 (mX9_ones_4 fu)
noncomputable def mX9_ones (l0 : Int) (M : Mem) : Option (Int × Mem) :=
  mX9_ones_4 FU l0 0 0 M
noncomputable def mX9_apart_123 (k79 : Int → Int → Int → Int → Mem → Option (Int × Mem)) (l0 l3 l4 l5 : Int) (M : Mem) : Option (Int × Mem) :=
  k79 l0 l3 l4 (wI (l5 + 1)) M
noncomputable def mX9_apart_121 (k79 : Int → Int → Int → Int → Mem → Option (Int × Mem)) (l0 l3 l5 s0 : Int) (M : Mem) : Option (Int × Mem) :=
  mX9_apart_123 k79 l0 l3 s0 l5 M
noncomputable def bX9_apart_79 (k79 : Int → Int → Int → Int → Mem → Option (Int × Mem)) (l0 l3 l4 l5 : Int) (M : Mem) : Option (Int × Mem) :=
  if 216 ≤ l5 then
    some (l4, M)
  else
    (gK 9 M l0).bind fun _ =>
    (mX9_takeOrders l0 l5 M).bind fun q90 =>
    if q90.1 = 0 then
      mX9_apart_123 k79 l0 l3 l4 l5 q90.2
    else
      (gK 9 q90.2 l0).bind fun _ =>
      (mX9_imageOf l0 q90.2).bind fun q97 =>
      (mX9_ones (ixor q97.1 l3) q97.2).bind fun q102 =>
      if l4 ≤ q102.1 then
        mX9_apart_121 k79 l0 l3 l5 l4 q102.2
      else
        mX9_apart_121 k79 l0 l3 l5 q102.1 q102.2
noncomputable def mX9_apart_79 : Nat → Int → Int → Int → Int → Mem → Option (Int × Mem)
  | 0 => fun _ _ _ _ _ => none
  | fu + 1 => bX9_apart_79 (mX9_apart_79 fu)
noncomputable def bX9_apart_39 (k39 : Int → Int → Int → Int → Mem → Option (Int × Mem)) (l0 l1 l2 l3 : Int) (M : Mem) : Option (Int × Mem) :=
  if l2 ≤ l3 then
    (gK 9 M l0).bind fun _ =>
    (mX9_numberOfWorld l0 M).bind fun q68 =>
    mX9_apart_79 FU l0 q68.1 36 0 q68.2
  else
    (gF 9 28 M l0).bind fun a45 =>
    (gF 9 24 M l0).bind fun a50 =>
    (aG 11 M a50 (wI ((wI (36 * l1)) + l3))).bind fun a59 =>
    (aSZ 11 M a45 l3 a59).bind fun M60 =>
    k39 l0 l1 l2 (wI (l3 + 1)) M60
noncomputable def mX9_apart_39 : Nat → Int → Int → Int → Int → Mem → Option (Int × Mem)
  | 0 => fun _ _ _ _ _ => none
  | fu + 1 => bX9_apart_39 (mX9_apart_39 fu)
noncomputable def mX9_apart (l0 l1 : Int) (M : Mem) : Option (Int × Mem) :=
  (pF 9 0 M l0 0).bind fun M2 =>
  (mX9_in l1 0 3 M2).bind fun q8 =>
  if q8.1 = 0 then
    some ((-1), q8.2)
  else
    (gF 9 25 q8.2 l0).bind fun a15 =>
    (aG 11 q8.2 a15 l1).bind fun a19 =>
    if a19 = 0 then
      some ((-1), q8.2)
    else
      (gK 9 q8.2 l0).bind fun _ =>
      (mX9_canTell l0 q8.2).bind fun q24 =>
      if q24.1 = 0 then
        some ((-1), q24.2)
      else
        (gK 9 q24.2 l0).bind fun _ =>
        (mX9_manyFacts l0 q24.2).bind fun q33 =>
        mX9_apart_39 FU l0 l1 q33.1 0 q33.2
noncomputable def bX9_four_3 (k3 : Int → Int → Int → Mem → Option (Int × Mem)) (l0 l1 l2 : Int) (M : Mem) : Option (Int × Mem) :=
  if l2 < 0 then
    some (0, M)
  else
    (gF 9 1 M l0).bind fun a8 =>
    (gF 9 2 M l0).bind fun a12 =>
    (aG 10 M a12 0).bind fun a16 =>
    (aSB 12 M a8 a16 (i2b (ishr l1 l2))).bind fun M21 =>
    (gF 9 2 M21 l0).bind fun a23 =>
    (aG 10 M21 a23 0).bind fun a28 =>
    (aS 10 M21 a23 0 (wI (a28 + 1))).bind fun M31 =>
    k3 l0 l1 (wI (l2 + (-8))) M31
noncomputable def mX9_four_3 : Nat → Int → Int → Int → Mem → Option (Int × Mem)
  | 0 => fun _ _ _ _ => none
  | fu + 1 => bX9_four_3 (mX9_four_3 fu)
noncomputable def mX9_four (l0 l1 : Int) (M : Mem) : Option (Int × Mem) :=
  mX9_four_3 FU l0 l1 24 M
noncomputable def mX9_feed (l0 l1 l2 l3 l4 l5 : Int) (M : Mem) : Option (Int × Mem) :=
  (pF 9 0 M l0 0).bind fun M2 =>
  (gF 9 2 M2 l0).bind fun a6 =>
  (aG 10 M2 a6 0).bind fun a10 =>
  if wI (a10 + 20) ≤ 400 then
    (gK 9 M2 l0).bind fun _ =>
    (mX9_four l0 l1 M2).bind fun q24 =>
    (gK 9 q24.2 l0).bind fun _ =>
    (mX9_four l0 l2 q24.2).bind fun q29 =>
    (gK 9 q29.2 l0).bind fun _ =>
    (mX9_four l0 l3 q29.2).bind fun q34 =>
    (gK 9 q34.2 l0).bind fun _ =>
    (mX9_four l0 l4 q34.2).bind fun q40 =>
    (gK 9 q40.2 l0).bind fun _ =>
    (mX9_four l0 l5 q40.2).bind fun q46 =>
    (gF 9 2 q46.2 l0).bind fun a50 =>
    (aG 10 q46.2 a50 0).bind fun a54 =>
    some (a54, q46.2)
  else
    some ((-1), M2)
noncomputable def mX9_end (l0 l1 : Int) (M : Mem) : Option (Int × Mem) :=
  (pF 9 0 M l0 0).bind fun M2 =>
  (gF 9 2 M2 l0).bind fun a8 =>
  (aG 10 M2 a8 0).bind fun a12 =>
  (mX9_in l1 0 a12 M2).bind fun q13 =>
  if q13.1 = 0 then
    some ((-1), q13.2)
  else
    (gF 9 2 q13.2 l0).bind fun a22 =>
    (aS 10 q13.2 a22 0 l1).bind fun M27 =>
    some (l1, M27)
noncomputable def mX9_see (l0 : Int) (M : Mem) : Option (Int × Mem) :=
  (gF 9 29 M l0).bind fun a1 =>
  (gF 9 30 M l0).bind fun a5 =>
  if a5 ≤ a1 then
    some ((-1), M)
  else
    (gF 9 1 M l0).bind fun a12 =>
    (gF 9 29 M l0).bind fun a16 =>
    (aG 12 M a12 a16).bind fun a19 =>
    some (iand a19 255, M)
noncomputable def mX9_token_235 (s0 s1 : Int) (M : Mem) : Option (Int × Mem) :=
  (pF 9 32 M s0 s1).bind fun M235 =>
  some (0, M235)
noncomputable def mX9_token_205 (k163 : Int → Int → Mem → Option (Int × Mem)) (l0 l2 s0 s1 : Int) (M : Mem) : Option (Int × Mem) :=
  (pF 9 33 M s0 s1).bind fun M205 =>
  (gF 9 29 M205 l0).bind fun a210 =>
  (pF 9 29 M205 l0 (wI (a210 + 1))).bind fun M215 =>
  k163 l0 (wI (l2 + 1)) M215
noncomputable def bX9_token_163 (k163 : Int → Int → Mem → Option (Int × Mem)) (l0 l2 : Int) (M : Mem) : Option (Int × Mem) :=
  (gK 9 M l0).bind fun _ =>
  (mX9_see l0 M).bind fun q164 =>
  (mX9_in q164.1 48 57 q164.2).bind fun q171 =>
  if q171.1 = 0 then
    if l2 ≤ 4 then
      mX9_token_235 l0 3 q171.2
    else
      mX9_token_235 l0 1 q171.2
  else
    if 4 ≤ l2 then
      (gF 9 33 q171.2 l0).bind fun a202 =>
      mX9_token_205 k163 l0 l2 l0 a202 q171.2
    else
      (gF 9 33 q171.2 l0).bind fun a186 =>
      (gK 9 q171.2 l0).bind fun _ =>
      (mX9_see l0 q171.2).bind fun q191 =>
      mX9_token_205 k163 l0 l2 l0 (wI ((wI ((wI (10 * a186)) + q191.1)) - 48)) q191.2
noncomputable def mX9_token_163 : Nat → Int → Int → Mem → Option (Int × Mem)
  | 0 => fun _ _ _ => none
  | fu + 1 => bX9_token_163 (mX9_token_163 fu)
noncomputable def mX9_token_141 (l0 s0 s1 : Int) (M : Mem) : Option (Int × Mem) :=
  (pF 9 34 M s0 s1).bind fun M141 =>
  (pF 9 32 M141 l0 2).bind fun M146 =>
  some (0, M146)
noncomputable def bX9_token_79 (k79 : Int → Int → Mem → Option (Int × Mem)) (l0 l2 : Int) (M : Mem) : Option (Int × Mem) :=
  (gK 9 M l0).bind fun _ =>
  (mX9_see l0 M).bind fun q80 =>
  (mX9_in q80.1 97 122 q80.2).bind fun q87 =>
  if q87.1 = 0 then
    if l2 ≤ 8 then
      (gF 9 34 q87.2 l0).bind fun a138 =>
      mX9_token_141 l0 l0 a138 q87.2
    else
      mX9_token_141 l0 l0 0 q87.2
  else
    (gF 9 34 q87.2 l0).bind fun a95 =>
    (gK 9 q87.2 l0).bind fun _ =>
    (mX9_see l0 q87.2).bind fun q102 =>
    (pF 9 34 q102.2 l0 (lor (lshl a95 8) (i2l q102.1))).bind fun M107 =>
    (gF 9 29 M107 l0).bind fun a112 =>
    (pF 9 29 M107 l0 (wI (a112 + 1))).bind fun M117 =>
    k79 l0 (wI (l2 + 1)) M117
noncomputable def mX9_token_79 : Nat → Int → Int → Mem → Option (Int × Mem)
  | 0 => fun _ _ _ => none
  | fu + 1 => bX9_token_79 (mX9_token_79 fu)
noncomputable def mX9_token_18 (k0 : Int → Mem → Option (Int × Mem)) (l0 : Int) (M : Mem) : Option (Int × Mem) :=
  (gF 9 29 M l0).bind fun a20 =>
  (pF 9 29 M l0 (wI (a20 + 1))).bind fun M25 =>
  k0 l0 M25
noncomputable def bX9_token_0 (k0 : Int → Mem → Option (Int × Mem)) (l0 : Int) (M : Mem) : Option (Int × Mem) :=
  (gK 9 M l0).bind fun _ =>
  (mX9_see l0 M).bind fun q1 =>
  if q1.1 = 10 then
    mX9_token_18 k0 l0 q1.2
  else
    (gK 9 q1.2 l0).bind fun _ =>
    (mX9_see l0 q1.2).bind fun q10 =>
    if q10.1 = 32 then
      mX9_token_18 k0 l0 q10.2
    else
      (gF 9 29 q10.2 l0).bind fun a33 =>
      (pF 9 31 q10.2 l0 a33).bind fun M36 =>
      (gK 9 M36 l0).bind fun _ =>
      (mX9_see l0 M36).bind fun q40 =>
      (pF 9 33 q40.2 l0 0).bind fun M46 =>
      (pF 9 34 M46 l0 0).bind fun M51 =>
      if 0 ≤ q40.1 then
        (mX9_in q40.1 97 122 M51).bind fun q73 =>
        if q73.1 = 0 then
          (mX9_in q40.1 48 57 q73.2).bind fun q157 =>
          if q157.1 = 0 then
            (gF 9 29 q157.2 l0).bind fun a243 =>
            (pF 9 29 q157.2 l0 (wI (a243 + 1))).bind fun M248 =>
            (pF 9 32 M248 l0 1).bind fun M253 =>
            some (0, M253)
          else
            mX9_token_163 FU l0 0 q157.2
        else
          mX9_token_79 FU l0 0 q73.2
      else
        (pF 9 32 M51 l0 0).bind fun M62 =>
        some (0, M62)
noncomputable def mX9_token_0 : Nat → Int → Mem → Option (Int × Mem)
  | 0 => fun _ _ => none
  | fu + 1 => bX9_token_0 (mX9_token_0 fu)
noncomputable def mX9_token (l0 : Int) (M : Mem) : Option (Int × Mem) :=
  mX9_token_0 FU l0 M
noncomputable def mX9_isWord (l0 l1 : Int) (M : Mem) : Option (Int × Mem) :=
  (gF 9 32 M l0).bind fun a1 =>
  if a1 = 2 then
    (gF 9 34 M l0).bind fun a9 =>
    if lcmp a9 l1 = 0 then
      some (1, M)
    else
      some (0, M)
  else
    some (0, M)
noncomputable def mX9_actOf (l0 : Int) (M : Mem) : Option (Int × Mem) :=
  (gK 9 M l0).bind fun _ =>
  (mX9_isWord l0 6384748 M).bind fun q4 =>
  if q4.1 = 0 then
    (gK 9 q4.2 l0).bind fun _ =>
    (mX9_isWord l0 1936682341 q4.2).bind fun q18 =>
    if q18.1 = 0 then
      (gK 9 q18.2 l0).bind fun _ =>
      (mX9_isWord l0 465557353332 q18.2).bind fun q32 =>
      if q32.1 = 0 then
        (gK 9 q32.2 l0).bind fun _ =>
        (mX9_isWord l0 1836020596 q32.2).bind fun q46 =>
        if q46.1 = 0 then
          (gK 9 q46.2 l0).bind fun _ =>
          (mX9_isWord l0 7237492 q46.2).bind fun q60 =>
          if q60.1 = 0 then
            (gK 9 q60.2 l0).bind fun _ =>
            (mX9_isWord l0 6385252 q60.2).bind fun q74 =>
            if q74.1 = 0 then
              (gK 9 q74.2 l0).bind fun _ =>
              (mX9_isWord l0 28530 q74.2).bind fun q88 =>
              if q88.1 = 0 then
                (gK 9 q88.2 l0).bind fun _ =>
                (mX9_isWord l0 26982 q88.2).bind fun q103 =>
                if q103.1 = 0 then
                  (gK 9 q103.2 l0).bind fun _ =>
                  (mX9_isWord l0 1935764837 q103.2).bind fun q118 =>
                  if q118.1 = 0 then
                    (gK 9 q118.2 l0).bind fun _ =>
                    (mX9_isWord l0 491327153000 q118.2).bind fun q133 =>
                    if q133.1 = 0 then
                      (gK 9 q133.2 l0).bind fun _ =>
                      (mX9_isWord l0 1953654117 q133.2).bind fun q148 =>
                      if q148.1 = 0 then
                        some ((-1), q148.2)
                      else
                        some (10, q148.2)
                    else
                      some (9, q133.2)
                  else
                    some (8, q118.2)
                else
                  some (7, q103.2)
              else
                some (6, q88.2)
            else
              some (5, q74.2)
          else
            some (4, q60.2)
        else
          some (3, q46.2)
      else
        some (2, q32.2)
    else
      some (1, q18.2)
  else
    some (0, q4.2)
noncomputable def mX9_varOf (l0 : Int) (M : Mem) : Option (Int × Mem) :=
  (gK 9 M l0).bind fun _ =>
  (mX9_isWord l0 120 M).bind fun q4 =>
  if q4.1 = 0 then
    (gK 9 q4.2 l0).bind fun _ =>
    (mX9_isWord l0 121 q4.2).bind fun q18 =>
    if q18.1 = 0 then
      (gK 9 q18.2 l0).bind fun _ =>
      (mX9_isWord l0 122 q18.2).bind fun q32 =>
      if q32.1 = 0 then
        (gK 9 q32.2 l0).bind fun _ =>
        (mX9_isWord l0 119 q32.2).bind fun q46 =>
        if q46.1 = 0 then
          some ((-1), q46.2)
        else
          some (3, q46.2)
      else
        some (2, q32.2)
    else
      some (1, q18.2)
  else
    some (0, q4.2)
noncomputable def mX9_kindOf (l0 : Int) (M : Mem) : Option (Int × Mem) :=
  (gK 9 M l0).bind fun _ =>
  (mX9_isWord l0 7168366 M).bind fun q4 =>
  if q4.1 = 0 then
    (gK 9 q4.2 l0).bind fun _ =>
    (mX9_isWord l0 448546567013 q4.2).bind fun q18 =>
    if q18.1 = 0 then
      (gK 9 q18.2 l0).bind fun _ =>
      (mX9_isWord l0 6578553 q18.2).bind fun q32 =>
      if q32.1 = 0 then
        some ((-1), q32.2)
      else
        some (2, q32.2)
    else
      some (1, q18.2)
  else
    some (0, q4.2)
noncomputable def mX9_relOf_57 (l0 s0 : Int) (M : Mem) : Option (Int × Mem) :=
  (gF 9 8 M l0).bind fun a60 =>
  (aG 10 M a60 0).bind fun a64 =>
  if a64 ≤ s0 then
    some ((-1), M)
  else
    some (s0, M)
noncomputable def mX9_relOf (l0 : Int) (M : Mem) : Option (Int × Mem) :=
  (gK 9 M l0).bind fun _ =>
  (mX9_isWord l0 114 M).bind fun q4 =>
  if q4.1 = 0 then
    (gK 9 q4.2 l0).bind fun _ =>
    (mX9_isWord l0 115 q4.2).bind fun q18 =>
    if q18.1 = 0 then
      (gK 9 q18.2 l0).bind fun _ =>
      (mX9_isWord l0 116 q18.2).bind fun q32 =>
      if q32.1 = 0 then
        (gK 9 q32.2 l0).bind fun _ =>
        (mX9_isWord l0 117 q32.2).bind fun q46 =>
        if q46.1 = 0 then
          mX9_relOf_57 l0 (-1) q46.2
        else
          mX9_relOf_57 l0 3 q46.2
      else
        mX9_relOf_57 l0 2 q32.2
    else
      mX9_relOf_57 l0 1 q18.2
  else
    mX9_relOf_57 l0 0 q4.2
noncomputable def mX9_wrong (l0 : Int) (M : Mem) : Option (Int × Mem) :=
  (gF 9 31 M l0).bind fun a2 =>
  (pF 9 35 M l0 a2).bind fun M5 =>
  some ((-1), M5)
noncomputable def mX9_later_31 (l0 l1 l2 : Int) (M : Mem) : Option (Int × Mem) :=
  (pF 9 36 M l0 l1).bind fun M33 =>
  (pF 9 37 M33 l0 l2).bind fun M38 =>
  some (0, M38)
noncomputable def mX9_later (l0 l1 l2 : Int) (M : Mem) : Option (Int × Mem) :=
  (gF 9 36 M l0).bind fun a1 =>
  if a1 = 0 then
    mX9_later_31 l0 l1 l2 M
  else
    (gF 9 37 M l0).bind fun a9 =>
    if l2 < a9 then
      mX9_later_31 l0 l1 l2 M
    else
      (gF 9 37 M l0).bind fun a17 =>
      if l2 = a17 then
        (gF 9 36 M l0).bind fun a25 =>
        if a25 ≤ l1 then
          some (0, M)
        else
          mX9_later_31 l0 l1 l2 M
      else
        some (0, M)
noncomputable def mX9_bound (l0 l1 : Int) (M : Mem) : Option (Int × Mem) :=
  (some (iand (ishr l0 (wI (2 * l1))) 3)).bind fun b7 =>
  if b7 = 3 then
    some ((-1), M)
  else
    some (b7, M)
noncomputable def mX9_readVar_59 (l0 l3 : Int) (M : Mem) : Option (Int × Mem) :=
  (gK 9 M l0).bind fun _ =>
  (mX9_token l0 M).bind fun q60 =>
  some (l3, q60.2)
noncomputable def mX9_readVar (l0 l1 l2 : Int) (M : Mem) : Option (Int × Mem) :=
  (gK 9 M l0).bind fun _ =>
  (mX9_varOf l0 M).bind fun q1 =>
  if q1.1 = (-1) then
    (gK 9 q1.2 l0).bind fun _ =>
    (mX9_wrong l0 q1.2).bind fun q11 =>
    some (q11.1, q11.2)
  else
    (mX9_bound l1 q1.1 q1.2).bind fun q17 =>
    if q17.1 = (-1) then
      (gF 9 31 q17.2 l0).bind fun a27 =>
      (gK 9 q17.2 l0).bind fun _ =>
      (mX9_later l0 2 a27 q17.2).bind fun q30 =>
      mX9_readVar_59 l0 q1.1 q30.2
    else
      if l2 = (-1) then
        mX9_readVar_59 l0 q1.1 q17.2
      else
        (mX9_bound l1 q1.1 q17.2).bind fun q43 =>
        if q43.1 = l2 then
          mX9_readVar_59 l0 q1.1 q43.2
        else
          (gF 9 31 q43.2 l0).bind fun a53 =>
          (gK 9 q43.2 l0).bind fun _ =>
          (mX9_later l0 3 a53 q43.2).bind fun q56 =>
          mX9_readVar_59 l0 q1.1 q56.2
noncomputable def mX9_wait (l0 l1 : Int) (M : Mem) : Option (Int × Mem) :=
  (gF 9 39 M l0).bind fun a1 =>
  (gF 9 38 M l0).bind fun a5 =>
  (aS 10 M a1 a5 l1).bind fun M9 =>
  (gF 9 38 M9 l0).bind fun a12 =>
  (pF 9 38 M9 l0 (wI (a12 + 1))).bind fun M17 =>
  some (0, M17)
noncomputable def mX9_readBinder_49 (l0 l1 l2 : Int) (M : Mem) : Option (Int × Mem) :=
  (gK 9 M l0).bind fun _ =>
  (mX9_varOf l0 M).bind fun q50 =>
  if q50.1 = (-1) then
    (gF 9 31 q50.2 l0).bind fun a61 =>
    (pF 9 35 q50.2 l0 a61).bind fun M64 =>
    some (0, M64)
  else
    (gK 9 q50.2 l0).bind fun _ =>
    (mX9_token l0 q50.2).bind fun q70 =>
    (gK 9 q70.2 l0).bind fun _ =>
    (mX9_kindOf l0 q70.2).bind fun q74 =>
    if q74.1 = (-1) then
      (gF 9 31 q74.2 l0).bind fun a87 =>
      (pF 9 35 q74.2 l0 a87).bind fun M90 =>
      some (0, M90)
    else
      (gK 9 q74.2 l0).bind fun _ =>
      (mX9_token l0 q74.2).bind fun q96 =>
      (gF 9 42 q96.2 l0).bind fun a100 =>
      (aS 10 q96.2 a100 l1 q50.1).bind fun M105 =>
      (gF 9 43 M105 l0).bind fun a107 =>
      (aS 10 M105 a107 l1 q74.1).bind fun M113 =>
      (gK 9 M113 l0).bind fun _ =>
      (mX9_wait l0 (wI ((ior (iand l2 (ixor (ishl 3 (wI (2 * q50.1))) (-1))) (ishl q74.1 (wI (2 * q50.1)))) + 256)) M113).bind fun q135 =>
      some (1, q135.2)
noncomputable def mX9_readBinder (l0 l1 l2 : Int) (M : Mem) : Option (Int × Mem) :=
  (gF 9 44 M l0).bind fun a1 =>
  (aS 10 M a1 l1 0).bind fun M6 =>
  (gF 9 41 M6 l0).bind fun a8 =>
  (aG 10 M6 a8 l1).bind fun a12 =>
  if a12 < 2 then
    mX9_readBinder_49 l0 l1 l2 M6
  else
    (gF 9 32 M6 l0).bind fun a18 =>
    if a18 = 3 then
      (gF 9 44 M6 l0).bind fun a36 =>
      (gF 9 33 M6 l0).bind fun a41 =>
      (aS 10 M6 a36 l1 a41).bind fun M44 =>
      (gK 9 M44 l0).bind fun _ =>
      (mX9_token l0 M44).bind fun q46 =>
      mX9_readBinder_49 l0 l1 l2 q46.2
    else
      (gF 9 31 M6 l0).bind fun a27 =>
      (pF 9 35 M6 l0 a27).bind fun M30 =>
      some (0, M30)
noncomputable def mX9_readSame (l0 l1 l2 : Int) (M : Mem) : Option (Int × Mem) :=
  (gF 9 42 M l0).bind fun a1 =>
  (gK 9 M l0).bind fun _ =>
  (mX9_readVar l0 l2 (-1) M).bind fun q8 =>
  (aS 10 q8.2 a1 l1 q8.1).bind fun M11 =>
  (gF 9 42 M11 l0).bind fun a13 =>
  (aG 10 M11 a13 l1).bind fun a17 =>
  if a17 = (-1) then
    some (0, M11)
  else
    (gF 9 43 M11 l0).bind fun a25 =>
    (gF 9 42 M11 l0).bind fun a33 =>
    (aG 10 M11 a33 l1).bind fun a37 =>
    (mX9_bound l2 a37 M11).bind fun q38 =>
    (gK 9 q38.2 l0).bind fun _ =>
    (mX9_readVar l0 l2 q38.1 q38.2).bind fun q41 =>
    (aS 10 q41.2 a25 l1 q41.1).bind fun M44 =>
    (gF 9 43 M44 l0).bind fun a46 =>
    (aG 10 M44 a46 l1).bind fun a50 =>
    if a50 = (-1) then
      some (0, M44)
    else
      some (1, M44)
noncomputable def mX9_readRelation_236 (l0 l1 s0 s1 s2 s3 s4 : Int) (M : Mem) : Option (Int × Mem) :=
  (gK 9 M s2).bind fun _ =>
  (mX9_readVar s2 s3 s4 M).bind fun q236 =>
  (aS 10 q236.2 s0 s1 q236.1).bind fun M239 =>
  (gF 9 44 M239 l0).bind fun a241 =>
  (aG 10 M239 a241 l1).bind fun a245 =>
  if a245 = (-1) then
    some (0, M239)
  else
    some (1, M239)
noncomputable def mX9_readRelation_198 (l0 l1 : Int) (M : Mem) : Option (Int × Mem) :=
  (gF 9 43 M l0).bind fun a199 =>
  (aG 10 M a199 l1).bind fun a203 =>
  if a203 = (-1) then
    some (0, M)
  else
    some (1, M)
noncomputable def mX9_readRelation_173 (l0 l1 l2 l3 l5 s0 s1 s2 s3 s4 : Int) (M : Mem) : Option (Int × Mem) :=
  (gK 9 M s2).bind fun _ =>
  (mX9_readVar s2 s3 s4 M).bind fun q173 =>
  (aS 10 q173.2 s0 s1 q173.1).bind fun M176 =>
  (gF 9 43 M176 l0).bind fun a178 =>
  (aG 10 M176 a178 l1).bind fun a182 =>
  if a182 = (-1) then
    mX9_readRelation_198 l0 l1 M176
  else
    (gF 9 41 M176 l0).bind fun a188 =>
    (aG 10 M176 a188 l1).bind fun a192 =>
    if a192 = 11 then
      mX9_readRelation_198 l0 l1 M176
    else
      (gF 9 44 M176 l0).bind fun a215 =>
      if l5 = 0 then
        mX9_readRelation_236 l0 l1 a215 l1 l0 l2 (-1) M176
      else
        (gF 9 10 M176 l0).bind fun a227 =>
        (aG 10 M176 a227 l3).bind fun a231 =>
        mX9_readRelation_236 l0 l1 a215 l1 l0 l2 a231 M176
noncomputable def mX9_readRelation_126 (l0 l1 l2 l3 l5 s0 s1 s2 : Int) (M : Mem) : Option (Int × Mem) :=
  (aS 10 M s0 s1 s2).bind fun M126 =>
  (gF 9 42 M126 l0).bind fun a128 =>
  (aS 10 M126 a128 l1 l3).bind fun M133 =>
  (gK 9 M133 l0).bind fun _ =>
  (mX9_token l0 M133).bind fun q135 =>
  (gF 9 41 q135.2 l0).bind fun a139 =>
  (aG 10 q135.2 a139 l1).bind fun a143 =>
  if a143 = 10 then
    some (1, q135.2)
  else
    (gF 9 43 q135.2 l0).bind fun a152 =>
    if l5 = 0 then
      mX9_readRelation_173 l0 l1 l2 l3 l5 a152 l1 l0 l2 (-1) q135.2
    else
      (gF 9 9 q135.2 l0).bind fun a164 =>
      (aG 10 q135.2 a164 l3).bind fun a168 =>
      mX9_readRelation_173 l0 l1 l2 l3 l5 a152 l1 l0 l2 a168 q135.2
noncomputable def mX9_readRelation_90 (l0 l1 l2 l3 l4 l5 : Int) (M : Mem) : Option (Int × Mem) :=
  (gF 9 41 M l0).bind fun a91 =>
  if l4 = 0 then
    (gF 9 10 M l0).bind fun a110 =>
    (aG 10 M a110 l3).bind fun a114 =>
    if a114 = (-1) then
      mX9_readRelation_126 l0 l1 l2 l3 l5 a91 l1 11 M
    else
      mX9_readRelation_126 l0 l1 l2 l3 l5 a91 l1 12 M
  else
    (gF 9 41 M l0).bind fun a101 =>
    (aG 10 M a101 l1).bind fun a105 =>
    mX9_readRelation_126 l0 l1 l2 l3 l5 a91 l1 a105 M
noncomputable def mX9_readRelation_74 (l0 l1 l2 l3 l4 s0 : Int) (M : Mem) : Option (Int × Mem) :=
  if s0 = 0 then
    (gF 9 31 M l0).bind fun a84 =>
    (gK 9 M l0).bind fun _ =>
    (mX9_later l0 3 a84 M).bind fun q87 =>
    mX9_readRelation_90 l0 l1 l2 l3 l4 s0 q87.2
  else
    mX9_readRelation_90 l0 l1 l2 l3 l4 s0 M
noncomputable def mX9_readRelation_69 (l0 l1 l2 l3 l4 : Int) (M : Mem) : Option (Int × Mem) :=
  mX9_readRelation_74 l0 l1 l2 l3 l4 1 M
noncomputable def mX9_readRelation_47 (l0 l1 l2 l3 s0 : Int) (M : Mem) : Option (Int × Mem) :=
  if s0 = 0 then
    mX9_readRelation_69 l0 l1 l2 l3 s0 M
  else
    (gF 9 10 M l0).bind fun a55 =>
    (aG 10 M a55 l3).bind fun a59 =>
    (gF 9 9 M l0).bind fun a61 =>
    (aG 10 M a61 l3).bind fun a65 =>
    if a59 = a65 then
      mX9_readRelation_69 l0 l1 l2 l3 s0 M
    else
      mX9_readRelation_74 l0 l1 l2 l3 s0 0 M
noncomputable def mX9_readRelation_42 (l0 l1 l2 l3 : Int) (M : Mem) : Option (Int × Mem) :=
  mX9_readRelation_47 l0 l1 l2 l3 1 M
noncomputable def mX9_readRelation (l0 l1 l2 : Int) (M : Mem) : Option (Int × Mem) :=
  (gK 9 M l0).bind fun _ =>
  (mX9_relOf l0 M).bind fun q1 =>
  if q1.1 = (-1) then
    (gF 9 31 q1.2 l0).bind fun a12 =>
    (pF 9 35 q1.2 l0 a12).bind fun M15 =>
    some (0, M15)
  else
    (gF 9 41 q1.2 l0).bind fun a21 =>
    (aG 10 q1.2 a21 l1).bind fun a25 =>
    if a25 = 9 then
      mX9_readRelation_42 l0 l1 l2 q1.1 q1.2
    else
      (gF 9 41 q1.2 l0).bind fun a32 =>
      (aG 10 q1.2 a32 l1).bind fun a36 =>
      if a36 = 10 then
        mX9_readRelation_42 l0 l1 l2 q1.1 q1.2
      else
        mX9_readRelation_47 l0 l1 l2 q1.1 0 q1.2
noncomputable def mX9_readPart_102 (l0 l1 l2 : Int) (M : Mem) : Option (Int × Mem) :=
  (gK 9 M l0).bind fun _ =>
  (mX9_token l0 M).bind fun q103 =>
  (gF 9 41 q103.2 l0).bind fun a107 =>
  (aG 10 q103.2 a107 l2).bind fun a111 =>
  if 3 < a111 then
    (gF 9 41 q103.2 l0).bind fun a124 =>
    (aG 10 q103.2 a124 l2).bind fun a128 =>
    if a128 = 8 then
      (gK 9 q103.2 l0).bind fun _ =>
      (mX9_readSame l0 l2 l1 q103.2).bind fun q137 =>
      (zR q137.1).bind fun z =>
      some (z, q137.2)
    else
      (gF 9 41 q103.2 l0).bind fun a142 =>
      (aG 10 q103.2 a142 l2).bind fun a146 =>
      if a146 < 9 then
        (gK 9 q103.2 l0).bind fun _ =>
        (mX9_wait l0 l1 q103.2).bind fun q161 =>
        (gF 9 41 q161.2 l0).bind fun a165 =>
        (aG 10 q161.2 a165 l2).bind fun a169 =>
        if a169 = 4 then
          some (1, q161.2)
        else
          (gK 9 q161.2 l0).bind fun _ =>
          (mX9_wait l0 l1 q161.2).bind fun q176 =>
          some (1, q176.2)
      else
        (gK 9 q103.2 l0).bind fun _ =>
        (mX9_readRelation l0 l2 l1 q103.2).bind fun q155 =>
        (zR q155.1).bind fun z =>
        some (z, q155.2)
  else
    (gK 9 q103.2 l0).bind fun _ =>
    (mX9_readBinder l0 l2 l1 q103.2).bind fun q119 =>
    (zR q119.1).bind fun z =>
    some (z, q119.2)
noncomputable def mX9_readPart_36 (l0 l1 s0 : Int) (M : Mem) : Option (Int × Mem) :=
  (gF 9 40 M l0).bind fun a39 =>
  (pF 9 40 M l0 (wI (a39 + 1))).bind fun M44 =>
  (gF 9 41 M44 l0).bind fun a48 =>
  (gK 9 M44 l0).bind fun _ =>
  (mX9_actOf l0 M44).bind fun q53 =>
  (aS 10 q53.2 a48 s0 q53.1).bind fun M56 =>
  (gF 9 41 M56 l0).bind fun a58 =>
  (aG 10 M56 a58 s0).bind fun a62 =>
  if a62 = (-1) then
    (gK 9 M56 l0).bind fun _ =>
    (mX9_readRelation l0 s0 l1 M56).bind fun q70 =>
    (zR q70.1).bind fun z =>
    some (z, q70.2)
  else
    (gF 9 41 M56 l0).bind fun a75 =>
    (aG 10 M56 a75 s0).bind fun a79 =>
    if 3 < a79 then
      mX9_readPart_102 l0 l1 s0 M56
    else
      (dQ l1 256).bind fun a88 =>
      if a88 < 4 then
        mX9_readPart_102 l0 l1 s0 M56
      else
        (gF 9 31 M56 l0).bind fun a96 =>
        (gK 9 M56 l0).bind fun _ =>
        (mX9_later l0 5 a96 M56).bind fun q99 =>
        mX9_readPart_102 l0 l1 s0 q99.2
noncomputable def mX9_readPart_18 (l0 l1 : Int) (M : Mem) : Option (Int × Mem) :=
  (gF 9 40 M l0).bind fun a19 =>
  if 40 ≤ a19 then
    mX9_readPart_36 l0 l1 40 M
  else
    (gF 9 40 M l0).bind fun a28 =>
    mX9_readPart_36 l0 l1 a28 M
noncomputable def mX9_readPart (l0 l1 : Int) (M : Mem) : Option (Int × Mem) :=
  (gF 9 40 M l0).bind fun a1 =>
  if a1 = 40 then
    (gF 9 31 M l0).bind fun a12 =>
    (gK 9 M l0).bind fun _ =>
    (mX9_later l0 4 a12 M).bind fun q15 =>
    mX9_readPart_18 l0 l1 q15.2
  else
    mX9_readPart_18 l0 l1 M
noncomputable def mX9_readText_182 (l0 s0 s1 s2 : Int) (M : Mem) : Option (Int × Mem) :=
  (aS 10 M s0 s1 s2).bind fun M182 =>
  (gF 9 3 M182 l0).bind fun a184 =>
  (aG 10 M182 a184 0).bind fun a188 =>
  if a188 = 0 then
    some (1, M182)
  else
    some (0, M182)
noncomputable def mX9_readText_150 (l0 l1 s0 s1 s2 : Int) (M : Mem) : Option (Int × Mem) :=
  (aS 10 M s0 s1 s2).bind fun M150 =>
  (gF 9 4 M150 l0).bind fun a152 =>
  if l1 = 0 then
    (gF 9 35 M150 l0).bind fun a161 =>
    mX9_readText_182 l0 a152 0 a161 M150
  else
    (gF 9 36 M150 l0).bind fun a168 =>
    if a168 ≤ 0 then
      mX9_readText_182 l0 a152 0 (-1) M150
    else
      (gF 9 37 M150 l0).bind fun a175 =>
      mX9_readText_182 l0 a152 0 a175 M150
noncomputable def mX9_readText_133 (l0 l1 : Int) (M : Mem) : Option (Int × Mem) :=
  (gF 9 3 M l0).bind fun a134 =>
  if l1 = 0 then
    mX9_readText_150 l0 l1 a134 0 1 M
  else
    (gF 9 36 M l0).bind fun a147 =>
    mX9_readText_150 l0 l1 a134 0 a147 M
noncomputable def mX9_readText_112 (l0 l1 : Int) (M : Mem) : Option (Int × Mem) :=
  if l1 = 0 then
    mX9_readText_133 l0 l1 M
  else
    (gF 9 32 M l0).bind fun a117 =>
    if a117 = 0 then
      mX9_readText_133 l0 l1 M
    else
      (gF 9 31 M l0).bind fun a125 =>
      (pF 9 35 M l0 a125).bind fun M128 =>
      mX9_readText_133 l0 0 M128
noncomputable def bX9_readText_74 (k74 : Int → Int → Mem → Option (Int × Mem)) (l0 l1 : Int) (M : Mem) : Option (Int × Mem) :=
  if l1 = 0 then
    mX9_readText_112 l0 l1 M
  else
    (gF 9 38 M l0).bind fun a79 =>
    if a79 ≤ 0 then
      mX9_readText_112 l0 l1 M
    else
      (gF 9 38 M l0).bind fun a87 =>
      (pF 9 38 M l0 (wI (a87 - 1))).bind fun M92 =>
      (gF 9 39 M92 l0).bind fun a97 =>
      (gF 9 38 M92 l0).bind fun a101 =>
      (aG 10 M92 a97 a101).bind fun a104 =>
      (gK 9 M92 l0).bind fun _ =>
      (mX9_readPart l0 a104 M92).bind fun q105 =>
      k74 l0 q105.1 q105.2
noncomputable def mX9_readText_74 : Nat → Int → Int → Mem → Option (Int × Mem)
  | 0 => fun _ _ _ => none
  | fu + 1 => bX9_readText_74 (mX9_readText_74 fu)
noncomputable def mX9_readText (l0 : Int) (M : Mem) : Option (Int × Mem) :=
  (gF 9 2 M l0).bind fun a2 =>
  (aG 10 M a2 0).bind fun a6 =>
  (pF 9 30 M l0 a6).bind fun M7 =>
  (gF 9 2 M7 l0).bind fun a11 =>
  (aS 10 M7 a11 0 0).bind fun M16 =>
  (gF 9 3 M16 l0).bind fun a18 =>
  (aS 10 M16 a18 0 0).bind fun M23 =>
  (gF 9 4 M23 l0).bind fun a25 =>
  (aS 10 M23 a25 0 (-1)).bind fun M30 =>
  (pF 9 29 M30 l0 0).bind fun M33 =>
  (pF 9 35 M33 l0 (-1)).bind fun M38 =>
  (pF 9 36 M38 l0 0).bind fun M43 =>
  (pF 9 37 M43 l0 0).bind fun M48 =>
  (pF 9 38 M48 l0 0).bind fun M53 =>
  (pF 9 40 M53 l0 0).bind fun M58 =>
  (gK 9 M58 l0).bind fun _ =>
  (mX9_wait l0 255 M58).bind fun q65 =>
  (gK 9 q65.2 l0).bind fun _ =>
  (mX9_token l0 q65.2).bind fun q69 =>
  mX9_readText_74 FU l0 1 q69.2
noncomputable def bX9_keepText_12 (k12 : Int → Int → Int → Mem → Option (Int × Mem)) (l0 l1 l2 : Int) (M : Mem) : Option (Int × Mem) :=
  (gF 9 40 M l0).bind fun a14 =>
  if a14 ≤ l2 then
    some (0, M)
  else
    (gF 9 16 M l0).bind fun a21 =>
    (gF 9 41 M l0).bind fun a31 =>
    (aG 10 M a31 l2).bind fun a35 =>
    (aS 10 M a21 (wI ((wI (40 * l1)) + l2)) a35).bind fun M36 =>
    (gF 9 17 M36 l0).bind fun a38 =>
    (gF 9 42 M36 l0).bind fun a48 =>
    (aG 10 M36 a48 l2).bind fun a52 =>
    (aS 10 M36 a38 (wI ((wI (40 * l1)) + l2)) a52).bind fun M53 =>
    (gF 9 18 M53 l0).bind fun a55 =>
    (gF 9 43 M53 l0).bind fun a65 =>
    (aG 10 M53 a65 l2).bind fun a69 =>
    (aS 10 M53 a55 (wI ((wI (40 * l1)) + l2)) a69).bind fun M70 =>
    (gF 9 19 M70 l0).bind fun a72 =>
    (gF 9 44 M70 l0).bind fun a82 =>
    (aG 10 M70 a82 l2).bind fun a86 =>
    (aS 10 M70 a72 (wI ((wI (40 * l1)) + l2)) a86).bind fun M87 =>
    k12 l0 l1 (wI (l2 + 1)) M87
noncomputable def mX9_keepText_12 : Nat → Int → Int → Int → Mem → Option (Int × Mem)
  | 0 => fun _ _ _ _ => none
  | fu + 1 => bX9_keepText_12 (mX9_keepText_12 fu)
noncomputable def mX9_keepText (l0 l1 : Int) (M : Mem) : Option (Int × Mem) :=
  (gF 9 15 M l0).bind fun a1 =>
  (gF 9 40 M l0).bind fun a6 =>
  (aS 10 M a1 l1 a6).bind fun M9 =>
  mX9_keepText_12 FU l0 l1 0 M9
noncomputable def mX9_story (l0 : Int) (M : Mem) : Option (Int × Mem) :=
  (pF 9 0 M l0 0).bind fun M2 =>
  (gF 9 12 M2 l0).bind fun a6 =>
  (aG 10 M2 a6 0).bind fun a10 =>
  if a10 = 8 then
    (gF 9 2 M2 l0).bind fun a17 =>
    (aS 10 M2 a17 0 0).bind fun M22 =>
    (gF 9 3 M22 l0).bind fun a24 =>
    (aS 10 M22 a24 0 0).bind fun M29 =>
    (gF 9 4 M29 l0).bind fun a31 =>
    (aS 10 M29 a31 0 (-1)).bind fun M36 =>
    some ((-2), M36)
  else
    (gK 9 M2 l0).bind fun _ =>
    (mX9_readText l0 M2).bind fun q41 =>
    if q41.1 = 0 then
      some ((-1), q41.2)
    else
      (gF 9 12 q41.2 l0).bind fun a50 =>
      (aG 10 q41.2 a50 0).bind fun a54 =>
      (gF 9 12 q41.2 l0).bind fun a57 =>
      (aG 10 q41.2 a57 0).bind fun a62 =>
      (aS 10 q41.2 a57 0 (wI (a62 + 1))).bind fun M65 =>
      (gK 9 M65 l0).bind fun _ =>
      (mX9_keepText l0 a54 M65).bind fun q68 =>
      (gF 9 13 q68.2 l0).bind fun a72 =>
      (gF 9 5 q68.2 l0).bind fun a77 =>
      (aG 10 q68.2 a77 0).bind fun a81 =>
      (aS 10 q68.2 a72 a54 a81).bind fun M82 =>
      (gF 9 14 M82 l0).bind fun a84 =>
      (aS 10 M82 a84 a54 (-1)).bind fun M89 =>
      some (a54, M89)
noncomputable def mX9_guess (l0 : Int) (M : Mem) : Option (Int × Mem) :=
  (pF 9 0 M l0 0).bind fun M2 =>
  (gK 9 M2 l0).bind fun _ =>
  (mX9_readText l0 M2).bind fun q6 =>
  if q6.1 = 0 then
    some ((-1), q6.2)
  else
    (gK 9 q6.2 l0).bind fun _ =>
    (mX9_keepText l0 8 q6.2).bind fun q17 =>
    (gF 9 40 q17.2 l0).bind fun a21 =>
    some (a21, q17.2)
noncomputable def mX9_fault (l0 l1 : Int) (M : Mem) : Option (Int × Mem) :=
  (pF 9 0 M l0 0).bind fun M2 =>
  if l1 = 0 then
    (gF 9 3 M2 l0).bind fun a10 =>
    (aG 10 M2 a10 0).bind fun a14 =>
    some (a14, M2)
  else
    if l1 = 1 then
      (gF 9 4 M2 l0).bind fun a24 =>
      (aG 10 M2 a24 0).bind fun a28 =>
      some (a28, M2)
    else
      some ((-1), M2)
noncomputable def mX9_strike (l0 l1 : Int) (M : Mem) : Option (Int × Mem) :=
  (pF 9 0 M l0 0).bind fun M2 =>
  (gF 9 12 M2 l0).bind fun a8 =>
  (aG 10 M2 a8 0).bind fun a12 =>
  (mX9_in l1 0 (wI (a12 - 1)) M2).bind fun q15 =>
  if q15.1 = 0 then
    some (0, q15.2)
  else
    (gF 9 14 q15.2 l0).bind fun a22 =>
    (aG 10 q15.2 a22 l1).bind fun a26 =>
    if a26 = (-1) then
      (gF 9 14 q15.2 l0).bind fun a34 =>
      (gF 9 5 q15.2 l0).bind fun a39 =>
      (aG 10 q15.2 a39 0).bind fun a43 =>
      (aS 10 q15.2 a34 l1 a43).bind fun M44 =>
      some (1, M44)
    else
      some (0, q15.2)
noncomputable def mX9_day (l0 l1 : Int) (M : Mem) : Option (Int × Mem) :=
  (pF 9 0 M l0 0).bind fun M2 =>
  (gF 9 5 M2 l0).bind fun a7 =>
  (aG 10 M2 a7 0).bind fun a11 =>
  (mX9_in l1 a11 999 M2).bind fun q15 =>
  if q15.1 = 0 then
    some (0, q15.2)
  else
    (gF 9 5 q15.2 l0).bind fun a24 =>
    (aS 10 q15.2 a24 0 l1).bind fun M29 =>
    some (1, M29)
noncomputable def mX9_view (l0 l1 : Int) (M : Mem) : Option (Int × Mem) :=
  (pF 9 0 M l0 0).bind fun M2 =>
  (gF 9 5 M2 l0).bind fun a8 =>
  (aG 10 M2 a8 0).bind fun a12 =>
  (mX9_in l1 (-1) a12 M2).bind fun q13 =>
  if q13.1 = 0 then
    some (0, q13.2)
  else
    (gF 9 6 q13.2 l0).bind fun a22 =>
    (aS 10 q13.2 a22 0 l1).bind fun M27 =>
    some (1, M27)
noncomputable def mX9_told_78 (k30 : Int → Int → Int → Int → Mem → Option (Int × Mem)) (l0 l1 l3 s0 s1 : Int) (M : Mem) : Option (Int × Mem) :=
  k30 l0 l1 (ior s0 s1) (wI (l3 + 1)) M
noncomputable def mX9_told_77 (k30 : Int → Int → Int → Int → Mem → Option (Int × Mem)) (l0 l1 l3 s0 : Int) (M : Mem) : Option (Int × Mem) :=
  mX9_told_78 k30 l0 l1 l3 s0 0 M
noncomputable def mX9_told_71 (k30 : Int → Int → Int → Int → Mem → Option (Int × Mem)) (l0 l1 l3 s0 : Int) (M : Mem) : Option (Int × Mem) :=
  mX9_told_78 k30 l0 l1 l3 s0 (ishl 1 l3) M
noncomputable def bX9_told_30 (k30 : Int → Int → Int → Int → Mem → Option (Int × Mem)) (l0 l1 l2 l3 : Int) (M : Mem) : Option (Int × Mem) :=
  (gF 9 12 M l0).bind fun a32 =>
  (aG 10 M a32 0).bind fun a36 =>
  if a36 ≤ l3 then
    some (l2, M)
  else
    (gF 9 13 M l0).bind fun a42 =>
    (aG 10 M a42 l3).bind fun a46 =>
    if l1 < a46 then
      mX9_told_77 k30 l0 l1 l3 l2 M
    else
      (gF 9 14 M l0).bind fun a52 =>
      (aG 10 M a52 l3).bind fun a56 =>
      if a56 = (-1) then
        mX9_told_71 k30 l0 l1 l3 l2 M
      else
        (gF 9 14 M l0).bind fun a62 =>
        (aG 10 M a62 l3).bind fun a66 =>
        if a66 ≤ l1 then
          mX9_told_77 k30 l0 l1 l3 l2 M
        else
          mX9_told_71 k30 l0 l1 l3 l2 M
noncomputable def mX9_told_30 : Nat → Int → Int → Int → Int → Mem → Option (Int × Mem)
  | 0 => fun _ _ _ _ _ => none
  | fu + 1 => bX9_told_30 (mX9_told_30 fu)
noncomputable def mX9_told_25 (l0 s0 : Int) (M : Mem) : Option (Int × Mem) :=
  mX9_told_30 FU l0 s0 0 0 M
noncomputable def mX9_told (l0 : Int) (M : Mem) : Option (Int × Mem) :=
  (gF 9 6 M l0).bind fun a1 =>
  (aG 10 M a1 0).bind fun a5 =>
  if a5 = (-1) then
    (gF 9 5 M l0).bind fun a11 =>
    (aG 10 M a11 0).bind fun a15 =>
    mX9_told_25 l0 a15 M
  else
    (gF 9 6 M l0).bind fun a20 =>
    (aG 10 M a20 0).bind fun a24 =>
    mX9_told_25 l0 a24 M
noncomputable def mX9_unit (l0 : Int) (M : Mem) : Option (Int × Mem) :=
  if l0 = 0 then
    some (1, M)
  else
    if l0 = 1 then
      some (3, M)
    else
      if l0 = 2 then
        some (9, M)
      else
        some (27, M)
noncomputable def mX9_valueIn (l0 l1 : Int) (M : Mem) : Option (Int × Mem) :=
  (mX9_unit l1 M).bind fun q2 =>
  (dQ l0 q2.1).bind fun a5 =>
  (dM a5 3).bind fun a7 =>
  some (a7, q2.2)
noncomputable def mX9_findJoined_95 (k33 : Int → Int → Mem → Option (Int × Mem)) (k40 : Int → Int → Int → Mem → Option (Int × Mem)) (l0 l2 l3 s0 s1 s2 : Int) (M : Mem) : Option (Int × Mem) :=
  (aSZ 11 M s0 s1 s2).bind fun M95 =>
  k40 l0 l2 (wI (l3 + 1)) M95
noncomputable def mX9_findJoined_94 (k33 : Int → Int → Mem → Option (Int × Mem)) (k40 : Int → Int → Int → Mem → Option (Int × Mem)) (l0 l2 l3 s0 s1 : Int) (M : Mem) : Option (Int × Mem) :=
  mX9_findJoined_95 k33 k40 l0 l2 l3 s0 s1 0 M
noncomputable def mX9_findJoined_90 (k33 : Int → Int → Mem → Option (Int × Mem)) (k40 : Int → Int → Int → Mem → Option (Int × Mem)) (l0 l2 l3 s0 s1 : Int) (M : Mem) : Option (Int × Mem) :=
  mX9_findJoined_95 k33 k40 l0 l2 l3 s0 s1 1 M
noncomputable def bX9_findJoined_40 (k33 : Int → Int → Mem → Option (Int × Mem)) (k40 : Int → Int → Int → Mem → Option (Int × Mem)) (l0 l2 l3 : Int) (M : Mem) : Option (Int × Mem) :=
  if 9 ≤ l3 then
    k33 l0 (wI (l2 + 1)) M
  else
    (gF 9 47 M l0).bind fun a47 =>
    (gF 9 47 M l0).bind fun a52 =>
    (aG 11 M a52 l3).bind fun a56 =>
    if a56 = 0 then
      (gF 9 47 M l0).bind fun a61 =>
      (dM l3 3).bind fun a67 =>
      (aG 11 M a61 (wI ((wI (l3 - a67)) + l2))).bind fun a71 =>
      if a71 = 0 then
        mX9_findJoined_94 k33 k40 l0 l2 l3 a47 l3 M
      else
        (gF 9 47 M l0).bind fun a76 =>
        (dM l3 3).bind fun a84 =>
        (aG 11 M a76 (wI ((wI (3 * l2)) + a84))).bind fun a86 =>
        if a86 = 0 then
          mX9_findJoined_94 k33 k40 l0 l2 l3 a47 l3 M
        else
          mX9_findJoined_90 k33 k40 l0 l2 l3 a47 l3 M
    else
      mX9_findJoined_90 k33 k40 l0 l2 l3 a47 l3 M
noncomputable def mX9_findJoined_40 (k33 : Int → Int → Mem → Option (Int × Mem)) : Nat → Int → Int → Int → Mem → Option (Int × Mem)
  | 0 => fun _ _ _ _ => none
  | fu + 1 => bX9_findJoined_40 k33 (mX9_findJoined_40 k33 fu)
noncomputable def bX9_findJoined_33 (k33 : Int → Int → Mem → Option (Int × Mem)) (l0 l2 : Int) (M : Mem) : Option (Int × Mem) :=
  if 3 ≤ l2 then
    some (0, M)
  else
    mX9_findJoined_40 k33 FU l0 l2 0 M
noncomputable def mX9_findJoined_33 : Nat → Int → Int → Mem → Option (Int × Mem)
  | 0 => fun _ _ _ => none
  | fu + 1 => bX9_findJoined_33 (mX9_findJoined_33 fu)
noncomputable def bX9_findJoined_2 (k2 : Int → Int → Int → Mem → Option (Int × Mem)) (l0 l1 l2 : Int) (M : Mem) : Option (Int × Mem) :=
  if 9 ≤ l2 then
    mX9_findJoined_33 FU l0 0 M
  else
    (gF 9 47 M l0).bind fun a9 =>
    (dQ l2 3).bind fun a17 =>
    (dM l2 3).bind fun a20 =>
    (gK 9 M l0).bind fun _ =>
    (mX9_isSo l0 l1 a17 a20 M).bind fun q21 =>
    (aSZ 11 q21.2 a9 l2 q21.1).bind fun M24 =>
    k2 l0 l1 (wI (l2 + 1)) M24
noncomputable def mX9_findJoined_2 : Nat → Int → Int → Int → Mem → Option (Int × Mem)
  | 0 => fun _ _ _ _ => none
  | fu + 1 => bX9_findJoined_2 (mX9_findJoined_2 fu)
noncomputable def mX9_findJoined (l0 l1 : Int) (M : Mem) : Option (Int × Mem) :=
  mX9_findJoined_2 FU l0 l1 0 M
noncomputable def mX9_isTree_79 (k9 : Int → Int → Int → Int → Mem → Option (Int × Mem)) (l0 l1 l3 s0 : Int) (M : Mem) : Option (Int × Mem) :=
  k9 l0 l1 s0 (wI (l3 + 1)) M
noncomputable def mX9_isTree_78 (k9 : Int → Int → Int → Int → Mem → Option (Int × Mem)) (l0 l1 l3 : Int) (M : Mem) : Option (Int × Mem) :=
  mX9_isTree_79 k9 l0 l1 l3 0 M
noncomputable def mX9_isTree_44 (k9 : Int → Int → Int → Int → Mem → Option (Int × Mem)) (k20 : Int → Int → Int → Int → Int → Int → Mem → Option (Int × Mem)) (l0 l1 l2 l3 l5 s0 s1 : Int) (M : Mem) : Option (Int × Mem) :=
  k20 l0 l1 l2 l3 (wI (s0 + s1)) (wI (l5 + 1)) M
noncomputable def bX9_isTree_20 (k9 : Int → Int → Int → Int → Mem → Option (Int × Mem)) (k20 : Int → Int → Int → Int → Int → Int → Mem → Option (Int × Mem)) (l0 l1 l2 l3 l4 l5 : Int) (M : Mem) : Option (Int × Mem) :=
  if 3 ≤ l5 then
    if l2 = 0 then
      mX9_isTree_78 k9 l0 l1 l3 M
    else
      if 1 < l4 then
        mX9_isTree_78 k9 l0 l1 l3 M
      else
        (gF 9 47 M l0).bind fun a64 =>
        (aG 11 M a64 (wI (4 * l3))).bind fun a70 =>
        if a70 = 0 then
          mX9_isTree_79 k9 l0 l1 l3 1 M
        else
          mX9_isTree_78 k9 l0 l1 l3 M
  else
    (gK 9 M l0).bind fun _ =>
    (mX9_isSo l0 l1 l3 l5 M).bind fun q33 =>
    if q33.1 = 0 then
      mX9_isTree_44 k9 k20 l0 l1 l2 l3 l5 l4 0 q33.2
    else
      mX9_isTree_44 k9 k20 l0 l1 l2 l3 l5 l4 1 q33.2
noncomputable def mX9_isTree_20 (k9 : Int → Int → Int → Int → Mem → Option (Int × Mem)) : Nat → Int → Int → Int → Int → Int → Int → Mem → Option (Int × Mem)
  | 0 => fun _ _ _ _ _ _ _ => none
  | fu + 1 => bX9_isTree_20 k9 (mX9_isTree_20 k9 fu)
noncomputable def bX9_isTree_9 (k9 : Int → Int → Int → Int → Mem → Option (Int × Mem)) (l0 l1 l2 l3 : Int) (M : Mem) : Option (Int × Mem) :=
  if 3 ≤ l3 then
    (zR l2).bind fun z =>
    some (z, M)
  else
    mX9_isTree_20 k9 FU l0 l1 l2 l3 0 0 M
noncomputable def mX9_isTree_9 : Nat → Int → Int → Int → Int → Mem → Option (Int × Mem)
  | 0 => fun _ _ _ _ _ => none
  | fu + 1 => bX9_isTree_9 (mX9_isTree_9 fu)
noncomputable def mX9_isTree (l0 l1 : Int) (M : Mem) : Option (Int × Mem) :=
  (gK 9 M l0).bind fun _ =>
  (mX9_findJoined l0 l1 M).bind fun q2 =>
  mX9_isTree_9 FU l0 l1 1 0 q2.2
noncomputable def mX9_leaf_216 (k51 : Int → Int → Int → Int → Int → Mem → Option (Int × Mem)) (l0 l1 l2 l3 l4 l5 : Int) (M : Mem) : Option (Int × Mem) :=
  (gF 9 45 M l0).bind fun a217 =>
  (gF 9 46 M l0).bind fun a223 =>
  (aSZ 11 M a217 (wI ((wI (81 * a223)) + l4)) l5).bind fun M232 =>
  k51 l0 l1 l2 l3 (wI (l4 + 1)) M232
noncomputable def mX9_leaf_97 (k51 : Int → Int → Int → Int → Int → Mem → Option (Int × Mem)) (l0 l1 l2 l3 l4 s0 : Int) (M : Mem) : Option (Int × Mem) :=
  mX9_leaf_216 k51 l0 l1 l2 l3 l4 s0 M
noncomputable def bX9_leaf_51 (k51 : Int → Int → Int → Int → Int → Mem → Option (Int × Mem)) (l0 l1 l2 l3 l4 : Int) (M : Mem) : Option (Int × Mem) :=
  if 81 ≤ l4 then
    (gF 9 46 M l0).bind fun a241 =>
    (pF 9 46 M l0 (wI (a241 + 1))).bind fun M246 =>
    some (0, M246)
  else
    if l2 = 8 then
      (gF 9 17 M l0).bind fun a70 =>
      (aG 10 M a70 l1).bind fun a74 =>
      (mX9_valueIn l4 a74 M).bind fun q75 =>
      (gF 9 18 q75.2 l0).bind fun a81 =>
      (aG 10 q75.2 a81 l1).bind fun a85 =>
      (mX9_valueIn l4 a85 q75.2).bind fun q86 =>
      if q75.1 = q86.1 then
        mX9_leaf_97 k51 l0 l1 l2 l3 l4 1 q86.2
      else
        mX9_leaf_97 k51 l0 l1 l2 l3 l4 0 q86.2
    else
      if l2 = 9 then
        (gF 9 47 M l0).bind fun a109 =>
        (gF 9 18 M l0).bind fun a116 =>
        (aG 10 M a116 l1).bind fun a120 =>
        (mX9_valueIn l4 a120 M).bind fun q121 =>
        (gF 9 19 q121.2 l0).bind fun a128 =>
        (aG 10 q121.2 a128 l1).bind fun a132 =>
        (mX9_valueIn l4 a132 q121.2).bind fun q133 =>
        (aG 11 q133.2 a109 (wI ((wI (3 * q121.1)) + q133.1))).bind fun a137 =>
        mX9_leaf_216 k51 l0 l1 l2 l3 l4 a137 q133.2
      else
        if l2 = 11 then
          (gF 9 17 M l0).bind fun a151 =>
          (aG 10 M a151 l1).bind fun a155 =>
          (gF 9 18 M l0).bind fun a159 =>
          (aG 10 M a159 l1).bind fun a163 =>
          (mX9_valueIn l4 a163 M).bind fun q164 =>
          (gK 9 q164.2 l0).bind fun _ =>
          (mX9_isSo l0 a155 q164.1 0 q164.2).bind fun q168 =>
          mX9_leaf_216 k51 l0 l1 l2 l3 l4 q168.1 q168.2
        else
          if l2 = 12 then
            (gF 9 17 M l0).bind fun a184 =>
            (aG 10 M a184 l1).bind fun a188 =>
            (gF 9 18 M l0).bind fun a192 =>
            (aG 10 M a192 l1).bind fun a196 =>
            (mX9_valueIn l4 a196 M).bind fun q197 =>
            (gF 9 19 q197.2 l0).bind fun a203 =>
            (aG 10 q197.2 a203 l1).bind fun a207 =>
            (mX9_valueIn l4 a207 q197.2).bind fun q208 =>
            (gK 9 q208.2 l0).bind fun _ =>
            (mX9_isSo l0 a188 q197.1 q208.1 q208.2).bind fun q211 =>
            mX9_leaf_216 k51 l0 l1 l2 l3 l4 q211.1 q211.2
          else
            mX9_leaf_216 k51 l0 l1 l2 l3 l4 l3 M
noncomputable def mX9_leaf_51 : Nat → Int → Int → Int → Int → Int → Mem → Option (Int × Mem)
  | 0 => fun _ _ _ _ _ _ => none
  | fu + 1 => bX9_leaf_51 (mX9_leaf_51 fu)
noncomputable def mX9_leaf_48 (l0 l1 l2 l3 : Int) (M : Mem) : Option (Int × Mem) :=
  mX9_leaf_51 FU l0 l1 l2 l3 0 M
noncomputable def mX9_leaf_31 (l0 l1 l2 s0 : Int) (M : Mem) : Option (Int × Mem) :=
  if l2 = 9 then
    (gF 9 17 M l0).bind fun a40 =>
    (aG 10 M a40 l1).bind fun a44 =>
    (gK 9 M l0).bind fun _ =>
    (mX9_findJoined l0 a44 M).bind fun q45 =>
    mX9_leaf_48 l0 l1 l2 s0 q45.2
  else
    mX9_leaf_48 l0 l1 l2 s0 M
noncomputable def mX9_leaf_30 (l0 l1 l2 : Int) (M : Mem) : Option (Int × Mem) :=
  mX9_leaf_31 l0 l1 l2 0 M
noncomputable def mX9_leaf (l0 l1 : Int) (M : Mem) : Option (Int × Mem) :=
  (gF 9 16 M l0).bind fun a1 =>
  (aG 10 M a1 l1).bind fun a5 =>
  if a5 = 10 then
    (gF 9 17 M l0).bind fun a15 =>
    (aG 10 M a15 l1).bind fun a19 =>
    (gK 9 M l0).bind fun _ =>
    (mX9_isTree l0 a19 M).bind fun q20 =>
    if q20.1 = 0 then
      mX9_leaf_30 l0 l1 a5 q20.2
    else
      mX9_leaf_31 l0 l1 a5 1 q20.2
  else
    mX9_leaf_30 l0 l1 a5 M
noncomputable def mX9_bind_226 (k36 : Int → Int → Int → Int → Int → Int → Mem → Option (Int × Mem)) (l0 l1 l2 l3 l4 l5 : Int) (M : Mem) : Option (Int × Mem) :=
  k36 l0 l1 l2 l3 l4 (wI (l5 + 1)) M
noncomputable def bX9_bind_197 (k36 : Int → Int → Int → Int → Int → Int → Mem → Option (Int × Mem)) (k197 : Int → Int → Int → Int → Int → Int → Int → Int → Mem → Option (Int × Mem)) (l0 l1 l2 l3 l4 l5 l7 l8 : Int) (M : Mem) : Option (Int × Mem) :=
  if 3 ≤ l8 then
    mX9_bind_226 k36 l0 l1 l2 l3 l4 l5 M
  else
    (gF 9 45 M l0).bind fun a204 =>
    (aSZ 11 M a204 (wI ((wI (l4 + l5)) + (wI (l8 * l2)))) l7).bind fun M219 =>
    k197 l0 l1 l2 l3 l4 l5 l7 (wI (l8 + 1)) M219
noncomputable def mX9_bind_197 (k36 : Int → Int → Int → Int → Int → Int → Mem → Option (Int × Mem)) : Nat → Int → Int → Int → Int → Int → Int → Int → Int → Mem → Option (Int × Mem)
  | 0 => fun _ _ _ _ _ _ _ _ _ => none
  | fu + 1 => bX9_bind_197 k36 (mX9_bind_197 k36 fu)
noncomputable def mX9_bind_192 (k36 : Int → Int → Int → Int → Int → Int → Mem → Option (Int × Mem)) (l0 l1 l2 l3 l4 l5 s0 : Int) (M : Mem) : Option (Int × Mem) :=
  mX9_bind_197 k36 FU l0 l1 l2 l3 l4 l5 s0 0 M
noncomputable def mX9_bind_92 (k36 : Int → Int → Int → Int → Int → Int → Mem → Option (Int × Mem)) (k61 : Int → Int → Int → Int → Int → Int → Int → Int → Mem → Option (Int × Mem)) (l0 l1 l2 l3 l4 l5 l7 s0 s1 : Int) (M : Mem) : Option (Int × Mem) :=
  k61 l0 l1 l2 l3 l4 l5 (wI (s0 + s1)) (wI (l7 + 1)) M
noncomputable def bX9_bind_61 (k36 : Int → Int → Int → Int → Int → Int → Mem → Option (Int × Mem)) (k61 : Int → Int → Int → Int → Int → Int → Int → Int → Mem → Option (Int × Mem)) (l0 l1 l2 l3 l4 l5 l6 l7 : Int) (M : Mem) : Option (Int × Mem) :=
  if l3 ≤ l7 then
    (gF 9 16 M l0).bind fun a102 =>
    (aG 10 M a102 l1).bind fun a106 =>
    if a106 = 0 then
      if l6 = l3 then
        mX9_bind_192 k36 l0 l1 l2 l3 l4 l5 1 M
      else
        mX9_bind_192 k36 l0 l1 l2 l3 l4 l5 0 M
    else
      (gF 9 16 M l0).bind fun a125 =>
      (aG 10 M a125 l1).bind fun a129 =>
      if a129 = 1 then
        if l6 ≤ 0 then
          mX9_bind_192 k36 l0 l1 l2 l3 l4 l5 0 M
        else
          mX9_bind_192 k36 l0 l1 l2 l3 l4 l5 1 M
      else
        (gF 9 16 M l0).bind fun a148 =>
        (aG 10 M a148 l1).bind fun a152 =>
        if a152 = 2 then
          (gF 9 19 M l0).bind fun a160 =>
          (aG 10 M a160 l1).bind fun a164 =>
          if l6 < a164 then
            mX9_bind_192 k36 l0 l1 l2 l3 l4 l5 0 M
          else
            mX9_bind_192 k36 l0 l1 l2 l3 l4 l5 1 M
        else
          (gF 9 19 M l0).bind fun a179 =>
          (aG 10 M a179 l1).bind fun a183 =>
          if a183 < l6 then
            mX9_bind_192 k36 l0 l1 l2 l3 l4 l5 0 M
          else
            mX9_bind_192 k36 l0 l1 l2 l3 l4 l5 1 M
  else
    (gF 9 45 M l0).bind fun a70 =>
    (aG 11 M a70 (wI ((wI (l4 + l5)) + (wI (l7 * l2))))).bind fun a83 =>
    if a83 = 0 then
      mX9_bind_92 k36 k61 l0 l1 l2 l3 l4 l5 l7 l6 0 M
    else
      mX9_bind_92 k36 k61 l0 l1 l2 l3 l4 l5 l7 l6 1 M
noncomputable def mX9_bind_61 (k36 : Int → Int → Int → Int → Int → Int → Mem → Option (Int × Mem)) : Nat → Int → Int → Int → Int → Int → Int → Int → Int → Mem → Option (Int × Mem)
  | 0 => fun _ _ _ _ _ _ _ _ _ => none
  | fu + 1 => bX9_bind_61 k36 (mX9_bind_61 k36 fu)
noncomputable def bX9_bind_36 (k36 : Int → Int → Int → Int → Int → Int → Mem → Option (Int × Mem)) (l0 l1 l2 l3 l4 l5 : Int) (M : Mem) : Option (Int × Mem) :=
  if 81 ≤ l5 then
    some (0, M)
  else
    (dQ l5 l2).bind fun a46 =>
    (dM a46 3).bind fun a48 =>
    if a48 ≤ 0 then
      mX9_bind_61 k36 FU l0 l1 l2 l3 l4 l5 0 0 M
    else
      mX9_bind_226 k36 l0 l1 l2 l3 l4 l5 M
noncomputable def mX9_bind_36 : Nat → Int → Int → Int → Int → Int → Int → Mem → Option (Int × Mem)
  | 0 => fun _ _ _ _ _ _ _ => none
  | fu + 1 => bX9_bind_36 (mX9_bind_36 fu)
noncomputable def mX9_bind (l0 l1 : Int) (M : Mem) : Option (Int × Mem) :=
  (gF 9 17 M l0).bind fun a1 =>
  (aG 10 M a1 l1).bind fun a5 =>
  (mX9_unit a5 M).bind fun q6 =>
  (gF 9 26 q6.2 l0).bind fun a11 =>
  (gF 9 18 q6.2 l0).bind fun a15 =>
  (aG 10 q6.2 a15 l1).bind fun a19 =>
  (aG 10 q6.2 a11 a19).bind fun a20 =>
  (gF 9 46 q6.2 l0).bind fun a25 =>
  (some (wI (81 * (wI (a25 - 1))))).bind fun b31 =>
  mX9_bind_36 FU l0 l1 q6.1 a20 b31 0 q6.2
noncomputable def mX9_join_183 (k78 : Int → Int → Int → Int → Mem → Option (Int × Mem)) (l0 l2 l3 l4 s0 s1 s2 : Int) (M : Mem) : Option (Int × Mem) :=
  (aSZ 11 M s0 s1 s2).bind fun M183 =>
  k78 l0 l2 l3 (wI (l4 + 1)) M183
noncomputable def mX9_join_178 (k78 : Int → Int → Int → Int → Mem → Option (Int × Mem)) (l0 l2 l3 l4 s0 s1 : Int) (M : Mem) : Option (Int × Mem) :=
  mX9_join_183 k78 l0 l2 l3 l4 s0 s1 1 M
noncomputable def mX9_join_160 (k78 : Int → Int → Int → Int → Mem → Option (Int × Mem)) (l0 l2 l3 l4 s0 s1 : Int) (M : Mem) : Option (Int × Mem) :=
  mX9_join_183 k78 l0 l2 l3 l4 s0 s1 1 M
noncomputable def mX9_join_140 (k78 : Int → Int → Int → Int → Mem → Option (Int × Mem)) (l0 l2 l3 l4 s0 s1 : Int) (M : Mem) : Option (Int × Mem) :=
  mX9_join_183 k78 l0 l2 l3 l4 s0 s1 0 M
noncomputable def bX9_join_78 (k78 : Int → Int → Int → Int → Mem → Option (Int × Mem)) (l0 l2 l3 l4 : Int) (M : Mem) : Option (Int × Mem) :=
  if 81 ≤ l4 then
    some (0, M)
  else
    (gF 9 45 M l0).bind fun a86 =>
    (aG 11 M a86 (wI (l3 + l4))).bind fun a93 =>
    (gF 9 45 M l0).bind fun a97 =>
    (aG 11 M a97 (wI ((wI (l3 - 81)) + l4))).bind fun a107 =>
    (gF 9 45 M l0).bind fun a111 =>
    if l2 = 5 then
      if a93 = 0 then
        mX9_join_140 k78 l0 l2 l3 l4 a111 (wI ((wI (l3 - 81)) + l4)) M
      else
        if a107 = 0 then
          mX9_join_140 k78 l0 l2 l3 l4 a111 (wI ((wI (l3 - 81)) + l4)) M
        else
          mX9_join_183 k78 l0 l2 l3 l4 a111 (wI ((wI (l3 - 81)) + l4)) 1 M
    else
      if l2 = 6 then
        if a93 = 0 then
          if a107 = 0 then
            mX9_join_183 k78 l0 l2 l3 l4 a111 (wI ((wI (l3 - 81)) + l4)) 0 M
          else
            mX9_join_160 k78 l0 l2 l3 l4 a111 (wI ((wI (l3 - 81)) + l4)) M
        else
          mX9_join_160 k78 l0 l2 l3 l4 a111 (wI ((wI (l3 - 81)) + l4)) M
      else
        if a93 = 0 then
          mX9_join_178 k78 l0 l2 l3 l4 a111 (wI ((wI (l3 - 81)) + l4)) M
        else
          if a107 = 0 then
            mX9_join_183 k78 l0 l2 l3 l4 a111 (wI ((wI (l3 - 81)) + l4)) 0 M
          else
            mX9_join_178 k78 l0 l2 l3 l4 a111 (wI ((wI (l3 - 81)) + l4)) M
noncomputable def mX9_join_78 : Nat → Int → Int → Int → Int → Mem → Option (Int × Mem)
  | 0 => fun _ _ _ _ _ => none
  | fu + 1 => bX9_join_78 (mX9_join_78 fu)
noncomputable def mX9_join_57 (k25 : Int → Int → Int → Mem → Option (Int × Mem)) (l0 l3 l4 s0 s1 s2 : Int) (M : Mem) : Option (Int × Mem) :=
  (aSZ 11 M s0 s1 s2).bind fun M57 =>
  k25 l0 l3 (wI (l4 + 1)) M57
noncomputable def bX9_join_25 (k25 : Int → Int → Int → Mem → Option (Int × Mem)) (l0 l3 l4 : Int) (M : Mem) : Option (Int × Mem) :=
  if 81 ≤ l4 then
    some (0, M)
  else
    (gF 9 45 M l0).bind fun a33 =>
    (gF 9 45 M l0).bind fun a41 =>
    (aG 11 M a41 (wI (l3 + l4))).bind fun a48 =>
    if a48 = 0 then
      mX9_join_57 k25 l0 l3 l4 a33 (wI (l3 + l4)) 1 M
    else
      mX9_join_57 k25 l0 l3 l4 a33 (wI (l3 + l4)) 0 M
noncomputable def mX9_join_25 : Nat → Int → Int → Int → Mem → Option (Int × Mem)
  | 0 => fun _ _ _ _ => none
  | fu + 1 => bX9_join_25 (mX9_join_25 fu)
noncomputable def mX9_join (l0 l1 : Int) (M : Mem) : Option (Int × Mem) :=
  (gF 9 16 M l0).bind fun a1 =>
  (aG 10 M a1 l1).bind fun a5 =>
  (gF 9 46 M l0).bind fun a10 =>
  (some (wI (81 * (wI (a10 - 1))))).bind fun b16 =>
  if a5 = 4 then
    mX9_join_25 FU l0 b16 0 M
  else
    (gF 9 46 M l0).bind fun a67 =>
    (pF 9 46 M l0 (wI (a67 - 1))).bind fun M72 =>
    mX9_join_78 FU l0 a5 b16 0 M72
noncomputable def mX9_work_74 (k14 : Int → Int → Int → Int → Mem → Option (Int × Mem)) (l0 l1 l2 l3 : Int) (M : Mem) : Option (Int × Mem) :=
  k14 l0 l1 l2 (wI (l3 + (-1))) M
noncomputable def bX9_work_14 (k14 : Int → Int → Int → Int → Mem → Option (Int × Mem)) (l0 l1 l2 l3 : Int) (M : Mem) : Option (Int × Mem) :=
  if l3 < l2 then
    some (0, M)
  else
    (some (wI ((wI (40 * l1)) + l3))).bind fun b25 =>
    (gF 9 16 M l0).bind fun a28 =>
    (aG 10 M a28 b25).bind fun a33 =>
    if a33 < 8 then
      (gF 9 16 M l0).bind fun a49 =>
      (aG 10 M a49 b25).bind fun a54 =>
      if 3 < a54 then
        (gK 9 M l0).bind fun _ =>
        (mX9_join l0 b25 M).bind fun q71 =>
        mX9_work_74 k14 l0 l1 l2 l3 q71.2
      else
        (gK 9 M l0).bind fun _ =>
        (mX9_bind l0 b25 M).bind fun q62 =>
        mX9_work_74 k14 l0 l1 l2 l3 q62.2
    else
      (gK 9 M l0).bind fun _ =>
      (mX9_leaf l0 b25 M).bind fun q42 =>
      mX9_work_74 k14 l0 l1 l2 l3 q42.2
noncomputable def mX9_work_14 : Nat → Int → Int → Int → Int → Mem → Option (Int × Mem)
  | 0 => fun _ _ _ _ _ => none
  | fu + 1 => bX9_work_14 (mX9_work_14 fu)
noncomputable def mX9_work (l0 l1 l2 : Int) (M : Mem) : Option (Int × Mem) :=
  (pF 9 46 M l0 0).bind fun M2 =>
  (gF 9 15 M2 l0).bind fun a6 =>
  (aG 10 M2 a6 l1).bind fun a10 =>
  mX9_work_14 FU l0 l1 l2 (wI (a10 - 1)) M2
noncomputable def mX9_means (l0 l1 : Int) (M : Mem) : Option (Int × Mem) :=
  (gK 9 M l0).bind fun _ =>
  (mX9_work l0 l1 0 M).bind fun q3 =>
  (gF 9 45 q3.2 l0).bind fun a7 =>
  (aG 11 q3.2 a7 0).bind fun a11 =>
  (zR a11).bind fun z =>
  some (z, q3.2)
noncomputable def mX9_so_53 (l0 l2 : Int) (M : Mem) : Option (Int × Mem) :=
  (gK 9 M l0).bind fun _ =>
  (mX9_bringWorld l0 M).bind fun q54 =>
  (gK 9 q54.2 l0).bind fun _ =>
  (mX9_means l0 l2 q54.2).bind fun q59 =>
  if q59.1 = 0 then
    some (0, q59.2)
  else
    some (1, q59.2)
noncomputable def mX9_so_16 (l0 l1 s0 : Int) (M : Mem) : Option (Int × Mem) :=
  if l1 = (-1) then
    (gF 9 15 M l0).bind fun a23 =>
    (aG 10 M a23 8).bind fun a28 =>
    if a28 = 0 then
      some ((-1), M)
    else
      mX9_so_53 l0 s0 M
  else
    (gF 9 12 M l0).bind fun a38 =>
    (aG 10 M a38 0).bind fun a42 =>
    (mX9_in l1 0 (wI (a42 - 1)) M).bind fun q45 =>
    if q45.1 = 0 then
      some ((-1), q45.2)
    else
      mX9_so_53 l0 s0 q45.2
noncomputable def mX9_so (l0 l1 : Int) (M : Mem) : Option (Int × Mem) :=
  (pF 9 0 M l0 0).bind fun M2 =>
  if l1 = (-1) then
    mX9_so_16 l0 l1 8 M2
  else
    mX9_so_16 l0 l1 l1 M2
noncomputable def mX9_breaks_234 (k103 : Int → Int → Int → Int → Int → Int → Mem → Option (Int × Mem)) (k128 : Int → Int → Int → Int → Int → Int → Int → Int → Int → Int → Int → Mem → Option (Int × Mem)) (l0 l1 l2 l3 l4 l5 l6 l7 l9 l10 s0 : Int) (M : Mem) : Option (Int × Mem) :=
  k128 l0 l1 l2 l3 l4 l5 l6 l7 s0 l9 (wI (l10 + (-1))) M
noncomputable def mX9_breaks_204 (k103 : Int → Int → Int → Int → Int → Int → Mem → Option (Int × Mem)) (k128 : Int → Int → Int → Int → Int → Int → Int → Int → Int → Int → Int → Mem → Option (Int × Mem)) (l0 l1 l2 l3 l4 l5 l6 l8 l9 l10 l11 l13 s0 s1 : Int) (M : Mem) : Option (Int × Mem) :=
  (gF 9 17 M l0).bind fun a211 =>
  (aG 10 M a211 l11).bind fun a216 =>
  if l10 = l2 then
    mX9_breaks_234 k103 k128 l0 l1 l2 l3 l4 l5 l6 (wI (s0 + s1)) (ior l9 (ishl 1 a216)) l10 l13 M
  else
    mX9_breaks_234 k103 k128 l0 l1 l2 l3 l4 l5 l6 (wI (s0 + s1)) (ior l9 (ishl 1 a216)) l10 l8 M
noncomputable def bX9_breaks_128 (k103 : Int → Int → Int → Int → Int → Int → Mem → Option (Int × Mem)) (k128 : Int → Int → Int → Int → Int → Int → Int → Int → Int → Int → Int → Mem → Option (Int × Mem)) (l0 l1 l2 l3 l4 l5 l6 l7 l8 l9 l10 : Int) (M : Mem) : Option (Int × Mem) :=
  if l10 < 0 then
    (gF 9 45 M l0).bind fun a243 =>
    (aG 11 M a243 l7).bind fun a248 =>
    if a248 = 0 then
      some (l8, M)
    else
      k103 l0 l1 l2 l3 l4 (wI (l5 + 1)) M
  else
    (some (wI ((wI (40 * l1)) + l10))).bind fun b140 =>
    (gF 9 26 M l0).bind fun a143 =>
    (gF 9 18 M l0).bind fun a147 =>
    (aG 10 M a147 b140).bind fun a152 =>
    (aG 10 M a143 a152).bind fun a153 =>
    (dM l6 a153).bind fun a160 =>
    (dQ l6 a153).bind fun a167 =>
    (gF 9 17 M l0).bind fun a175 =>
    (aG 10 M a175 b140).bind fun a180 =>
    if iand (ishr l9 a180) 1 = 0 then
      (gF 9 17 M l0).bind fun a190 =>
      (aG 10 M a190 b140).bind fun a195 =>
      (mX9_unit a195 M).bind fun q196 =>
      mX9_breaks_204 k103 k128 l0 l1 l2 l3 l4 l5 a167 l8 l9 l10 b140 a160 l7 (wI (a160 * q196.1)) q196.2
    else
      mX9_breaks_204 k103 k128 l0 l1 l2 l3 l4 l5 a167 l8 l9 l10 b140 a160 l7 0 M
noncomputable def mX9_breaks_128 (k103 : Int → Int → Int → Int → Int → Int → Mem → Option (Int × Mem)) : Nat → Int → Int → Int → Int → Int → Int → Int → Int → Int → Int → Int → Mem → Option (Int × Mem)
  | 0 => fun _ _ _ _ _ _ _ _ _ _ _ _ => none
  | fu + 1 => bX9_breaks_128 k103 (mX9_breaks_128 k103 fu)
noncomputable def bX9_breaks_103 (k103 : Int → Int → Int → Int → Int → Int → Mem → Option (Int × Mem)) (l0 l1 l2 l3 l4 l5 : Int) (M : Mem) : Option (Int × Mem) :=
  if l4 ≤ l5 then
    some ((-1), M)
  else
    mX9_breaks_128 k103 FU l0 l1 l2 l3 l4 l5 l5 0 0 0 (wI (l3 - 1)) M
noncomputable def mX9_breaks_103 : Nat → Int → Int → Int → Int → Int → Int → Mem → Option (Int × Mem)
  | 0 => fun _ _ _ _ _ _ _ => none
  | fu + 1 => bX9_breaks_103 (mX9_breaks_103 fu)
noncomputable def bX9_breaks_32 (k32 : Int → Int → Int → Int → Int → Mem → Option (Int × Mem)) (l0 l1 l2 l3 l4 : Int) (M : Mem) : Option (Int × Mem) :=
  (gF 9 16 M l0).bind fun a33 =>
  (aG 10 M a33 (wI ((wI (40 * l1)) + l3))).bind fun a42 =>
  if a42 = 0 then
    (gF 9 26 M l0).bind fun a49 =>
    (gF 9 18 M l0).bind fun a53 =>
    (aG 10 M a53 (wI ((wI (40 * l1)) + l3))).bind fun a62 =>
    (aG 10 M a49 a62).bind fun a63 =>
    k32 l0 l1 l2 (wI (l3 + 1)) (wI (l4 * a63)) M
  else
    (mX9_in l2 0 (wI (l3 - 1)) M).bind fun q78 =>
    if q78.1 = 0 then
      some ((-1), q78.2)
    else
      (gK 9 q78.2 l0).bind fun _ =>
      (mX9_means l0 l1 q78.2).bind fun q86 =>
      if q86.1 = 0 then
        (gK 9 q86.2 l0).bind fun _ =>
        (mX9_work l0 l1 l3 q86.2).bind fun q97 =>
        mX9_breaks_103 FU l0 l1 l2 l3 l4 0 q97.2
      else
        some ((-1), q86.2)
noncomputable def mX9_breaks_32 : Nat → Int → Int → Int → Int → Int → Mem → Option (Int × Mem)
  | 0 => fun _ _ _ _ _ _ => none
  | fu + 1 => bX9_breaks_32 (mX9_breaks_32 fu)
noncomputable def mX9_breaks (l0 l1 l2 : Int) (M : Mem) : Option (Int × Mem) :=
  (pF 9 0 M l0 0).bind fun M2 =>
  (gF 9 12 M2 l0).bind fun a8 =>
  (aG 10 M2 a8 0).bind fun a12 =>
  (mX9_in l1 0 (wI (a12 - 1)) M2).bind fun q15 =>
  if q15.1 = 0 then
    some ((-1), q15.2)
  else
    (gK 9 q15.2 l0).bind fun _ =>
    (mX9_bringWorld l0 q15.2).bind fun q24 =>
    mX9_breaks_32 FU l0 l1 l2 0 1 q24.2
noncomputable def mX9_layWorld_34 (k7 : Int → Int → Int → Int → Mem → Option (Int × Mem)) (l0 l1 l2 l3 s0 s1 s2 : Int) (M : Mem) : Option (Int × Mem) :=
  (aSZ 11 M s0 s1 s2).bind fun M34 =>
  k7 l0 l1 l2 (wI (l3 + 1)) M34
noncomputable def bX9_layWorld_7 (k7 : Int → Int → Int → Int → Mem → Option (Int × Mem)) (l0 l1 l2 l3 : Int) (M : Mem) : Option (Int × Mem) :=
  if l2 ≤ l3 then
    some (0, M)
  else
    (gF 9 28 M l0).bind fun a13 =>
    if iand (ishr l1 (wI ((wI (l2 - 1)) - l3))) 1 = 0 then
      mX9_layWorld_34 k7 l0 l1 l2 l3 a13 l3 0 M
    else
      mX9_layWorld_34 k7 l0 l1 l2 l3 a13 l3 1 M
noncomputable def mX9_layWorld_7 : Nat → Int → Int → Int → Int → Mem → Option (Int × Mem)
  | 0 => fun _ _ _ _ _ => none
  | fu + 1 => bX9_layWorld_7 (mX9_layWorld_7 fu)
noncomputable def mX9_layWorld (l0 l1 : Int) (M : Mem) : Option (Int × Mem) :=
  (gK 9 M l0).bind fun _ =>
  (mX9_manyFacts l0 M).bind fun q1 =>
  mX9_layWorld_7 FU l0 l1 q1.1 0 q1.2
noncomputable def mX9_takeWorld_34 (k7 : Int → Int → Int → Int → Mem → Option (Int × Mem)) (l0 l1 l2 l3 s0 s1 s2 : Int) (M : Mem) : Option (Int × Mem) :=
  (aSZ 11 M s0 s1 s2).bind fun M34 =>
  k7 l0 l1 l2 (wI (l3 + 1)) M34
noncomputable def bX9_takeWorld_7 (k7 : Int → Int → Int → Int → Mem → Option (Int × Mem)) (l0 l1 l2 l3 : Int) (M : Mem) : Option (Int × Mem) :=
  if l2 ≤ l3 then
    some (0, M)
  else
    (gF 9 11 M l0).bind fun a13 =>
    if iand (ishr l1 (wI ((wI (l2 - 1)) - l3))) 1 = 0 then
      mX9_takeWorld_34 k7 l0 l1 l2 l3 a13 l3 0 M
    else
      mX9_takeWorld_34 k7 l0 l1 l2 l3 a13 l3 1 M
noncomputable def mX9_takeWorld_7 : Nat → Int → Int → Int → Int → Mem → Option (Int × Mem)
  | 0 => fun _ _ _ _ _ => none
  | fu + 1 => bX9_takeWorld_7 (mX9_takeWorld_7 fu)
noncomputable def mX9_takeWorld (l0 l1 : Int) (M : Mem) : Option (Int × Mem) :=
  (gK 9 M l0).bind fun _ =>
  (mX9_manyFacts l0 M).bind fun q1 =>
  mX9_takeWorld_7 FU l0 l1 q1.1 0 q1.2
noncomputable def mX9_findKnown_163 (k43 : Int → Int → Int → Int → Mem → Option (Int × Mem)) (l0 l1 l2 l3 : Int) (M : Mem) : Option (Int × Mem) :=
  k43 l0 l1 l2 (wI (l3 + 1)) M
noncomputable def mX9_findKnown_160 (k43 : Int → Int → Int → Int → Mem → Option (Int × Mem)) (l0 l1 l2 l3 s0 s1 : Int) (M : Mem) : Option (Int × Mem) :=
  (pF 9 50 M s0 s1).bind fun M160 =>
  mX9_findKnown_163 k43 l0 l1 l2 l3 M160
noncomputable def bX9_findKnown_43 (k43 : Int → Int → Int → Int → Mem → Option (Int × Mem)) (l0 l1 l2 l3 : Int) (M : Mem) : Option (Int × Mem) :=
  (gF 9 20 M l0).bind fun a45 =>
  (aG 10 M a45 0).bind fun a49 =>
  if a49 ≤ l3 then
    some (0, M)
  else
    (gF 9 21 M l0).bind fun a54 =>
    (aG 10 M a54 l3).bind fun a58 =>
    (dQ a58 9).bind fun a61 =>
    (gF 9 21 M l0).bind fun a68 =>
    (aG 10 M a68 l3).bind fun a72 =>
    (dQ a72 3).bind fun a74 =>
    (dM a74 3).bind fun a76 =>
    (gF 9 21 M l0).bind fun a78 =>
    (aG 10 M a78 l3).bind fun a82 =>
    (dM a82 3).bind fun a84 =>
    (gK 9 M l0).bind fun _ =>
    (mX9_factAt l0 a61 a76 a84 M).bind fun q85 =>
    if q85.1 = (-1) then
      mX9_findKnown_163 k43 l0 l1 l2 l3 q85.2
    else
      (gF 9 23 q85.2 l0).bind fun a97 =>
      (aG 10 q85.2 a97 l3).bind fun a101 =>
      if a101 ≤ l1 then
        (some (ishl 1 (wI ((wI (l2 - 1)) - q85.1)))).bind fun b117 =>
        (gF 9 49 q85.2 l0).bind fun a121 =>
        (pF 9 49 q85.2 l0 (ior a121 b117)).bind fun M127 =>
        (gF 9 22 M127 l0).bind fun a132 =>
        (aG 10 M127 a132 l3).bind fun a136 =>
        if a136 = 1 then
          (gF 9 50 M127 l0).bind fun a142 =>
          mX9_findKnown_160 k43 l0 l1 l2 l3 l0 (ior a142 b117) M127
        else
          (gF 9 50 M127 l0).bind fun a152 =>
          mX9_findKnown_160 k43 l0 l1 l2 l3 l0 (iand a152 (ixor b117 (-1))) M127
      else
        mX9_findKnown_163 k43 l0 l1 l2 l3 q85.2
noncomputable def mX9_findKnown_43 : Nat → Int → Int → Int → Int → Mem → Option (Int × Mem)
  | 0 => fun _ _ _ _ _ => none
  | fu + 1 => bX9_findKnown_43 (mX9_findKnown_43 fu)
noncomputable def mX9_findKnown_25 (l0 s0 : Int) (M : Mem) : Option (Int × Mem) :=
  (gK 9 M l0).bind fun _ =>
  (mX9_manyFacts l0 M).bind fun q27 =>
  (pF 9 49 q27.2 l0 0).bind fun M33 =>
  (pF 9 50 M33 l0 0).bind fun M38 =>
  mX9_findKnown_43 FU l0 s0 q27.1 0 M38
noncomputable def mX9_findKnown (l0 : Int) (M : Mem) : Option (Int × Mem) :=
  (gF 9 6 M l0).bind fun a1 =>
  (aG 10 M a1 0).bind fun a5 =>
  if a5 = (-1) then
    (gF 9 5 M l0).bind fun a11 =>
    (aG 10 M a11 0).bind fun a15 =>
    mX9_findKnown_25 l0 a15 M
  else
    (gF 9 6 M l0).bind fun a20 =>
    (aG 10 M a20 0).bind fun a24 =>
    mX9_findKnown_25 l0 a24 M
noncomputable def mX9_prepare (l0 : Int) (M : Mem) : Option (Int × Mem) :=
  (gK 9 M l0).bind fun _ =>
  (mX9_told l0 M).bind fun q2 =>
  (pF 9 48 q2.2 l0 q2.1).bind fun M5 =>
  (gK 9 M5 l0).bind fun _ =>
  (mX9_findKnown l0 M5).bind fun q9 =>
  some (0, q9.2)
noncomputable def mX9_isAsKnown (l0 l1 : Int) (M : Mem) : Option (Int × Mem) :=
  (gF 9 49 M l0).bind fun a2 =>
  (gF 9 50 M l0).bind fun a7 =>
  if iand l1 a2 = a7 then
    some (1, M)
  else
    some (0, M)
noncomputable def mX9_isWorld_48 (k17 : Int → Int → Mem → Option (Int × Mem)) (l0 l2 : Int) (M : Mem) : Option (Int × Mem) :=
  k17 l0 (wI (l2 + 1)) M
noncomputable def bX9_isWorld_17 (k17 : Int → Int → Mem → Option (Int × Mem)) (l0 l2 : Int) (M : Mem) : Option (Int × Mem) :=
  (gF 9 12 M l0).bind fun a19 =>
  (aG 10 M a19 0).bind fun a23 =>
  if a23 ≤ l2 then
    some (1, M)
  else
    (gF 9 48 M l0).bind fun a28 =>
    if iand (ishr a28 l2) 1 = 0 then
      mX9_isWorld_48 k17 l0 l2 M
    else
      (gK 9 M l0).bind fun _ =>
      (mX9_means l0 l2 M).bind fun q40 =>
      if q40.1 = 0 then
        some (0, q40.2)
      else
        mX9_isWorld_48 k17 l0 l2 q40.2
noncomputable def mX9_isWorld_17 : Nat → Int → Int → Mem → Option (Int × Mem)
  | 0 => fun _ _ _ => none
  | fu + 1 => bX9_isWorld_17 (mX9_isWorld_17 fu)
noncomputable def mX9_isWorld (l0 l1 : Int) (M : Mem) : Option (Int × Mem) :=
  (gK 9 M l0).bind fun _ =>
  (mX9_isAsKnown l0 l1 M).bind fun q2 =>
  if q2.1 = 0 then
    some (0, q2.2)
  else
    (gK 9 q2.2 l0).bind fun _ =>
    (mX9_layWorld l0 l1 q2.2).bind fun q12 =>
    mX9_isWorld_17 FU l0 0 q12.2
noncomputable def mX9_leastImage_40 (k4 : Int → Int → Int → Mem → Option (Int × Mem)) (l0 l1 l2 : Int) (M : Mem) : Option (Int × Mem) :=
  k4 l0 l1 (wI (l2 + 1)) M
noncomputable def mX9_leastImage_39 (k4 : Int → Int → Int → Mem → Option (Int × Mem)) (l0 l2 s0 : Int) (M : Mem) : Option (Int × Mem) :=
  mX9_leastImage_40 k4 l0 s0 l2 M
noncomputable def mX9_leastImage_34 (k4 : Int → Int → Int → Mem → Option (Int × Mem)) (l0 l2 l3 : Int) (M : Mem) : Option (Int × Mem) :=
  mX9_leastImage_39 k4 l0 l2 l3 M
noncomputable def bX9_leastImage_4 (k4 : Int → Int → Int → Mem → Option (Int × Mem)) (l0 l1 l2 : Int) (M : Mem) : Option (Int × Mem) :=
  if 216 ≤ l2 then
    some (l1, M)
  else
    (gK 9 M l0).bind fun _ =>
    (mX9_takeOrders l0 l2 M).bind fun q13 =>
    if q13.1 = 0 then
      mX9_leastImage_40 k4 l0 l1 l2 q13.2
    else
      (gK 9 q13.2 l0).bind fun _ =>
      (mX9_imageOf l0 q13.2).bind fun q20 =>
      if l1 = (-1) then
        mX9_leastImage_34 k4 l0 l2 q20.1 q20.2
      else
        if l1 ≤ q20.1 then
          mX9_leastImage_39 k4 l0 l2 l1 q20.2
        else
          mX9_leastImage_34 k4 l0 l2 q20.1 q20.2
noncomputable def mX9_leastImage_4 : Nat → Int → Int → Int → Mem → Option (Int × Mem)
  | 0 => fun _ _ _ _ => none
  | fu + 1 => bX9_leastImage_4 (mX9_leastImage_4 fu)
noncomputable def mX9_leastImage (l0 : Int) (M : Mem) : Option (Int × Mem) :=
  mX9_leastImage_4 FU l0 (-1) 0 M
noncomputable def mX9_isForm (l0 l1 : Int) (M : Mem) : Option (Int × Mem) :=
  (gK 9 M l0).bind fun _ =>
  (mX9_isWorld l0 l1 M).bind fun q2 =>
  if q2.1 = 0 then
    some (0, q2.2)
  else
    (gK 9 q2.2 l0).bind fun _ =>
    (mX9_leastImage l0 q2.2).bind fun q9 =>
    if q9.1 = l1 then
      some (1, q9.2)
    else
      some (0, q9.2)
noncomputable def mX9_worlds_46 (k22 : Int → Int → Int → Mem → Option (Int × Mem)) (l0 l2 s0 s1 : Int) (M : Mem) : Option (Int × Mem) :=
  k22 l0 (wI (s0 + s1)) (wI (l2 + 1)) M
noncomputable def bX9_worlds_22 (k22 : Int → Int → Int → Mem → Option (Int × Mem)) (l0 l1 l2 : Int) (M : Mem) : Option (Int × Mem) :=
  (gK 9 M l0).bind fun _ =>
  (mX9_manyFacts l0 M).bind fun q25 =>
  if ishl 1 q25.1 ≤ l2 then
    some (l1, q25.2)
  else
    (gK 9 q25.2 l0).bind fun _ =>
    (mX9_isWorld l0 l2 q25.2).bind fun q35 =>
    if q35.1 = 0 then
      mX9_worlds_46 k22 l0 l2 l1 0 q35.2
    else
      mX9_worlds_46 k22 l0 l2 l1 1 q35.2
noncomputable def mX9_worlds_22 : Nat → Int → Int → Int → Mem → Option (Int × Mem)
  | 0 => fun _ _ _ _ => none
  | fu + 1 => bX9_worlds_22 (mX9_worlds_22 fu)
noncomputable def mX9_worlds (l0 : Int) (M : Mem) : Option (Int × Mem) :=
  (pF 9 0 M l0 0).bind fun M2 =>
  (gK 9 M2 l0).bind fun _ =>
  (mX9_canTell l0 M2).bind fun q6 =>
  if q6.1 = 0 then
    some ((-1), q6.2)
  else
    (gK 9 q6.2 l0).bind fun _ =>
    (mX9_prepare l0 q6.2).bind fun q15 =>
    mX9_worlds_22 FU l0 0 0 q15.2
noncomputable def mX9_forms_46 (k22 : Int → Int → Int → Mem → Option (Int × Mem)) (l0 l2 s0 s1 : Int) (M : Mem) : Option (Int × Mem) :=
  k22 l0 (wI (s0 + s1)) (wI (l2 + 1)) M
noncomputable def bX9_forms_22 (k22 : Int → Int → Int → Mem → Option (Int × Mem)) (l0 l1 l2 : Int) (M : Mem) : Option (Int × Mem) :=
  (gK 9 M l0).bind fun _ =>
  (mX9_manyFacts l0 M).bind fun q25 =>
  if ishl 1 q25.1 ≤ l2 then
    some (l1, q25.2)
  else
    (gK 9 q25.2 l0).bind fun _ =>
    (mX9_isForm l0 l2 q25.2).bind fun q35 =>
    if q35.1 = 0 then
      mX9_forms_46 k22 l0 l2 l1 0 q35.2
    else
      mX9_forms_46 k22 l0 l2 l1 1 q35.2
noncomputable def mX9_forms_22 : Nat → Int → Int → Int → Mem → Option (Int × Mem)
  | 0 => fun _ _ _ _ => none
  | fu + 1 => bX9_forms_22 (mX9_forms_22 fu)
noncomputable def mX9_forms (l0 : Int) (M : Mem) : Option (Int × Mem) :=
  (pF 9 0 M l0 0).bind fun M2 =>
  (gK 9 M2 l0).bind fun _ =>
  (mX9_canTell l0 M2).bind fun q6 =>
  if q6.1 = 0 then
    some ((-1), q6.2)
  else
    (gK 9 q6.2 l0).bind fun _ =>
    (mX9_prepare l0 q6.2).bind fun q15 =>
    mX9_forms_22 FU l0 0 0 q15.2
noncomputable def mX9_form_55 (k22 : Int → Int → Int → Int → Mem → Option (Int × Mem)) (l0 l1 l2 l3 : Int) (M : Mem) : Option (Int × Mem) :=
  k22 l0 l1 l2 (wI (l3 + 1)) M
noncomputable def bX9_form_22 (k22 : Int → Int → Int → Int → Mem → Option (Int × Mem)) (l0 l1 l2 l3 : Int) (M : Mem) : Option (Int × Mem) :=
  (gK 9 M l0).bind fun _ =>
  (mX9_manyFacts l0 M).bind fun q25 =>
  if ishl 1 q25.1 ≤ l3 then
    some (0, q25.2)
  else
    (gK 9 q25.2 l0).bind fun _ =>
    (mX9_isForm l0 l3 q25.2).bind fun q34 =>
    if q34.1 = 0 then
      mX9_form_55 k22 l0 l1 l2 l3 q34.2
    else
      if l2 = l1 then
        (gK 9 q34.2 l0).bind fun _ =>
        (mX9_takeWorld l0 l3 q34.2).bind fun q47 =>
        some (1, q47.2)
      else
        mX9_form_55 k22 l0 l1 (wI (l2 + 1)) l3 q34.2
noncomputable def mX9_form_22 : Nat → Int → Int → Int → Int → Mem → Option (Int × Mem)
  | 0 => fun _ _ _ _ _ => none
  | fu + 1 => bX9_form_22 (mX9_form_22 fu)
noncomputable def mX9_form (l0 l1 : Int) (M : Mem) : Option (Int × Mem) :=
  (pF 9 0 M l0 0).bind fun M2 =>
  (gK 9 M2 l0).bind fun _ =>
  (mX9_canTell l0 M2).bind fun q6 =>
  if q6.1 = 0 then
    some (0, q6.2)
  else
    (gK 9 q6.2 l0).bind fun _ =>
    (mX9_prepare l0 q6.2).bind fun q15 =>
    mX9_form_22 FU l0 l1 0 0 q15.2
noncomputable def mX9_name (l0 : Int) (M : Mem) : Option (Int × Mem) :=
  (pF 9 0 M l0 0).bind fun M2 =>
  (gK 9 M2 l0).bind fun _ =>
  (mX9_canTell l0 M2).bind fun q6 =>
  if q6.1 = 0 then
    some (0, q6.2)
  else
    (gK 9 q6.2 l0).bind fun _ =>
    (mX9_numberOfWorld l0 q6.2).bind fun q15 =>
    (gK 9 q15.2 l0).bind fun _ =>
    (mX9_layWorld l0 q15.1 q15.2).bind fun q21 =>
    (gK 9 q21.2 l0).bind fun _ =>
    (mX9_leastImage l0 q21.2).bind fun q25 =>
    (gK 9 q25.2 l0).bind fun _ =>
    (mX9_takeWorld l0 q25.1 q25.2).bind fun q31 =>
    if q25.1 = q15.1 then
      some (0, q31.2)
    else
      some (1, q31.2)
noncomputable def mX9_findLeast_145 (k20 : Int → Int → Mem → Option (Int × Mem)) (k28 : Int → Int → Int → Mem → Option (Int × Mem)) (k35 : Int → Int → Int → Int → Mem → Option (Int × Mem)) (l0 l1 l2 l3 : Int) (M : Mem) : Option (Int × Mem) :=
  k35 l0 l1 l2 (wI (l3 + 1)) M
noncomputable def bX9_findLeast_89 (k20 : Int → Int → Mem → Option (Int × Mem)) (k28 : Int → Int → Int → Mem → Option (Int × Mem)) (k35 : Int → Int → Int → Int → Mem → Option (Int × Mem)) (k89 : Int → Int → Int → Int → Int → Mem → Option (Int × Mem)) (l0 l1 l2 l3 l4 : Int) (M : Mem) : Option (Int × Mem) :=
  (gK 9 M l0).bind fun _ =>
  (mX9_manyFacts l0 M).bind fun q90 =>
  if 12 < q90.1 then
    mX9_findLeast_145 k20 k28 k35 l0 l1 l2 l3 q90.2
  else
    (gK 9 q90.2 l0).bind fun _ =>
    (mX9_manyFacts l0 q90.2).bind fun q102 =>
    if ishl 1 q102.1 ≤ l4 then
      mX9_findLeast_145 k20 k28 k35 l0 l1 l2 l3 q102.2
    else
      (gK 9 q102.2 l0).bind fun _ =>
      (mX9_isWorld l0 l4 q102.2).bind fun q112 =>
      if q112.1 = 0 then
        k89 l0 l1 l2 l3 (wI (l4 + 1)) q112.2
      else
        (pF 9 52 q112.2 l0 l2).bind fun M120 =>
        (pF 9 53 M120 l0 l3).bind fun M125 =>
        (pF 9 54 M125 l0 (wI ((wI (l1 - l2)) - l3))).bind fun M134 =>
        some (1, M134)
noncomputable def mX9_findLeast_89 (k20 : Int → Int → Mem → Option (Int × Mem)) (k28 : Int → Int → Int → Mem → Option (Int × Mem)) (k35 : Int → Int → Int → Int → Mem → Option (Int × Mem)) : Nat → Int → Int → Int → Int → Int → Mem → Option (Int × Mem)
  | 0 => fun _ _ _ _ _ _ => none
  | fu + 1 => bX9_findLeast_89 k20 k28 k35 (mX9_findLeast_89 k20 k28 k35 fu)
noncomputable def bX9_findLeast_35 (k20 : Int → Int → Mem → Option (Int × Mem)) (k28 : Int → Int → Int → Mem → Option (Int × Mem)) (k35 : Int → Int → Int → Int → Mem → Option (Int × Mem)) (l0 l1 l2 l3 : Int) (M : Mem) : Option (Int × Mem) :=
  if 3 < l3 then
    k28 l0 l1 (wI (l2 + 1)) M
  else
    (gF 9 26 M l0).bind fun a41 =>
    (aS 10 M a41 0 l2).bind fun M46 =>
    (gF 9 26 M46 l0).bind fun a48 =>
    (aS 10 M46 a48 1 l3).bind fun M53 =>
    (gF 9 26 M53 l0).bind fun a55 =>
    (aS 10 M53 a55 2 (wI ((wI (l1 - l2)) - l3))).bind fun M64 =>
    (gF 9 26 M64 l0).bind fun a66 =>
    (aG 10 M64 a66 2).bind fun a70 =>
    (mX9_in a70 1 3 M64).bind fun q73 =>
    if q73.1 = 0 then
      mX9_findLeast_145 k20 k28 k35 l0 l1 l2 l3 q73.2
    else
      (gK 9 q73.2 l0).bind fun _ =>
      (mX9_findStarts l0 q73.2).bind fun q83 =>
      mX9_findLeast_89 k20 k28 k35 FU l0 l1 l2 l3 0 q83.2
noncomputable def mX9_findLeast_35 (k20 : Int → Int → Mem → Option (Int × Mem)) (k28 : Int → Int → Int → Mem → Option (Int × Mem)) : Nat → Int → Int → Int → Int → Mem → Option (Int × Mem)
  | 0 => fun _ _ _ _ _ => none
  | fu + 1 => bX9_findLeast_35 k20 k28 (mX9_findLeast_35 k20 k28 fu)
noncomputable def bX9_findLeast_28 (k20 : Int → Int → Mem → Option (Int × Mem)) (k28 : Int → Int → Int → Mem → Option (Int × Mem)) (l0 l1 l2 : Int) (M : Mem) : Option (Int × Mem) :=
  if 3 < l2 then
    k20 l0 (wI (l1 + 1)) M
  else
    mX9_findLeast_35 k20 k28 FU l0 l1 l2 1 M
noncomputable def mX9_findLeast_28 (k20 : Int → Int → Mem → Option (Int × Mem)) : Nat → Int → Int → Int → Mem → Option (Int × Mem)
  | 0 => fun _ _ _ _ => none
  | fu + 1 => bX9_findLeast_28 k20 (mX9_findLeast_28 k20 fu)
noncomputable def bX9_findLeast_20 (k20 : Int → Int → Mem → Option (Int × Mem)) (l0 l1 : Int) (M : Mem) : Option (Int × Mem) :=
  if 9 < l1 then
    some (0, M)
  else
    mX9_findLeast_28 k20 FU l0 l1 1 M
noncomputable def mX9_findLeast_20 : Nat → Int → Int → Mem → Option (Int × Mem)
  | 0 => fun _ _ _ => none
  | fu + 1 => bX9_findLeast_20 (mX9_findLeast_20 fu)
noncomputable def mX9_findLeast (l0 : Int) (M : Mem) : Option (Int × Mem) :=
  (gK 9 M l0).bind fun _ =>
  (mX9_told l0 M).bind fun q2 =>
  (pF 9 48 q2.2 l0 q2.1).bind fun M5 =>
  (pF 9 49 M5 l0 0).bind fun M10 =>
  (pF 9 50 M10 l0 0).bind fun M15 =>
  mX9_findLeast_20 FU l0 3 M15
noncomputable def mX9_least (l0 l1 : Int) (M : Mem) : Option (Int × Mem) :=
  (pF 9 0 M l0 0).bind fun M2 =>
  (mX9_in l1 0 2 M2).bind fun q8 =>
  if q8.1 = 0 then
    some ((-1), q8.2)
  else
    (gK 9 q8.2 l0).bind fun _ =>
    (mX9_findLeast l0 q8.2).bind fun q15 =>
    if q15.1 = 0 then
      some ((-1), q15.2)
    else
      if l1 = 0 then
        (gF 9 52 q15.2 l0).bind fun a28 =>
        some (a28, q15.2)
      else
        if l1 = 1 then
          (gF 9 53 q15.2 l0).bind fun a40 =>
          some (a40, q15.2)
        else
          (gF 9 54 q15.2 l0).bind fun a47 =>
          some (a47, q15.2)
noncomputable def mX9_findTogether_143 (k37 : Int → Int → Int → Int → Int → Mem → Option (Int × Mem)) (l0 l1 l2 l3 l4 : Int) (M : Mem) : Option (Int × Mem) :=
  k37 l0 l1 l2 l3 (wI (l4 + 1)) M
noncomputable def mX9_findTogether_126 (k37 : Int → Int → Int → Int → Int → Mem → Option (Int × Mem)) (k87 : Int → Int → Int → Int → Int → Int → Int → Mem → Option (Int × Mem)) (l0 l1 l2 l3 l4 l6 s0 s1 : Int) (M : Mem) : Option (Int × Mem) :=
  k87 l0 l1 l2 l3 l4 (ior s0 s1) (wI (l6 + 1)) M
noncomputable def mX9_findTogether_125 (k37 : Int → Int → Int → Int → Int → Mem → Option (Int × Mem)) (k87 : Int → Int → Int → Int → Int → Int → Int → Mem → Option (Int × Mem)) (l0 l1 l2 l3 l4 l6 s0 : Int) (M : Mem) : Option (Int × Mem) :=
  mX9_findTogether_126 k37 k87 l0 l1 l2 l3 l4 l6 s0 0 M
noncomputable def bX9_findTogether_87 (k37 : Int → Int → Int → Int → Int → Mem → Option (Int × Mem)) (k87 : Int → Int → Int → Int → Int → Int → Int → Mem → Option (Int × Mem)) (l0 l1 l2 l3 l4 l5 l6 : Int) (M : Mem) : Option (Int × Mem) :=
  (gF 9 12 M l0).bind fun a90 =>
  (aG 10 M a90 0).bind fun a94 =>
  if a94 ≤ l6 then
    (gF 9 55 M l0).bind fun a136 =>
    (aSZ 11 M a136 l5 1).bind fun M142 =>
    mX9_findTogether_143 k37 l0 l1 l2 l3 l4 M142
  else
    if iand (ishr l3 l6) 1 = 0 then
      mX9_findTogether_125 k37 k87 l0 l1 l2 l3 l4 l6 l5 M
    else
      (gK 9 M l0).bind fun _ =>
      (mX9_means l0 l6 M).bind fun q112 =>
      if q112.1 = 0 then
        mX9_findTogether_125 k37 k87 l0 l1 l2 l3 l4 l6 l5 q112.2
      else
        mX9_findTogether_126 k37 k87 l0 l1 l2 l3 l4 l6 l5 (ishl 1 l6) q112.2
noncomputable def mX9_findTogether_87 (k37 : Int → Int → Int → Int → Int → Mem → Option (Int × Mem)) : Nat → Int → Int → Int → Int → Int → Int → Int → Mem → Option (Int × Mem)
  | 0 => fun _ _ _ _ _ _ _ _ => none
  | fu + 1 => bX9_findTogether_87 k37 (mX9_findTogether_87 k37 fu)
noncomputable def mX9_findTogether_81 (k37 : Int → Int → Int → Int → Int → Mem → Option (Int × Mem)) (l0 l1 l2 l3 l4 : Int) (M : Mem) : Option (Int × Mem) :=
  mX9_findTogether_87 k37 FU l0 l1 l2 l3 l4 0 0 M
noncomputable def bX9_findTogether_37 (k37 : Int → Int → Int → Int → Int → Mem → Option (Int × Mem)) (l0 l1 l2 l3 l4 : Int) (M : Mem) : Option (Int × Mem) :=
  (gK 9 M l0).bind fun _ =>
  (mX9_manyFacts l0 M).bind fun q41 =>
  if ishl 1 q41.1 ≤ l4 then
    some (0, q41.2)
  else
    (gK 9 q41.2 l0).bind fun _ =>
    (mX9_layWorld l0 l4 q41.2).bind fun q51 =>
    (gK 9 q51.2 l0).bind fun _ =>
    (mX9_isAsKnown l0 l4 q51.2).bind fun q57 =>
    if q57.1 = 0 then
      mX9_findTogether_143 k37 l0 l1 l2 l3 l4 q57.2
    else
      if l1 = (-1) then
        mX9_findTogether_81 k37 l0 l1 l2 l3 l4 q57.2
      else
        (gF 9 28 q57.2 l0).bind fun a69 =>
        (aG 11 q57.2 a69 l1).bind fun a73 =>
        if a73 = l2 then
          mX9_findTogether_143 k37 l0 l1 l2 l3 l4 q57.2
        else
          mX9_findTogether_81 k37 l0 l1 l2 l3 l4 q57.2
noncomputable def mX9_findTogether_37 : Nat → Int → Int → Int → Int → Int → Mem → Option (Int × Mem)
  | 0 => fun _ _ _ _ _ _ => none
  | fu + 1 => bX9_findTogether_37 (mX9_findTogether_37 fu)
noncomputable def bX9_findTogether_8 (k8 : Int → Int → Int → Int → Int → Mem → Option (Int × Mem)) (l0 l1 l2 l3 l4 : Int) (M : Mem) : Option (Int × Mem) :=
  if 256 ≤ l4 then
    (gK 9 M l0).bind fun _ =>
    (mX9_findKnown l0 M).bind fun q31 =>
    mX9_findTogether_37 FU l0 l1 l2 l3 0 q31.2
  else
    (gF 9 55 M l0).bind fun a17 =>
    (aSZ 11 M a17 l4 0).bind fun M23 =>
    k8 l0 l1 l2 l3 (wI (l4 + 1)) M23
noncomputable def mX9_findTogether_8 : Nat → Int → Int → Int → Int → Int → Mem → Option (Int × Mem)
  | 0 => fun _ _ _ _ _ _ => none
  | fu + 1 => bX9_findTogether_8 (mX9_findTogether_8 fu)
noncomputable def mX9_findTogether (l0 l1 l2 : Int) (M : Mem) : Option (Int × Mem) :=
  (gK 9 M l0).bind fun _ =>
  (mX9_told l0 M).bind fun q1 =>
  mX9_findTogether_8 FU l0 l1 l2 q1.1 0 q1.2
noncomputable def mX9_isTogether_28 (k2 : Int → Int → Int → Mem → Option (Int × Mem)) (l0 l1 l2 : Int) (M : Mem) : Option (Int × Mem) :=
  k2 l0 l1 (wI (l2 + 1)) M
noncomputable def bX9_isTogether_2 (k2 : Int → Int → Int → Mem → Option (Int × Mem)) (l0 l1 l2 : Int) (M : Mem) : Option (Int × Mem) :=
  if 256 ≤ l2 then
    some (0, M)
  else
    (gF 9 55 M l0).bind fun a10 =>
    (aG 11 M a10 l2).bind fun a14 =>
    if a14 = 0 then
      mX9_isTogether_28 k2 l0 l1 l2 M
    else
      if iand l1 (ixor l2 (-1)) = 0 then
        some (1, M)
      else
        mX9_isTogether_28 k2 l0 l1 l2 M
noncomputable def mX9_isTogether_2 : Nat → Int → Int → Int → Mem → Option (Int × Mem)
  | 0 => fun _ _ _ _ => none
  | fu + 1 => bX9_isTogether_2 (mX9_isTogether_2 fu)
noncomputable def mX9_isTogether (l0 l1 : Int) (M : Mem) : Option (Int × Mem) :=
  mX9_isTogether_2 FU l0 l1 0 M
noncomputable def mX9_isLessRow (l0 l1 : Int) (M : Mem) : Option (Int × Mem) :=
  if iand (iand l0 (ixor l0 l1)) (ineg (ixor l0 l1)) = 0 then
    some (0, M)
  else
    some (1, M)
noncomputable def mX9_fewestApart_97 (k13 : Int → Int → Int → Int → Int → Mem → Option (Int × Mem)) (l0 l1 l2 l3 l4 : Int) (M : Mem) : Option (Int × Mem) :=
  k13 l0 l1 l2 l3 (wI (l4 + 1)) M
noncomputable def mX9_fewestApart_91 (k13 : Int → Int → Int → Int → Int → Mem → Option (Int × Mem)) (l0 l1 l4 l5 : Int) (M : Mem) : Option (Int × Mem) :=
  mX9_fewestApart_97 k13 l0 l1 l4 l5 l4 M
noncomputable def bX9_fewestApart_27 (k13 : Int → Int → Int → Int → Int → Mem → Option (Int × Mem)) (k27 : Int → Int → Int → Int → Int → Int → Int → Mem → Option (Int × Mem)) (l0 l1 l2 l3 l4 l5 l6 : Int) (M : Mem) : Option (Int × Mem) :=
  if 8 ≤ l6 then
    if iand l4 (ixor l1 (-1)) = 0 then
      if l3 < l5 then
        mX9_fewestApart_97 k13 l0 l1 l2 l3 l4 M
      else
        (gK 9 M l0).bind fun _ =>
        (mX9_isTogether l0 l4 M).bind fun q70 =>
        if q70.1 = 0 then
          if l5 < l3 then
            mX9_fewestApart_91 k13 l0 l1 l4 l5 q70.2
          else
            (mX9_isLessRow l4 l2 q70.2).bind fun q85 =>
            if q85.1 = 0 then
              mX9_fewestApart_97 k13 l0 l1 l2 l3 l4 q85.2
            else
              mX9_fewestApart_91 k13 l0 l1 l4 l5 q85.2
        else
          mX9_fewestApart_97 k13 l0 l1 l2 l3 l4 q70.2
    else
      mX9_fewestApart_97 k13 l0 l1 l2 l3 l4 M
  else
    (some (wI (l5 + (iand (ishr l4 l6) 1)))).bind fun b44 =>
    k27 l0 l1 l2 l3 l4 b44 (wI (l6 + 1)) M
noncomputable def mX9_fewestApart_27 (k13 : Int → Int → Int → Int → Int → Mem → Option (Int × Mem)) : Nat → Int → Int → Int → Int → Int → Int → Int → Mem → Option (Int × Mem)
  | 0 => fun _ _ _ _ _ _ _ _ => none
  | fu + 1 => bX9_fewestApart_27 k13 (mX9_fewestApart_27 k13 fu)
noncomputable def bX9_fewestApart_13 (k13 : Int → Int → Int → Int → Int → Mem → Option (Int × Mem)) (l0 l1 l2 l3 l4 : Int) (M : Mem) : Option (Int × Mem) :=
  if 256 ≤ l4 then
    some (l2, M)
  else
    mX9_fewestApart_27 k13 FU l0 l1 l2 l3 l4 0 0 M
noncomputable def mX9_fewestApart_13 : Nat → Int → Int → Int → Int → Int → Mem → Option (Int × Mem)
  | 0 => fun _ _ _ _ _ _ => none
  | fu + 1 => bX9_fewestApart_13 (mX9_fewestApart_13 fu)
noncomputable def mX9_fewestApart (l0 : Int) (M : Mem) : Option (Int × Mem) :=
  (gK 9 M l0).bind fun _ =>
  (mX9_told l0 M).bind fun q1 =>
  mX9_fewestApart_13 FU l0 q1.1 (-1) 9 0 q1.2
noncomputable def mX9_numberIn_33 (k4 : Int → Int → Int → Int → Mem → Option (Int × Mem)) (l0 l1 l2 l3 : Int) (M : Mem) : Option (Int × Mem) :=
  k4 l0 l1 l2 (wI (l3 + 1)) M
noncomputable def bX9_numberIn_4 (k4 : Int → Int → Int → Int → Mem → Option (Int × Mem)) (l0 l1 l2 l3 : Int) (M : Mem) : Option (Int × Mem) :=
  if 8 ≤ l3 then
    some ((-1), M)
  else
    if l0 = (-1) then
      some ((-1), M)
    else
      if iand (ishr l0 l3) 1 = 0 then
        mX9_numberIn_33 k4 l0 l1 l2 l3 M
      else
        if l2 = l1 then
          some (l3, M)
        else
          mX9_numberIn_33 k4 l0 l1 (wI (l2 + 1)) l3 M
noncomputable def mX9_numberIn_4 : Nat → Int → Int → Int → Int → Mem → Option (Int × Mem)
  | 0 => fun _ _ _ _ _ => none
  | fu + 1 => bX9_numberIn_4 (mX9_numberIn_4 fu)
noncomputable def mX9_numberIn (l0 l1 : Int) (M : Mem) : Option (Int × Mem) :=
  mX9_numberIn_4 FU l0 l1 0 0 M
noncomputable def mX9_core (l0 l1 : Int) (M : Mem) : Option (Int × Mem) :=
  (pF 9 0 M l0 0).bind fun M2 =>
  (gK 9 M2 l0).bind fun _ =>
  (mX9_canTell l0 M2).bind fun q6 =>
  if q6.1 = 0 then
    some ((-1), q6.2)
  else
    (gK 9 q6.2 l0).bind fun _ =>
    (mX9_findTogether l0 (-1) 0 q6.2).bind fun q17 =>
    (gK 9 q17.2 l0).bind fun _ =>
    (mX9_fewestApart l0 q17.2).bind fun q21 =>
    (mX9_numberIn q21.1 l1 q21.2).bind fun q27 =>
    some (q27.1, q27.2)
noncomputable def mX9_countFacts_99 (k32 : Int → Int → Mem → Option (Int × Mem)) (l0 l1 : Int) (M : Mem) : Option (Int × Mem) :=
  k32 l0 (wI (l1 + 1)) M
noncomputable def mX9_countFacts_91 (k32 : Int → Int → Mem → Option (Int × Mem)) (k62 : Int → Int → Int → Mem → Option (Int × Mem)) (l0 l1 l2 s0 s1 s2 s3 : Int) (M : Mem) : Option (Int × Mem) :=
  (aS 10 M s0 s1 (wI (s2 + s3))).bind fun M92 =>
  k62 l0 l1 (wI (l2 + 1)) M92
noncomputable def bX9_countFacts_62 (k32 : Int → Int → Mem → Option (Int × Mem)) (k62 : Int → Int → Int → Mem → Option (Int × Mem)) (l0 l1 l2 : Int) (M : Mem) : Option (Int × Mem) :=
  (gK 9 M l0).bind fun _ =>
  (mX9_manyFacts l0 M).bind fun q64 =>
  if q64.1 ≤ l2 then
    mX9_countFacts_99 k32 l0 l1 q64.2
  else
    (gF 9 56 q64.2 l0).bind fun a71 =>
    (aG 10 q64.2 a71 l2).bind fun a76 =>
    (gF 9 28 q64.2 l0).bind fun a78 =>
    (aG 11 q64.2 a78 l2).bind fun a82 =>
    if a82 = 0 then
      mX9_countFacts_91 k32 k62 l0 l1 l2 a71 l2 a76 0 q64.2
    else
      mX9_countFacts_91 k32 k62 l0 l1 l2 a71 l2 a76 1 q64.2
noncomputable def mX9_countFacts_62 (k32 : Int → Int → Mem → Option (Int × Mem)) : Nat → Int → Int → Int → Mem → Option (Int × Mem)
  | 0 => fun _ _ _ _ => none
  | fu + 1 => bX9_countFacts_62 k32 (mX9_countFacts_62 k32 fu)
noncomputable def bX9_countFacts_32 (k32 : Int → Int → Mem → Option (Int × Mem)) (l0 l1 : Int) (M : Mem) : Option (Int × Mem) :=
  (gK 9 M l0).bind fun _ =>
  (mX9_manyFacts l0 M).bind fun q35 =>
  if ishl 1 q35.1 ≤ l1 then
    some (0, q35.2)
  else
    (gK 9 q35.2 l0).bind fun _ =>
    (mX9_isWorld l0 l1 q35.2).bind fun q44 =>
    if q44.1 = 0 then
      mX9_countFacts_99 k32 l0 l1 q44.2
    else
      (gF 9 57 q44.2 l0).bind fun a52 =>
      (pF 9 57 q44.2 l0 (wI (a52 + 1))).bind fun M57 =>
      mX9_countFacts_62 k32 FU l0 l1 0 M57
noncomputable def mX9_countFacts_32 : Nat → Int → Int → Mem → Option (Int × Mem)
  | 0 => fun _ _ _ => none
  | fu + 1 => bX9_countFacts_32 (mX9_countFacts_32 fu)
noncomputable def bX9_countFacts_11 (k11 : Int → Int → Mem → Option (Int × Mem)) (l0 l1 : Int) (M : Mem) : Option (Int × Mem) :=
  if 12 ≤ l1 then
    mX9_countFacts_32 FU l0 0 M
  else
    (gF 9 56 M l0).bind fun a18 =>
    (aS 10 M a18 l1 0).bind fun M23 =>
    k11 l0 (wI (l1 + 1)) M23
noncomputable def mX9_countFacts_11 : Nat → Int → Int → Mem → Option (Int × Mem)
  | 0 => fun _ _ _ => none
  | fu + 1 => bX9_countFacts_11 (mX9_countFacts_11 fu)
noncomputable def mX9_countFacts (l0 : Int) (M : Mem) : Option (Int × Mem) :=
  (gK 9 M l0).bind fun _ =>
  (mX9_prepare l0 M).bind fun q1 =>
  (pF 9 57 q1.2 l0 0).bind fun M6 =>
  mX9_countFacts_11 FU l0 0 M6
noncomputable def mX9_sure (l0 l1 l2 l3 : Int) (M : Mem) : Option (Int × Mem) :=
  (pF 9 0 M l0 0).bind fun M2 =>
  (gK 9 M2 l0).bind fun _ =>
  (mX9_toldFact l0 l1 l2 l3 M2).bind fun q9 =>
  if q9.1 = (-1) then
    some ((-1), q9.2)
  else
    (gK 9 q9.2 l0).bind fun _ =>
    (mX9_canTell l0 q9.2).bind fun q21 =>
    if q21.1 = 0 then
      some ((-1), q21.2)
    else
      (gK 9 q21.2 l0).bind fun _ =>
      (mX9_countFacts l0 q21.2).bind fun q30 =>
      (gF 9 57 q30.2 l0).bind fun a34 =>
      if a34 = 0 then
        some ((-1), q30.2)
      else
        (gF 9 56 q30.2 l0).bind fun a45 =>
        (aG 10 q30.2 a45 q9.1).bind fun a50 =>
        (gF 9 57 q30.2 l0).bind fun a52 =>
        if a50 = a52 then
          some (1, q30.2)
        else
          (gF 9 56 q30.2 l0).bind fun a63 =>
          (aG 10 q30.2 a63 q9.1).bind fun a68 =>
          if a68 = 0 then
            some (0, q30.2)
          else
            some ((-1), q30.2)
noncomputable def mX9_cause_84 (l0 l4 s0 s1 s2 : Int) (M : Mem) : Option (Int × Mem) :=
  (gK 9 M s0).bind fun _ =>
  (mX9_findTogether s0 s1 s2 M).bind fun q84 =>
  (gK 9 q84.2 l0).bind fun _ =>
  (mX9_fewestApart l0 q84.2).bind fun q88 =>
  (mX9_numberIn q88.1 l4 q88.2).bind fun q93 =>
  some (q93.1, q93.2)
noncomputable def mX9_cause_66 (l0 l4 l5 : Int) (M : Mem) : Option (Int × Mem) :=
  (gF 9 56 M l0).bind fun a70 =>
  (aG 10 M a70 l5).bind fun a75 =>
  if a75 ≤ 0 then
    mX9_cause_84 l0 l4 l0 l5 0 M
  else
    mX9_cause_84 l0 l4 l0 l5 1 M
noncomputable def mX9_cause (l0 l1 l2 l3 l4 : Int) (M : Mem) : Option (Int × Mem) :=
  (pF 9 0 M l0 0).bind fun M2 =>
  (gK 9 M2 l0).bind fun _ =>
  (mX9_toldFact l0 l1 l2 l3 M2).bind fun q9 =>
  if q9.1 = (-1) then
    some ((-1), q9.2)
  else
    (gK 9 q9.2 l0).bind fun _ =>
    (mX9_canTell l0 q9.2).bind fun q21 =>
    if q21.1 = 0 then
      some ((-1), q21.2)
    else
      (gK 9 q21.2 l0).bind fun _ =>
      (mX9_countFacts l0 q21.2).bind fun q30 =>
      (gF 9 57 q30.2 l0).bind fun a34 =>
      if a34 = 0 then
        some ((-1), q30.2)
      else
        (gF 9 56 q30.2 l0).bind fun a41 =>
        (aG 10 q30.2 a41 q9.1).bind fun a46 =>
        if a46 = 0 then
          mX9_cause_66 l0 l4 q9.1 q30.2
        else
          (gF 9 56 q30.2 l0).bind fun a51 =>
          (aG 10 q30.2 a51 q9.1).bind fun a56 =>
          (gF 9 57 q30.2 l0).bind fun a58 =>
          if a56 = a58 then
            mX9_cause_66 l0 l4 q9.1 q30.2
          else
            some ((-1), q30.2)
noncomputable def mX9_without_87 (k63 : Int → Int → Int → Mem → Option (Int × Mem)) (l0 l3 s0 s1 : Int) (M : Mem) : Option (Int × Mem) :=
  k63 l0 (wI (s0 + s1)) (wI (l3 + 1)) M
noncomputable def bX9_without_63 (k63 : Int → Int → Int → Mem → Option (Int × Mem)) (l0 l2 l3 : Int) (M : Mem) : Option (Int × Mem) :=
  (gK 9 M l0).bind fun _ =>
  (mX9_manyFacts l0 M).bind fun q66 =>
  if ishl 1 q66.1 ≤ l3 then
    some (l2, q66.2)
  else
    (gK 9 q66.2 l0).bind fun _ =>
    (mX9_isWorld l0 l3 q66.2).bind fun q76 =>
    if q76.1 = 0 then
      mX9_without_87 k63 l0 l3 l2 0 q76.2
    else
      mX9_without_87 k63 l0 l3 l2 1 q76.2
noncomputable def mX9_without_63 : Nat → Int → Int → Int → Mem → Option (Int × Mem)
  | 0 => fun _ _ _ _ => none
  | fu + 1 => bX9_without_63 (mX9_without_63 fu)
noncomputable def mX9_without (l0 l1 : Int) (M : Mem) : Option (Int × Mem) :=
  (pF 9 0 M l0 0).bind fun M2 =>
  (gF 9 12 M2 l0).bind fun a8 =>
  (aG 10 M2 a8 0).bind fun a12 =>
  (mX9_in l1 0 (wI (a12 - 1)) M2).bind fun q15 =>
  if q15.1 = 0 then
    some ((-1), q15.2)
  else
    (gK 9 q15.2 l0).bind fun _ =>
    (mX9_canTell l0 q15.2).bind fun q22 =>
    if q22.1 = 0 then
      some ((-1), q22.2)
    else
      (gK 9 q22.2 l0).bind fun _ =>
      (mX9_prepare l0 q22.2).bind fun q31 =>
      (gF 9 48 q31.2 l0).bind fun a35 =>
      if iand (ishr a35 l1) 1 = 0 then
        some ((-1), q31.2)
      else
        (gF 9 48 q31.2 l0).bind fun a49 =>
        (pF 9 48 q31.2 l0 (ixor a49 (ishl 1 l1))).bind fun M56 =>
        mX9_without_63 FU l0 0 0 M56
noncomputable def mX9_findYes_51 (k2 : Int → Int → Int → Mem → Option (Int × Mem)) (k19 : Int → Int → Int → Int → Mem → Option (Int × Mem)) (l0 l1 l2 l3 s0 s1 s2 s3 : Int) (M : Mem) : Option (Int × Mem) :=
  (aS 10 M s0 s1 (ior s2 s3)).bind fun M52 =>
  k19 l0 l1 l2 (wI (l3 + 1)) M52
noncomputable def bX9_findYes_19 (k2 : Int → Int → Int → Mem → Option (Int × Mem)) (k19 : Int → Int → Int → Int → Mem → Option (Int × Mem)) (l0 l1 l2 l3 : Int) (M : Mem) : Option (Int × Mem) :=
  if l1 ≤ l3 then
    k2 l0 l1 (wI (l2 + 1)) M
  else
    (gF 9 61 M l0).bind fun a25 =>
    (aG 10 M a25 l2).bind fun a30 =>
    (gF 9 58 M l0).bind fun a32 =>
    (aG 10 M a32 l3).bind fun a36 =>
    if iand (ishr a36 l2) 1 = 0 then
      mX9_findYes_51 k2 k19 l0 l1 l2 l3 a25 l2 a30 0 M
    else
      mX9_findYes_51 k2 k19 l0 l1 l2 l3 a25 l2 a30 (ishl 1 l3) M
noncomputable def mX9_findYes_19 (k2 : Int → Int → Int → Mem → Option (Int × Mem)) : Nat → Int → Int → Int → Int → Mem → Option (Int × Mem)
  | 0 => fun _ _ _ _ _ => none
  | fu + 1 => bX9_findYes_19 k2 (mX9_findYes_19 k2 fu)
noncomputable def bX9_findYes_2 (k2 : Int → Int → Int → Mem → Option (Int × Mem)) (l0 l1 l2 : Int) (M : Mem) : Option (Int × Mem) :=
  (gK 9 M l0).bind fun _ =>
  (mX9_manyFacts l0 M).bind fun q4 =>
  if q4.1 ≤ l2 then
    some (0, q4.2)
  else
    (gF 9 61 q4.2 l0).bind fun a11 =>
    (aS 10 q4.2 a11 l2 0).bind fun M16 =>
    mX9_findYes_19 k2 FU l0 l1 l2 0 M16
noncomputable def mX9_findYes_2 : Nat → Int → Int → Int → Mem → Option (Int × Mem)
  | 0 => fun _ _ _ _ => none
  | fu + 1 => bX9_findYes_2 (mX9_findYes_2 fu)
noncomputable def mX9_findYes (l0 l1 : Int) (M : Mem) : Option (Int × Mem) :=
  mX9_findYes_2 FU l0 l1 0 M
noncomputable def mX9_asks_46 (k2 : Int → Int → Int → Mem → Option (Int × Mem)) (l0 l1 l2 : Int) (M : Mem) : Option (Int × Mem) :=
  k2 l0 l1 (wI (l2 + 1)) M
noncomputable def bX9_asks_2 (k2 : Int → Int → Int → Mem → Option (Int × Mem)) (l0 l1 l2 : Int) (M : Mem) : Option (Int × Mem) :=
  (gK 9 M l0).bind fun _ =>
  (mX9_manyFacts l0 M).bind fun q4 =>
  if q4.1 ≤ l2 then
    some (0, q4.2)
  else
    (gF 9 59 q4.2 l0).bind fun a11 =>
    (gF 9 61 q4.2 l0).bind fun a16 =>
    (aG 10 q4.2 a16 l2).bind fun a20 =>
    (aG 11 q4.2 a11 (iand l1 a20)).bind fun a22 =>
    if a22 = 0 then
      mX9_asks_46 k2 l0 l1 l2 q4.2
    else
      (gF 9 59 q4.2 l0).bind fun a27 =>
      (gF 9 61 q4.2 l0).bind fun a32 =>
      (aG 10 q4.2 a32 l2).bind fun a36 =>
      (aG 11 q4.2 a27 (iand l1 (ixor a36 (-1)))).bind fun a40 =>
      if a40 = 0 then
        mX9_asks_46 k2 l0 l1 l2 q4.2
      else
        some (1, q4.2)
noncomputable def mX9_asks_2 : Nat → Int → Int → Int → Mem → Option (Int × Mem)
  | 0 => fun _ _ _ _ => none
  | fu + 1 => bX9_asks_2 (mX9_asks_2 fu)
noncomputable def mX9_asks (l0 l1 : Int) (M : Mem) : Option (Int × Mem) :=
  mX9_asks_2 FU l0 l1 0 M
noncomputable def bX9_questions_176 (k111 : Int → Int → Int → Mem → Option (Int × Mem)) (k176 : Int → Int → Int → Int → Mem → Option (Int × Mem)) (l0 l1 l2 l3 : Int) (M : Mem) : Option (Int × Mem) :=
  if ishl 1 l1 ≤ l3 then
    k111 l0 l1 (wI (l2 + 1)) M
  else
    (gF 9 59 M l0).bind fun a184 =>
    (gF 9 60 M l0).bind fun a189 =>
    (aG 11 M a189 l3).bind fun a193 =>
    (aSZ 11 M a184 l3 a193).bind fun M194 =>
    k176 l0 l1 l2 (wI (l3 + 1)) M194
noncomputable def mX9_questions_176 (k111 : Int → Int → Int → Mem → Option (Int × Mem)) : Nat → Int → Int → Int → Int → Mem → Option (Int × Mem)
  | 0 => fun _ _ _ _ _ => none
  | fu + 1 => bX9_questions_176 k111 (mX9_questions_176 k111 fu)
noncomputable def mX9_questions_167 (k111 : Int → Int → Int → Mem → Option (Int × Mem)) (k133 : Int → Int → Int → Int → Mem → Option (Int × Mem)) (l0 l1 l2 l3 s0 s1 s2 : Int) (M : Mem) : Option (Int × Mem) :=
  (aSZ 11 M s0 s1 s2).bind fun M167 =>
  k133 l0 l1 l2 (wI (l3 + 1)) M167
noncomputable def mX9_questions_162 (k111 : Int → Int → Int → Mem → Option (Int × Mem)) (k133 : Int → Int → Int → Int → Mem → Option (Int × Mem)) (l0 l1 l2 l3 s0 s1 : Int) (M : Mem) : Option (Int × Mem) :=
  mX9_questions_167 k111 k133 l0 l1 l2 l3 s0 s1 1 M
noncomputable def bX9_questions_133 (k111 : Int → Int → Int → Mem → Option (Int × Mem)) (k133 : Int → Int → Int → Int → Mem → Option (Int × Mem)) (l0 l1 l2 l3 : Int) (M : Mem) : Option (Int × Mem) :=
  if ishl 1 l1 ≤ l3 then
    mX9_questions_176 k111 FU l0 l1 l2 0 M
  else
    (gF 9 60 M l0).bind fun a141 =>
    (gF 9 59 M l0).bind fun a146 =>
    (aG 11 M a146 l3).bind fun a150 =>
    if a150 = 0 then
      (gK 9 M l0).bind fun _ =>
      (mX9_asks l0 l3 M).bind fun q156 =>
      if q156.1 = 0 then
        mX9_questions_167 k111 k133 l0 l1 l2 l3 a141 l3 0 q156.2
      else
        mX9_questions_162 k111 k133 l0 l1 l2 l3 a141 l3 q156.2
    else
      mX9_questions_162 k111 k133 l0 l1 l2 l3 a141 l3 M
noncomputable def mX9_questions_133 (k111 : Int → Int → Int → Mem → Option (Int × Mem)) : Nat → Int → Int → Int → Int → Mem → Option (Int × Mem)
  | 0 => fun _ _ _ _ _ => none
  | fu + 1 => bX9_questions_133 k111 (mX9_questions_133 k111 fu)
noncomputable def bX9_questions_111 (k111 : Int → Int → Int → Mem → Option (Int × Mem)) (l0 l1 l2 : Int) (M : Mem) : Option (Int × Mem) :=
  if 4 < l2 then
    some ((-1), M)
  else
    (gF 9 59 M l0).bind fun a117 =>
    (aG 11 M a117 (wI ((ishl 1 l1) - 1))).bind fun a125 =>
    if a125 = 0 then
      mX9_questions_133 k111 FU l0 l1 l2 0 M
    else
      some (l2, M)
noncomputable def mX9_questions_111 : Nat → Int → Int → Int → Mem → Option (Int × Mem)
  | 0 => fun _ _ _ _ => none
  | fu + 1 => bX9_questions_111 (mX9_questions_111 fu)
noncomputable def mX9_questions_102 (k77 : Int → Int → Int → Mem → Option (Int × Mem)) (l0 l1 l2 s0 s1 s2 : Int) (M : Mem) : Option (Int × Mem) :=
  (aSZ 11 M s0 s1 s2).bind fun M102 =>
  k77 l0 l1 (wI (l2 + 1)) M102
noncomputable def bX9_questions_77 (k77 : Int → Int → Int → Mem → Option (Int × Mem)) (l0 l1 l2 : Int) (M : Mem) : Option (Int × Mem) :=
  if ishl 1 l1 ≤ l2 then
    mX9_questions_111 FU l0 l1 0 M
  else
    (gF 9 59 M l0).bind fun a85 =>
    if iand l2 (wI (l2 - 1)) = 0 then
      mX9_questions_102 k77 l0 l1 l2 a85 l2 1 M
    else
      mX9_questions_102 k77 l0 l1 l2 a85 l2 0 M
noncomputable def mX9_questions_77 : Nat → Int → Int → Int → Mem → Option (Int × Mem)
  | 0 => fun _ _ _ _ => none
  | fu + 1 => bX9_questions_77 (mX9_questions_77 fu)
noncomputable def mX9_questions_58 (k22 : Int → Int → Int → Mem → Option (Int × Mem)) (l0 l1 l2 : Int) (M : Mem) : Option (Int × Mem) :=
  k22 l0 l1 (wI (l2 + 1)) M
noncomputable def bX9_questions_22 (k22 : Int → Int → Int → Mem → Option (Int × Mem)) (l0 l1 l2 : Int) (M : Mem) : Option (Int × Mem) :=
  (gK 9 M l0).bind fun _ =>
  (mX9_manyFacts l0 M).bind fun q25 =>
  if ishl 1 q25.1 ≤ l2 then
    if l1 = 0 then
      some ((-1), q25.2)
    else
      (gK 9 q25.2 l0).bind fun _ =>
      (mX9_findYes l0 l1 q25.2).bind fun q72 =>
      mX9_questions_77 FU l0 l1 0 q72.2
  else
    (gK 9 q25.2 l0).bind fun _ =>
    (mX9_isWorld l0 l2 q25.2).bind fun q34 =>
    if q34.1 = 0 then
      mX9_questions_58 k22 l0 l1 l2 q34.2
    else
      if l1 = 16 then
        some ((-1), q34.2)
      else
        (gF 9 58 q34.2 l0).bind fun a49 =>
        (aS 10 q34.2 a49 l1 l2).bind fun M54 =>
        mX9_questions_58 k22 l0 (wI (l1 + 1)) l2 M54
noncomputable def mX9_questions_22 : Nat → Int → Int → Int → Mem → Option (Int × Mem)
  | 0 => fun _ _ _ _ => none
  | fu + 1 => bX9_questions_22 (mX9_questions_22 fu)
noncomputable def mX9_questions (l0 : Int) (M : Mem) : Option (Int × Mem) :=
  (pF 9 0 M l0 0).bind fun M2 =>
  (gK 9 M2 l0).bind fun _ =>
  (mX9_canTell l0 M2).bind fun q6 =>
  if q6.1 = 0 then
    some ((-1), q6.2)
  else
    (gK 9 q6.2 l0).bind fun _ =>
    (mX9_prepare l0 q6.2).bind fun q15 =>
    mX9_questions_22 FU l0 0 0 q15.2
noncomputable def bX9_settle_125 (k125 : Int → Int → Int → Int → Int → Mem → Option (Int × Mem)) (l0 l1 l2 l3 l4 : Int) (M : Mem) : Option (Int × Mem) :=
  (gF 9 27 M l0).bind fun a126 =>
  (aG 10 M a126 (wI (l4 + 1))).bind fun a133 =>
  if l2 < a133 then
    (gF 9 10 M l0).bind fun a146 =>
    (aG 10 M a146 l4).bind fun a151 =>
    (gK 9 M l0).bind fun _ =>
    (mX9_sizeOf l0 a151 M).bind fun q152 =>
    if l1 = 0 then
      some (l4, q152.2)
    else
      if l1 = 1 then
        (gF 9 27 q152.2 l0).bind fun a173 =>
        (aG 10 q152.2 a173 l4).bind fun a178 =>
        (dQ (wI (l2 - a178)) q152.1).bind fun a182 =>
        some (a182, q152.2)
      else
        if l1 = 3 then
          some (l3, q152.2)
        else
          (gF 9 10 q152.2 l0).bind fun a196 =>
          (aG 10 q152.2 a196 l4).bind fun a201 =>
          if a201 = (-1) then
            some ((-1), q152.2)
          else
            (gF 9 27 q152.2 l0).bind fun a212 =>
            (aG 10 q152.2 a212 l4).bind fun a217 =>
            (dM (wI (l2 - a217)) q152.1).bind fun a221 =>
            some (a221, q152.2)
  else
    k125 l0 l1 l2 l3 (wI (l4 + 1)) M
noncomputable def mX9_settle_125 : Nat → Int → Int → Int → Int → Int → Mem → Option (Int × Mem)
  | 0 => fun _ _ _ _ _ _ => none
  | fu + 1 => bX9_settle_125 (mX9_settle_125 fu)
noncomputable def mX9_settle_116 (k50 : Int → Int → Int → Int → Int → Mem → Option (Int × Mem)) (l0 l1 l2 l3 l4 : Int) (M : Mem) : Option (Int × Mem) :=
  k50 l0 l1 l2 l3 (wI (l4 + 1)) M
noncomputable def mX9_settle_110 (k50 : Int → Int → Int → Int → Int → Mem → Option (Int × Mem)) (l0 l1 l4 l5 : Int) (M : Mem) : Option (Int × Mem) :=
  mX9_settle_116 k50 l0 l1 l4 l5 l4 M
noncomputable def mX9_settle_97 (k50 : Int → Int → Int → Int → Int → Mem → Option (Int × Mem)) (l0 l1 l2 l3 l4 s0 : Int) (M : Mem) : Option (Int × Mem) :=
  if l2 = (-1) then
    mX9_settle_110 k50 l0 l1 l4 s0 M
  else
    if l3 ≤ s0 then
      mX9_settle_116 k50 l0 l1 l2 l3 l4 M
    else
      mX9_settle_110 k50 l0 l1 l4 s0 M
noncomputable def bX9_settle_50 (k50 : Int → Int → Int → Int → Int → Mem → Option (Int × Mem)) (l0 l1 l2 l3 l4 : Int) (M : Mem) : Option (Int × Mem) :=
  (gK 9 M l0).bind fun _ =>
  (mX9_manyFacts l0 M).bind fun q53 =>
  if q53.1 ≤ l4 then
    mX9_settle_125 FU l0 l1 l2 l3 0 q53.2
  else
    (gF 9 56 q53.2 l0).bind fun a61 =>
    (aG 10 q53.2 a61 l4).bind fun a66 =>
    (gF 9 57 q53.2 l0).bind fun a69 =>
    if wI (2 * a66) ≤ a69 then
      (gF 9 57 q53.2 l0).bind fun a86 =>
      (gF 9 56 q53.2 l0).bind fun a90 =>
      (aG 10 q53.2 a90 l4).bind fun a95 =>
      mX9_settle_97 k50 l0 l1 l2 l3 l4 (wI (a86 - a95)) q53.2
    else
      (gF 9 56 q53.2 l0).bind fun a76 =>
      (aG 10 q53.2 a76 l4).bind fun a81 =>
      mX9_settle_97 k50 l0 l1 l2 l3 l4 a81 q53.2
noncomputable def mX9_settle_50 : Nat → Int → Int → Int → Int → Int → Mem → Option (Int × Mem)
  | 0 => fun _ _ _ _ _ _ => none
  | fu + 1 => bX9_settle_50 (mX9_settle_50 fu)
noncomputable def mX9_settle (l0 l1 : Int) (M : Mem) : Option (Int × Mem) :=
  (pF 9 0 M l0 0).bind fun M2 =>
  (gK 9 M2 l0).bind fun _ =>
  (mX9_canTell l0 M2).bind fun q6 =>
  if q6.1 = 0 then
    some ((-1), q6.2)
  else
    (gK 9 q6.2 l0).bind fun _ =>
    (mX9_manyFacts l0 q6.2).bind fun q13 =>
    if q13.1 = 0 then
      some ((-1), q13.2)
    else
      (mX9_in l1 0 3 q13.2).bind fun q22 =>
      if q22.1 = 0 then
        some ((-1), q22.2)
      else
        (gK 9 q22.2 l0).bind fun _ =>
        (mX9_countFacts l0 q22.2).bind fun q31 =>
        (gF 9 57 q31.2 l0).bind fun a35 =>
        if a35 = 0 then
          some ((-1), q31.2)
        else
          mX9_settle_50 FU l0 l1 (-1) 0 0 q31.2
noncomputable def mX9_near_109 (k24 : Int → Int → Int → Int → Mem → Option (Int × Mem)) (l0 l1 l2 l3 : Int) (M : Mem) : Option (Int × Mem) :=
  k24 l0 l1 l2 (wI (l3 + 1)) M
noncomputable def mX9_near_104 (k24 : Int → Int → Int → Int → Mem → Option (Int × Mem)) (l0 l3 l4 : Int) (M : Mem) : Option (Int × Mem) :=
  mX9_near_109 k24 l0 l3 l4 l3 M
noncomputable def mX9_near_84 (k24 : Int → Int → Int → Int → Mem → Option (Int × Mem)) (k51 : Int → Int → Int → Int → Int → Int → Mem → Option (Int × Mem)) (l0 l1 l2 l3 l5 s0 s1 : Int) (M : Mem) : Option (Int × Mem) :=
  k51 l0 l1 l2 l3 (wI (s0 + s1)) (wI (l5 + 1)) M
noncomputable def bX9_near_51 (k24 : Int → Int → Int → Int → Mem → Option (Int × Mem)) (k51 : Int → Int → Int → Int → Int → Int → Mem → Option (Int × Mem)) (l0 l1 l2 l3 l4 l5 : Int) (M : Mem) : Option (Int × Mem) :=
  (gK 9 M l0).bind fun _ =>
  (mX9_manyFacts l0 M).bind fun q54 =>
  if q54.1 ≤ l5 then
    if l1 = (-1) then
      mX9_near_104 k24 l0 l3 l4 q54.2
    else
      if l2 ≤ l4 then
        mX9_near_109 k24 l0 l1 l2 l3 q54.2
      else
        mX9_near_104 k24 l0 l3 l4 q54.2
  else
    (gF 9 28 q54.2 l0).bind fun a63 =>
    (aG 11 q54.2 a63 l5).bind fun a68 =>
    (gF 9 11 q54.2 l0).bind fun a70 =>
    (aG 11 q54.2 a70 l5).bind fun a75 =>
    if a68 = a75 then
      mX9_near_84 k24 k51 l0 l1 l2 l3 l5 l4 0 q54.2
    else
      mX9_near_84 k24 k51 l0 l1 l2 l3 l5 l4 1 q54.2
noncomputable def mX9_near_51 (k24 : Int → Int → Int → Int → Mem → Option (Int × Mem)) : Nat → Int → Int → Int → Int → Int → Int → Mem → Option (Int × Mem)
  | 0 => fun _ _ _ _ _ _ _ => none
  | fu + 1 => bX9_near_51 k24 (mX9_near_51 k24 fu)
noncomputable def bX9_near_24 (k24 : Int → Int → Int → Int → Mem → Option (Int × Mem)) (l0 l1 l2 l3 : Int) (M : Mem) : Option (Int × Mem) :=
  (gK 9 M l0).bind fun _ =>
  (mX9_manyFacts l0 M).bind fun q27 =>
  if ishl 1 q27.1 ≤ l3 then
    if l1 = (-1) then
      some ((-1), q27.2)
    else
      (gK 9 q27.2 l0).bind fun _ =>
      (mX9_takeWorld l0 l1 q27.2).bind fun q124 =>
      some (l2, q124.2)
  else
    (gK 9 q27.2 l0).bind fun _ =>
    (mX9_isWorld l0 l3 q27.2).bind fun q36 =>
    if q36.1 = 0 then
      mX9_near_109 k24 l0 l1 l2 l3 q36.2
    else
      mX9_near_51 k24 FU l0 l1 l2 l3 0 0 q36.2
noncomputable def mX9_near_24 : Nat → Int → Int → Int → Int → Mem → Option (Int × Mem)
  | 0 => fun _ _ _ _ _ => none
  | fu + 1 => bX9_near_24 (mX9_near_24 fu)
noncomputable def mX9_near (l0 : Int) (M : Mem) : Option (Int × Mem) :=
  (pF 9 0 M l0 0).bind fun M2 =>
  (gK 9 M2 l0).bind fun _ =>
  (mX9_canTell l0 M2).bind fun q6 =>
  if q6.1 = 0 then
    some ((-1), q6.2)
  else
    (gK 9 q6.2 l0).bind fun _ =>
    (mX9_prepare l0 q6.2).bind fun q15 =>
    mX9_near_24 FU l0 (-1) 0 0 q15.2
noncomputable def mX9_holds_89 (k41 : Int → Int → Int → Int → Mem → Option (Int × Mem)) (l0 l1 l3 s0 s1 : Int) (M : Mem) : Option (Int × Mem) :=
  k41 l0 l1 (wI (s0 + s1)) (wI (l3 + 1)) M
noncomputable def mX9_holds_88 (k41 : Int → Int → Int → Int → Mem → Option (Int × Mem)) (l0 l1 l3 s0 : Int) (M : Mem) : Option (Int × Mem) :=
  mX9_holds_89 k41 l0 l1 l3 s0 0 M
noncomputable def mX9_holds_75 (k41 : Int → Int → Int → Int → Mem → Option (Int × Mem)) (l0 l1 l3 s0 : Int) (M : Mem) : Option (Int × Mem) :=
  (gK 9 M l0).bind fun _ =>
  (mX9_means l0 8 M).bind fun q78 =>
  if q78.1 = 0 then
    mX9_holds_88 k41 l0 l1 l3 s0 q78.2
  else
    mX9_holds_89 k41 l0 l1 l3 s0 1 q78.2
noncomputable def bX9_holds_41 (k41 : Int → Int → Int → Int → Mem → Option (Int × Mem)) (l0 l1 l2 l3 : Int) (M : Mem) : Option (Int × Mem) :=
  (gK 9 M l0).bind fun _ =>
  (mX9_manyFacts l0 M).bind fun q44 =>
  if ishl 1 q44.1 ≤ l3 then
    some (l2, q44.2)
  else
    if l1 = 0 then
      (gK 9 q44.2 l0).bind fun _ =>
      (mX9_isWorld l0 l3 q44.2).bind fun q58 =>
      if q58.1 = 0 then
        mX9_holds_88 k41 l0 l1 l3 l2 q58.2
      else
        mX9_holds_75 k41 l0 l1 l3 l2 q58.2
    else
      (gK 9 q44.2 l0).bind fun _ =>
      (mX9_isForm l0 l3 q44.2).bind fun q69 =>
      if q69.1 = 0 then
        mX9_holds_88 k41 l0 l1 l3 l2 q69.2
      else
        mX9_holds_75 k41 l0 l1 l3 l2 q69.2
noncomputable def mX9_holds_41 : Nat → Int → Int → Int → Int → Mem → Option (Int × Mem)
  | 0 => fun _ _ _ _ _ => none
  | fu + 1 => bX9_holds_41 (mX9_holds_41 fu)
noncomputable def mX9_holds (l0 l1 : Int) (M : Mem) : Option (Int × Mem) :=
  (pF 9 0 M l0 0).bind fun M2 =>
  (gF 9 15 M2 l0).bind fun a6 =>
  (aG 10 M2 a6 8).bind fun a11 =>
  if a11 = 0 then
    some ((-1), M2)
  else
    (gK 9 M2 l0).bind fun _ =>
    (mX9_canTell l0 M2).bind fun q16 =>
    if q16.1 = 0 then
      some ((-1), q16.2)
    else
      (mX9_in l1 0 1 q16.2).bind fun q25 =>
      if q25.1 = 0 then
        some ((-1), q25.2)
      else
        (gK 9 q25.2 l0).bind fun _ =>
        (mX9_prepare l0 q25.2).bind fun q34 =>
        mX9_holds_41 FU l0 l1 0 0 q34.2
noncomputable def mX9_against_64 (k30 : Int → Int → Mem → Option (Int × Mem)) (l0 l1 : Int) (M : Mem) : Option (Int × Mem) :=
  k30 l0 (wI (l1 + 1)) M
noncomputable def bX9_against_30 (k30 : Int → Int → Mem → Option (Int × Mem)) (l0 l1 : Int) (M : Mem) : Option (Int × Mem) :=
  (gK 9 M l0).bind fun _ =>
  (mX9_manyFacts l0 M).bind fun q33 =>
  if ishl 1 q33.1 ≤ l1 then
    some (0, q33.2)
  else
    (gK 9 q33.2 l0).bind fun _ =>
    (mX9_isForm l0 l1 q33.2).bind fun q42 =>
    if q42.1 = 0 then
      mX9_against_64 k30 l0 l1 q42.2
    else
      (gK 9 q42.2 l0).bind fun _ =>
      (mX9_means l0 8 q42.2).bind fun q51 =>
      if q51.1 = 0 then
        (gK 9 q51.2 l0).bind fun _ =>
        (mX9_takeWorld l0 l1 q51.2).bind fun q59 =>
        some (1, q59.2)
      else
        mX9_against_64 k30 l0 l1 q51.2
noncomputable def mX9_against_30 : Nat → Int → Int → Mem → Option (Int × Mem)
  | 0 => fun _ _ _ => none
  | fu + 1 => bX9_against_30 (mX9_against_30 fu)
noncomputable def mX9_against (l0 : Int) (M : Mem) : Option (Int × Mem) :=
  (pF 9 0 M l0 0).bind fun M2 =>
  (gF 9 15 M2 l0).bind fun a6 =>
  (aG 10 M2 a6 8).bind fun a11 =>
  if a11 = 0 then
    some (0, M2)
  else
    (gK 9 M2 l0).bind fun _ =>
    (mX9_canTell l0 M2).bind fun q16 =>
    if q16.1 = 0 then
      some (0, q16.2)
    else
      (gK 9 q16.2 l0).bind fun _ =>
      (mX9_prepare l0 q16.2).bind fun q25 =>
      mX9_against_30 FU l0 0 q25.2
noncomputable def mX9_many_131 (k110 : Int → Int → Int → Mem → Option (Int × Mem)) (l0 l3 s0 s1 : Int) (M : Mem) : Option (Int × Mem) :=
  k110 l0 (wI (s0 + s1)) (wI (l3 + 1)) M
noncomputable def bX9_many_110 (k110 : Int → Int → Int → Mem → Option (Int × Mem)) (l0 l2 l3 : Int) (M : Mem) : Option (Int × Mem) :=
  if 36 ≤ l3 then
    some (l2, M)
  else
    (gF 9 11 M l0).bind fun a118 =>
    (aG 11 M a118 l3).bind fun a122 =>
    if a122 = 0 then
      mX9_many_131 k110 l0 l3 l2 0 M
    else
      mX9_many_131 k110 l0 l3 l2 1 M
noncomputable def mX9_many_110 : Nat → Int → Int → Int → Mem → Option (Int × Mem)
  | 0 => fun _ _ _ _ => none
  | fu + 1 => bX9_many_110 (mX9_many_110 fu)
noncomputable def mX9_many (l0 l1 : Int) (M : Mem) : Option (Int × Mem) :=
  (pF 9 0 M l0 0).bind fun M2 =>
  if l1 = 0 then
    (gF 9 7 M2 l0).bind fun a69 =>
    (aG 10 M2 a69 l1).bind fun a73 =>
    some (a73, M2)
  else
  if l1 = 1 then
    (gF 9 7 M2 l0).bind fun a69 =>
    (aG 10 M2 a69 l1).bind fun a73 =>
    some (a73, M2)
  else
  if l1 = 2 then
    (gF 9 7 M2 l0).bind fun a69 =>
    (aG 10 M2 a69 l1).bind fun a73 =>
    some (a73, M2)
  else
  if l1 = 3 then
    (gF 9 8 M2 l0).bind fun a76 =>
    (aG 10 M2 a76 0).bind fun a80 =>
    some (a80, M2)
  else
  if l1 = 4 then
    (gF 9 12 M2 l0).bind fun a83 =>
    (aG 10 M2 a83 0).bind fun a87 =>
    some (a87, M2)
  else
  if l1 = 5 then
    (gF 9 5 M2 l0).bind fun a90 =>
    (aG 10 M2 a90 0).bind fun a94 =>
    some (a94, M2)
  else
  if l1 = 6 then
    (gF 9 6 M2 l0).bind fun a97 =>
    (aG 10 M2 a97 0).bind fun a101 =>
    some (a101, M2)
  else
  if l1 = 7 then
    (gK 9 M2 l0).bind fun _ =>
    (mX9_told l0 M2).bind fun q104 =>
    some (q104.1, q104.2)
  else
  if l1 = 8 then
    mX9_many_110 FU l0 0 0 M2
  else
  if l1 = 9 then
    (gF 9 15 M2 l0).bind fun a142 =>
    (aG 10 M2 a142 8).bind fun a147 =>
    some (a147, M2)
  else
  if l1 = 10 then
    (gF 9 20 M2 l0).bind fun a150 =>
    (aG 10 M2 a150 0).bind fun a154 =>
    some (a154, M2)
  else
  some ((-2), M2)
noncomputable def mX9_image (l0 l1 : Int) (M : Mem) : Option (Int × Mem) :=
  (pF 9 0 M l0 0).bind fun M2 =>
  (mX9_in l1 0 2 M2).bind fun q8 =>
  if q8.1 = 0 then
    some (0, q8.2)
  else
    (gK 9 q8.2 l0).bind fun _ =>
    (mX9_copy l0 0 (wI (l1 + 1)) q8.2).bind fun q21 =>
    (gF 9 62 q21.2 l0).bind fun a25 =>
    (aSZ 11 q21.2 a25 l1 1).bind fun M30 =>
    some (1, M30)
noncomputable def mX9_again (l0 l1 : Int) (M : Mem) : Option (Int × Mem) :=
  (pF 9 0 M l0 0).bind fun M2 =>
  (mX9_in l1 0 2 M2).bind fun q8 =>
  if q8.1 = 0 then
    some (0, q8.2)
  else
    (gF 9 62 q8.2 l0).bind fun a15 =>
    (aG 11 q8.2 a15 l1).bind fun a19 =>
    if a19 = 0 then
      some (0, q8.2)
    else
      (gK 9 q8.2 l0).bind fun _ =>
      (mX9_copy l0 (wI (l1 + 1)) 0 q8.2).bind fun q30 =>
      some (1, q30.2)
