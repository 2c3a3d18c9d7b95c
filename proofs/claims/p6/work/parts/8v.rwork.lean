/-! ===== the reference's judge: joints, a whole text ===== -/
section
variable {S : SH} {ps : List Row} {t : Int} {φ : Int → Bool} {M : Mem} {L : List ((Int → Int) → Bool)} {r : Row} {k : Int}
def NI (f : (Int → Int) → Bool) (g : (Int → Int) → Bool) (len a : Nat) (M : Mem) : Prop := ∀ y : Nat, y < 81 → mG M 160 (81 * (len : Int) + (y : Int)) = b2i (if y < a then g (envOf y) else f (envOf y))
theorem NI.st {f g : (Int → Int) → Bool} {len a : Nat} {M M' : Mem} {v : Int} (h : NI f g len a M) (hv : v = b2i (g (envOf a))) (hM : M' = mS M 160 (81 * (len : Int) + (a : Int)) v) : NI f g len (a + 1) M' := fun y hy => by
  by_cases e : y = a
  · rw [e, st_eq hM, hv, if_pos (by omega)]
  · rw [st_ne hM (fun u => e (by have := u.2; omega)), h y hy]
    by_cases c : y < a
    · rw [if_pos c, if_pos (by omega)]
    · rw [if_neg c, if_neg (by omega)]
theorem w_not {f : (Int → Int) → Bool} (h : RM S ps t φ M) (hd : RDl (f :: L) M) (hl : L.length ≤ 40) (rx : RX r k M) (h0 : r.r0 = 4) (ht : mG M 126 46 = (L.length : Int) + 1) : pw (mX9_join 126 k M) (fun q => QR S ps t φ ((fun e => !f e) :: L) M q.2) := by
  have lc : (((fun e => !f e) :: L).length : Int) = (L.length : Int) + 1 := by rw [List.length_cons]; omega
  have loop : ∀ (fu a : Nat) (M' : Mem), a ≤ 81 → FP9 L.length M M' → NI f (fun e => !f e) L.length a M' → pw (mX9_join_25 fu 126 (81 * (L.length : Int)) (a : Int) M') (fun q => QR S ps t φ ((fun e => !f e) :: L) M q.2) := by
    intro fu
    induction fu with
    | zero => intro a M' _ _ _; exact p_none
    | succ fu ih =>
      intro a M' ha fr ni
      show pw (bX9_join_25 (mX9_join_25 fu) 126 (81 * (L.length : Int)) (a : Int) M') _
      have hm : RM S ps t φ M' := h.kp fr.fm
      have e160 : mG M' 126 45 = 160 := hm.1.2.2.2.2.2.2.2.2.2.2.1
      unfold bX9_join_25
      refine p_if (fun c => p_ret ?_) (fun c => ?_)
      · refine ⟨hm, ⟨fun y hy => ?_, hd.2.kp (fun j hj => fr 160 j (by omega))⟩, ((fr 126 46 (fun w => absurd w.1 (by decide))).trans ht).trans lc.symm, fr.fm⟩
        show mG M' 160 _ = _
        rw [ni y hy, if_pos (by omega)]
      have v := ni a (by omega)
      rw [if_neg (Nat.lt_irrefl a)] at v
      have wa := wI_id (x := 81 * (L.length : Int) + (a : Int)) (by omega) (by omega)
      have wr : ∀ x : Int, x = b2i (!f (envOf a)) → pw (mX9_join_57 (mX9_join_25 fu) 126 (81 * (L.length : Int)) (a : Int) 160 (81 * (L.length : Int) + (a : Int)) x M') (fun q => QR S ps t φ ((fun e => !f e) :: L) M q.2) := fun x hx => by
        unfold mX9_join_57
        refine p_aSZ (fun M3 h3 => ?_)
        rw [wI_s (p := a) (by omega)]
        exact ih (a + 1) M3 (by omega) (fun c j w => (st_ne h3 (fun u => w ⟨u.1, by omega⟩)).trans (fr c j w)) (ni.st hx h3)
      refine p_gFc (ji := 45) rfl e160 (p_gFc (ji := 45) rfl e160 ?_)
      rw [wa]
      refine p_aGc v (p_if (fun z => wr 1 ?_) (fun z => wr 0 ?_))
      · rw [b2i_0.mp z]; rfl
      · cases hb : f (envOf a) with
        | true => rfl
        | false => exact absurd (b2i_0.mpr hb) z
  unfold mX9_join
  refine p_gFc (ji := 16) rfl h.1.2.2.2.1 (p_aGc (rx.1.trans h0) (p_gFc (ji := 46) rfl ht (p_some (fun b hb => p_it1 rfl ?_))))
  rw [wI_id (x := (L.length : Int) + 1 - 1) (by omega) (by omega), wI_id (x := 81 * ((L.length : Int) + 1 - 1)) (by omega) (by omega), show 81 * ((L.length : Int) + 1 - 1) = 81 * (L.length : Int) by omega] at hb
  subst hb
  refine loop FU 0 M (by omega) (fun _ _ _ => rfl) (fun y hy => ?_)
  rw [if_neg (by omega)]
  exact hd.1 y hy
theorem w_join {f g : (Int → Int) → Bool} (h : RM S ps t φ M) (hd : RDl (f :: g :: L) M) (hl : L.length ≤ 40) (rx : RX r k M) (h0 : 5 ≤ r.r0 ∧ r.r0 ≤ 7) (ht : mG M 126 46 = (L.length : Int) + 2) : pw (mX9_join 126 k M) (fun q => QR S ps t φ ((fun e => joinT r.r0 (f e) (g e)) :: L) M q.2) := by
  have lc : (((fun e => joinT r.r0 (f e) (g e)) :: L).length : Int) = (L.length : Int) + 1 := by rw [List.length_cons]; omega
  have lg : ((g :: L).length : Int) = (L.length : Int) + 1 := by rw [List.length_cons]; omega
  have hf := hd.1
  rw [lg] at hf
  have loop : ∀ (fu a : Nat) (M' : Mem), a ≤ 81 → (∀ c j : Int, ¬ (c = 126 ∧ j = 46) → ¬ (c = 160 ∧ 81 * (L.length : Int) ≤ j ∧ j < 81 * (L.length : Int) + 81) → mG M' c j = mG M c j) → mG M' 126 46 = (L.length : Int) + 1 → NI g (fun e => joinT r.r0 (f e) (g e)) L.length a M' → pw (mX9_join_78 fu 126 r.r0 (81 * ((L.length : Int) + 1)) (a : Int) M') (fun q => QR S ps t φ ((fun e => joinT r.r0 (f e) (g e)) :: L) M q.2) := by
    intro fu
    induction fu with
    | zero => intro a M' _ _ _ _; exact p_none
    | succ fu ih =>
      intro a M' ha fr t46 ni
      show pw (bX9_join_78 (mX9_join_78 fu) 126 r.r0 (81 * ((L.length : Int) + 1)) (a : Int) M') _
      have fm : FM M M' := fun c j x y _ => fr c j x (fun w => y w.1)
      have hm : RM S ps t φ M' := h.kp fm
      have e160 : mG M' 126 45 = 160 := hm.1.2.2.2.2.2.2.2.2.2.2.1
      unfold bX9_join_78
      refine p_if (fun c => p_ret ?_) (fun c => ?_)
      · refine ⟨hm, ⟨fun y hy => ?_, hd.2.2.kp (fun j hj => fr 160 j (fun w => absurd w.1 (by decide)) (by omega))⟩, t46.trans lc.symm, fm⟩
        show mG M' 160 _ = _
        rw [ni y hy, if_pos (by omega)]
      have a81 : a < 81 := by omega
      have w1 := wI_id (x := 81 * ((L.length : Int) + 1) + (a : Int)) (by omega) (by omega)
      have w2 := wI_id (x := 81 * ((L.length : Int) + 1) - 81) (by omega) (by omega)
      have w3 := wI_id (x := 81 * ((L.length : Int) + 1) - 81 + (a : Int)) (by omega) (by omega)
      have w4 : ¬ ((160 : Int) = 126 ∧ 81 * ((L.length : Int) + 1) + (a : Int) = 46) := fun w => absurd w.1 (by decide)
      have w5 : ¬ ((160 : Int) = 160 ∧ 81 * (L.length : Int) ≤ 81 * ((L.length : Int) + 1) + (a : Int) ∧ 81 * ((L.length : Int) + 1) + (a : Int) < 81 * (L.length : Int) + 81) := by omega
      have v : ∀ _ : Unit, mG M' 160 (81 * (L.length : Int) + (a : Int)) = b2i (g (envOf a)) := fun _ => (ni a a81).trans (by rw [if_neg (Nat.lt_irrefl a)])
      have u : ∀ _ : Unit, mG M' 160 (81 * ((L.length : Int) + 1) + (a : Int)) = b2i (f (envOf a)) := fun _ => (fr 160 _ w4 w5).trans (hf a a81)
      rw [w1, w2, w3, show 81 * ((L.length : Int) + 1) - 81 + (a : Int) = 81 * (L.length : Int) + (a : Int) by omega]
      have wr : ∀ x : Int, x = b2i (joinT r.r0 (f (envOf a)) (g (envOf a))) → pw (mX9_join_183 (mX9_join_78 fu) 126 r.r0 (81 * ((L.length : Int) + 1)) (a : Int) 160 (81 * (L.length : Int) + (a : Int)) x M') (fun q => QR S ps t φ ((fun e => joinT r.r0 (f e) (g e)) :: L) M q.2) := fun x hx => by
        unfold mX9_join_183
        refine p_aSZ (fun M3 h3 => ?_)
        rw [wI_s (p := a) (by omega)]
        exact ih (a + 1) M3 (by omega) (fun c j x y => (st_ne h3 (fun u => y ⟨u.1, by omega, by omega⟩)).trans (fr c j x y)) ((st_ne h3 (fun w => absurd w.1 (by decide))).trans t46) (ni.st hx h3)
      have ff : ∀ {b : Bool}, ¬ b2i b = 0 → b = true := fun {b} z => by
        cases b with
        | true => rfl
        | false => exact absurd rfl z
      refine p_gFc (ji := 45) rfl e160 (p_aGc (u ()) (p_gFc (ji := 45) rfl e160 (p_aGc (v ()) (p_gFc (ji := 45) rfl e160 ?_))))
      refine p_if (fun c5 => ?_) (fun c5 => p_if (fun c6 => ?_) (fun c6 => ?_))
      · have jt : ∀ p q : Bool, joinT r.r0 p q = (p && q) := fun p q => if_pos c5
        rw [jt] at wr
        refine p_if (fun z1 => ?_) (fun z1 => p_if (fun z2 => ?_) (fun z2 => ?_))
        · exact wr 0 (by rw [b2i_0.mp z1]; rfl)
        · exact wr 0 (by rw [b2i_0.mp z2, Bool.and_false]; rfl)
        · exact wr 1 (by rw [ff z1, ff z2]; rfl)
      · have jt : ∀ p q : Bool, joinT r.r0 p q = (p || q) := fun p q => by unfold joinT; rw [if_neg c5, if_pos c6]
        rw [jt] at wr
        refine p_if (fun z1 => p_if (fun z2 => ?_) (fun z2 => ?_)) (fun z1 => ?_)
        · exact wr 0 (by rw [b2i_0.mp z1, b2i_0.mp z2]; rfl)
        · exact wr 1 (by rw [ff z2, Bool.or_true]; rfl)
        · exact wr 1 (by rw [ff z1]; rfl)
      · have jt : ∀ p q : Bool, joinT r.r0 p q = (!p || q) := fun p q => by unfold joinT; rw [if_neg c5, if_neg c6]
        rw [jt] at wr
        refine p_if (fun z1 => ?_) (fun z1 => p_if (fun z2 => ?_) (fun z2 => ?_))
        · exact wr 1 (by rw [b2i_0.mp z1]; rfl)
        · exact wr 0 (by rw [ff z1, b2i_0.mp z2]; rfl)
        · exact wr 1 (by rw [ff z2, Bool.or_true]; rfl)
  unfold mX9_join
  refine p_gFc (ji := 16) rfl h.1.2.2.2.1 (p_aGc rx.1 (p_gFc (ji := 46) rfl ht (p_some (fun b hb => p_it0 (by omega) ?_))))
  rw [wI_id (x := (L.length : Int) + 2 - 1) (by omega) (by omega), wI_id (x := 81 * ((L.length : Int) + 2 - 1)) (by omega) (by omega), show 81 * ((L.length : Int) + 2 - 1) = 81 * ((L.length : Int) + 1) by omega] at hb
  subst hb
  refine p_gFc (ji := 46) rfl ht (p_pF (ji := 46) rfl (fun M1 h1 => ?_))
  rw [wI_id (x := (L.length : Int) + 2 - 1) (by omega) (by omega), show (L.length : Int) + 2 - 1 = (L.length : Int) + 1 by omega] at h1
  refine loop FU 0 M1 (by omega) (fun c j x _ => st_ne h1 x) (st_eq h1) (fun y hy => ?_)
  rw [if_neg (by omega), st_ne h1 (fun w => absurd w.1 (by decide))]
  exact hd.2.1 y hy
/-! a whole text -/
theorem ty_at {nr : Int} {k1 k2 : Int → Int} : ∀ (p : Nat) (ps : List Row) (ws : List (Int × Int)), ty nr k1 k2 ws ps → ∃ ws2, ty nr k1 k2 ws2 (ps.drop p) := by
  intro p
  induction p with
  | zero => intro ps ws h; exact ⟨ws, h⟩
  | succ p ih =>
    intro ps ws h
    cases ps with
    | nil => exact ⟨ws, h⟩
    | cons r rs =>
      cases ws with
      | nil => exact absurd h id
      | cons x ws => exact ih rs _ h.2
theorem sm_le {A : Int → Int → Int → Bool} : ∀ rs : List Row, (sm S A rs).length ≤ rs.length := by
  intro rs
  induction rs with
  | nil => exact Nat.le_refl 0
  | cons r rs ih =>
    show (stp S A r (sm S A rs)).length ≤ rs.length + 1
    unfold stp
    split
    · split
      · rename_i e; rw [e] at ih; exact Nat.le_succ_of_le ih
      · exact Nat.zero_le _
    · split
      · split
        · rename_i e; rw [e] at ih; exact Nat.le_succ_of_le ih
        · exact Nat.zero_le _
      · split
        · split
          · rename_i e; rw [e] at ih; simp only [List.length_cons] at ih ⊢; omega
          · exact Nat.zero_le _
        · simp only [List.length_cons]; omega
theorem w_step {x : Int × Int} {rs : List Row} {ws : List (Int × Int)} (ok : S.ok) (h : RM S ps t φ M) (rx : RX r k M) (hrow : rowOK S.nr S.k1 S.k2 x.1 x.2 r) (hl : rs.length < 40) (hty : ty S.nr S.k1 S.k2 (kids r x ++ ws) rs) (hd : RDl (sm S (S.fa φ) rs) M) (ht : mG M 126 46 = ((sm S (S.fa φ) rs).length : Int)) {Q : Int × Mem → Prop} {K : Mem → Option (Int × Mem)} (fin : ∀ m, QR S ps t φ (sm S (S.fa φ) (r :: rs)) M m → pw (K m) Q) : pw (if r.r0 < 8 then (gF 9 16 M 126).bind fun a49 => (aG 10 M a49 k).bind fun a54 => if 3 < a54 then (gK 9 M 126).bind fun _ => (mX9_join 126 k M).bind fun q71 => K q71.2 else (gK 9 M 126).bind fun _ => (mX9_bind 126 k M).bind fun q62 => K q62.2 else (gK 9 M 126).bind fun _ => (mX9_leaf 126 k M).bind fun q42 => K q42.2) Q := by
  have sl := sm_le (S := S) (A := S.fa φ) rs
  have sn := sm_len (S := S) (A := S.fa φ) rs _ hty
  rw [List.length_append, kids_len] at sn
  have fin' : ∀ L, stp S (S.fa φ) r (sm S (S.fa φ) rs) = L → ∀ m, QR S ps t φ L M m → pw (K m) Q := fun L e m q => fin m (by show QR S ps t φ (stp S (S.fa φ) r (sm S (S.fa φ) rs)) M m; rw [e]; exact q)
  have er : r.c0 ≤ 7 → r.r0 = r.c0 ∧ 0 ≤ r.c0 := fun y => by
    unfold rowOK at hrow
    omega
  have er8 : 8 ≤ r.c0 → 8 ≤ r.r0 := fun y => by
    unfold rowOK at hrow
    omega
  refine p_if (fun c => ?_) (fun c => ?_)
  · have c7 : r.c0 ≤ 7 := by
      by_cases z : r.c0 ≤ 7
      · exact z
      · have := er8 (by omega); omega
    obtain ⟨e0, p0⟩ := er c7
    refine p_gFc (ji := 16) rfl h.1.2.2.2.1 (p_aGc rx.1 (p_if (fun c3 => p_gK ?_) (fun c3 => p_gK ?_)))
    · by_cases c4 : r.r0 = 4
      · have ar : ari r.c0 = 1 := by unfold ari; rw [if_pos (by omega)]
        cases hs : sm S (S.fa φ) rs with
        | nil => rw [hs] at sn; simp only [List.length_nil] at sn; omega
        | cons f L =>
          rw [hs] at hd ht sl
          have hln : ((f :: L).length : Int) = (L.length : Int) + 1 := by rw [List.length_cons]; omega
          rw [List.length_cons] at sl
          refine p_call (w_not (L := L) h hd (by omega) rx c4 (ht.trans hln)) (fun v m y => fin' _ ?_ m y)
          rw [hs]; unfold stp; rw [if_neg (by omega), if_pos (by omega)]
      · have ar : ari r.c0 = 2 := by unfold ari; rw [if_neg (by omega), if_pos (by omega)]
        cases hs : sm S (S.fa φ) rs with
        | nil => rw [hs] at sn; simp only [List.length_nil] at sn; omega
        | cons f L =>
          cases L with
          | nil => rw [hs] at sn; simp only [List.length_cons, List.length_nil] at sn; omega
          | cons g L =>
            rw [hs] at hd ht sl
            have hln : ((f :: g :: L).length : Int) = (L.length : Int) + 2 := by rw [List.length_cons, List.length_cons]; omega
            rw [List.length_cons, List.length_cons] at sl
            refine p_call (w_join (L := L) h hd (by omega) rx (by omega) (ht.trans hln)) (fun v m y => fin' _ ?_ m y)
            rw [hs]; unfold stp; rw [if_neg (by omega), if_neg (by omega), if_pos (by omega), e0]
    · have ar : ari r.c0 = 1 := by unfold ari; rw [if_pos (by omega)]
      have hb : (0 ≤ r.r1 ∧ r.r1 ≤ 3) ∧ (0 ≤ r.r2 ∧ r.r2 ≤ 2) := by
        unfold rowOK at hrow
        omega
      cases hs : sm S (S.fa φ) rs with
      | nil => rw [hs] at sn; simp only [List.length_nil] at sn; omega
      | cons f L =>
        rw [hs] at hd ht sl
        have hln : ((f :: L).length : Int) = (L.length : Int) + 1 := by rw [List.length_cons]; omega
        rw [List.length_cons] at sl
        refine p_call (w_binder (L := L) ok h hd (by omega) rx (by omega) hb.1 hb.2 (ht.trans hln)) (fun v m y => fin' _ ?_ m y)
        rw [hs]; unfold stp; rw [if_pos (by omega)]
  · have c8 : 8 ≤ r.c0 := by
      by_cases z : r.c0 ≤ 7
      · have := er z; omega
      · omega
    refine p_gK (p_call (w_leaf ok h hd (by omega) rx (hrow.lr c8) ht) (fun v m y => fin' _ ?_ m y))
    unfold stp
    rw [if_neg (by omega), if_neg (by omega), if_neg (by omega)]
theorem w_work14 (ok : S.ok) (ht : 0 ≤ t ∧ t < 36) (hl : ps.length ≤ 40) {ws : List (Int × Int)} (hty : ty S.nr S.k1 S.k2 ws ps) {f : Nat} : ∀ (fu p : Nat) (M' : Mem), f ≤ p → p ≤ ps.length → QR S ps t φ (sm S (S.fa φ) (ps.drop p)) M M' → pw (mX9_work_14 fu 126 t (f : Int) ((p : Int) - 1) M') (fun q => QR S ps t φ (sm S (S.fa φ) (ps.drop f)) M q.2) := by
  intro fu
  induction fu with
  | zero => intro p M' _ _ _; exact p_none
  | succ fu ih =>
    intro p M' hp hp2 qr
    show pw (bX9_work_14 (mX9_work_14 fu) 126 t (f : Int) ((p : Int) - 1) M') _
    unfold bX9_work_14
    obtain ⟨q1, q2, q3, q4⟩ := qr
    refine p_if (fun c => p_ret ?_) (fun c => p_some (fun b hb => ?_))
    · have : p = f := by omega
      subst this
      exact ⟨q1, q2, q3, q4⟩
    · rw [wI_id (x := 40 * t) (by omega) (by omega), wI_id (x := 40 * t + ((p : Int) - 1)) (by omega) (by omega)] at hb
      subst hb
      obtain ⟨r, hr, hdr⟩ := getE (ps := ps) (k := p - 1) (by omega)
      rw [show p - 1 + 1 = p by omega] at hdr
      have rx := q1.2.2.2.2.2 (p - 1) r hr
      rw [show 40 * t + ((p - 1 : Nat) : Int) = 40 * t + ((p : Int) - 1) by omega] at rx
      obtain ⟨ws2, ht2⟩ := ty_at (p - 1) ps ws hty
      rw [hdr] at ht2
      cases ws2 with
      | nil => exact absurd ht2 id
      | cons x ws2 =>
        have ln : (ps.drop p).length < 40 := by rw [List.length_drop]; omega
        refine p_gFc (ji := 16) rfl q1.1.2.2.2.1 (p_aGc rx.1 ?_)
        refine w_step (K := mX9_work_74 (mX9_work_14 fu) 126 t (f : Int) ((p : Int) - 1)) ok q1 rx ht2.1 ln ht2.2 q2 q3 (fun m y => ?_)
        unfold mX9_work_74
        rw [wI_id (x := (p : Int) - 1 + (-1)) (by omega) (by omega), show (p : Int) - 1 + (-1) = ((p - 1 : Nat) : Int) - 1 by omega]
        refine ih (p - 1) m (by omega) (by omega) ?_
        rw [hdr]
        exact ⟨y.1, y.2.1, y.2.2.1, q4.tr y.2.2.2⟩
theorem w_work (ok : S.ok) (h : RM S ps t φ M) (ht : 0 ≤ t ∧ t < 36) (hl : ps.length ≤ 40) {ws : List (Int × Int)} (hty : ty S.nr S.k1 S.k2 ws ps) {f : Nat} (hf : f ≤ ps.length) : pw (mX9_work 126 t (f : Int) M) (fun q => QR S ps t φ (sm S (S.fa φ) (ps.drop f)) M q.2) := by
  unfold mX9_work
  refine p_pF (ji := 46) rfl (fun M1 h1 => ?_)
  have fm : FM M M1 := fun c j x _ _ => st_ne h1 x
  have hm := h.kp fm
  refine p_gFc (ji := 15) rfl hm.1.2.2.1 (p_aGc hm.2.2.2.2.1 ?_)
  rw [wI_id (x := (ps.length : Int) - 1) (by omega) (by omega)]
  refine w_work14 ok ht hl hty FU ps.length M1 hf (Nat.le_refl _) ?_
  rw [List.drop_length]
  exact ⟨hm, True.intro, st_eq h1, fm⟩
/-- what the text means, all variables' values first ones -/
theorem w_means (ok : S.ok) (h : RM S ps t φ M) (ht : 0 ≤ t ∧ t < 36) (hl : ps.length ≤ 40) {x : Int × Int} (hty : ty S.nr S.k1 S.k2 [x] ps) : pw (mX9_means 126 t M) (fun q => (RM S ps t φ q.2 ∧ FM M q.2) ∧ q.1 = b2i (hd (sm S (S.fa φ) ps) (envOf 0))) := by
  have sn := sm_len (S := S) (A := S.fa φ) ps _ hty
  unfold mX9_means
  refine p_gK (p_call (w_work (f := 0) ok h ht hl hty (Nat.zero_le _)) (fun v m y => ?_))
  obtain ⟨y1, y2, y3, y4⟩ := y
  rw [List.drop_zero] at y2
  cases hs : sm S (S.fa φ) ps with
  | nil => rw [hs] at sn; simp only [List.length_cons, List.length_nil] at sn; omega
  | cons f L =>
    rw [hs] at y2 sn
    have l0 : L.length = 0 := by simp only [List.length_cons, List.length_nil] at sn; omega
    have v0 := y2.1 0 (by decide)
    rw [l0] at v0
    refine p_gFc (ji := 45) rfl y1.1.2.2.2.2.2.2.2.2.2.2.1 (p_aGc v0 (p_zR (fun _ => p_ret ⟨⟨y1, y4⟩, rfl⟩)))
end
