section
/-! ===== scopes once more: slots ===== -/
def ScS (sc bo : Int) : Prop := ScR sc bo ∧ ∀ v : Int, 0 ≤ v → v ≤ 3 → ¬ bnd bo v = -1 → 0 ≤ slt sc v ∧ slt sc v < ishr sc 16
theorem ScS.start : ScS 0 255 := ⟨ScR.start, fun v v0 v1 h => by
  have d : ∀ v : Nat, v < 4 → bnd 255 (v : Int) = -1 := by decide +kernel
  have := d v.toNat (by omega)
  rw [show ((v.toNat : Nat) : Int) = v by omega] at this
  exact absurd this h⟩
theorem slt_n : ∀ k : Nat, k < 3 → ∀ s : Nat, s < 4 → ishr (wI (((1 + k + 4 * s : Nat) : Int) - 1)) 2 = (s : Int) := by decide +kernel
/-- what a binder binds, and what it leaves -/
theorem bind_new {sc bo v k : Int} (h : ScR sc bo) (hd : ishr sc 16 < 4) (hv : 0 ≤ v ∧ v ≤ 3) (hk : 0 ≤ k ∧ k ≤ 2) : slt (bindC sc (cv v) k (ishr sc 16)) v = ishr sc 16 ∧ bnd (bindR bo v k) v = k ∧ (∀ u : Int, 0 ≤ u → u ≤ 3 → ¬ u = v → slt (bindC sc (cv v) k (ishr sc 16)) u = slt sc u ∧ bnd (bindR bo v k) u = bnd bo u) ∧ ishr (bindC sc (cv v) k (ishr sc 16)) 16 = ishr sc 16 + 1 := by
  obtain ⟨a1, a2, a3, a4, a5, a6⟩ := h
  obtain ⟨v, rfl⟩ := Int.eq_ofNat_of_zero_le hv.1
  obtain ⟨k, rfl⟩ := Int.eq_ofNat_of_zero_le hk.1
  obtain ⟨s, hs⟩ := Int.eq_ofNat_of_zero_le a5
  have hv4 : v < 4 := by omega
  obtain ⟨N, e, N1, N2, N3, N4⟩ := bindC_ex (v := v) (k := k) (s := s) a1.1 a1.2 hv4 (by omega) (by omega) hs
  obtain ⟨R, f, R1, R2, R3, R4⟩ := bindR_ex (bo := bo) (v := v) (k := k) a2.1 (by omega) hv4 (by omega)
  have dep : ishr (N : Int) 16 = (s : Int) + 1 := by
    have := ishr_e (x := (N : Int)) (k := 16) (by omega) (by omega) (by decide)
    rw [show ((16 : Nat) : Int) = 16 from rfl] at this
    rw [this, show ((2 : Int) ^ 16) = 65536 from rfl]
    omega
  rw [hs, e, f]
  refine ⟨?_, ?_, fun u u0 u1 hu => ?_, dep⟩
  · unfold slt
    rw [cbd_nat (by omega) (by omega) hv4, Int.toNat_natCast, N2]
    exact slt_n k (by omega) s (by omega)
  · rw [bnd_nat (by omega) (by omega) hv4, Int.toNat_natCast, R2, if_neg (by omega)]
  · obtain ⟨u, rfl⟩ := Int.eq_ofNat_of_zero_le u0
    have hu4 : u < 4 := by omega
    have ne : ¬ u = v := fun y => hu (by rw [y])
    refine ⟨?_, ?_⟩
    · unfold slt
      rw [cbd_nat (by omega) (by omega) hu4, cbd_nat a1.1 (by omega) hu4, Int.toNat_natCast, N3 u hu4 ne]
    · rw [bnd_nat (by omega) (by omega) hu4, bnd_nat a2.1 (by omega) hu4, Int.toNat_natCast, R3 u hu4 ne]
theorem ScS.step {sc bo v k : Int} (h : ScS sc bo) (hd : ishr sc 16 < 4) (hv : 0 ≤ v ∧ v ≤ 3) (hk : 0 ≤ k ∧ k ≤ 2) : ScS (bindC sc (cv v) k (ishr sc 16)) (bindR bo v k) := by
  obtain ⟨b1, b2, b3, b4⟩ := bind_new h.1 hd hv hk
  have d0 := h.1.2.2.2.2.1
  refine ⟨h.1.step hd hv hk, fun u u0 u1 hu => ?_⟩
  by_cases e : u = v
  · subst e; rw [b1, b4]; omega
  · obtain ⟨c1, c2⟩ := b3 u u0 u1 e
    rw [c2] at hu
    have := h.2 u u0 u1 hu
    rw [c1, b4]; omega
/-! ===== the class's judge means what the text means ===== -/
section
variable {S : SH} {A : Int → Int → Int → Bool} {r : Row} {rs : List Row} {e : Int → Int}
theorem hd_leaf (h : 8 ≤ r.c0) : hd (sm S A (r :: rs)) e = leafT A r e := by
  show hd (stp S A r (sm S A rs)) e = _
  unfold stp
  rw [if_neg (by omega), if_neg (by omega), if_neg (by omega)]; rfl
theorem hd_not (h : r.c0 = 4) (hl : 1 ≤ (sm S A rs).length) : hd (sm S A (r :: rs)) e = !hd (sm S A rs) e := by
  show hd (stp S A r (sm S A rs)) e = _
  unfold stp
  rw [if_neg (by omega), if_pos h]
  cases hs : sm S A rs with
  | nil => rw [hs] at hl; exact absurd hl (by decide)
  | cons f L => rfl
theorem hd_join (h : 5 ≤ r.c0 ∧ r.c0 ≤ 7) (hl : 2 ≤ (sm S A rs).length) : hd (sm S A (r :: rs)) e = joinT r.c0 (hd (sm S A rs) e) (hd ((sm S A rs).drop 1) e) := by
  show hd (stp S A r (sm S A rs)) e = _
  unfold stp
  rw [if_neg (by omega), if_neg (by omega), if_pos h.2]
  cases hs : sm S A rs with
  | nil => rw [hs] at hl; exact absurd hl (by decide)
  | cons f L =>
    cases L with
    | nil => rw [hs] at hl; exact absurd hl (by simp)
    | cons g L => rfl
theorem hd_bind (h : r.c0 ≤ 3) (hl : 1 ≤ (sm S A rs).length) : hd (sm S A (r :: rs)) e = bindT S r (hd (sm S A rs)) e := by
  show hd (stp S A r (sm S A rs)) e = _
  unfold stp
  rw [if_pos h]
  cases hs : sm S A rs with
  | nil => rw [hs] at hl; exact absurd hl (by decide)
  | cons f L => rfl
theorem cnt_b (g : Int → Bool) : ∀ n : Nat, 0 ≤ cnt g n ∧ cnt g n ≤ (n : Int) := by
  intro n
  induction n with
  | zero => exact ⟨Int.le_refl _, Int.le_refl _⟩
  | succ n ih =>
    show 0 ≤ cnt g n + (if g (n : Int) = true then 1 else 0) ∧ cnt g n + (if g (n : Int) = true then 1 else 0) ≤ _
    split <;> omega
theorem drop_get {ps rs : List Row} {r : Row} {p : Nat} (h : ps.drop p = r :: rs) : ps[p]? = some r ∧ p < ps.length ∧ ps.drop (p + 1) = rs := by
  have lt : p < ps.length := by
    by_cases y : p < ps.length
    · exact y
    · rw [List.drop_eq_nil_of_le (by omega)] at h; cases h
  obtain ⟨r', h1, h2⟩ := getE lt
  rw [h] at h2
  obtain ⟨e1, e2⟩ := List.cons.inj h2
  exact ⟨by rw [e1]; exact h1, lt, e2.symm⟩
end
section
variable {S : SH} {ps : List Row} {t s : Int} {Φ : Nat → Int → Bool} {M : Mem}
def JC (S : SH) (ps : List Row) (t s : Int) (Φ : Nat → Int → Bool) (M : Mem) : Prop := JF S ps t s Φ M ∧ JP S Φ M ∧ (0 ≤ mG M 20 5 ∧ mG M 20 5 < 16)
def JQ (S : SH) (ps : List Row) (t s : Int) (Φ : Nat → Int → Bool) (d : Int) (M : Mem) (g : Nat → Bool) (q : Int × Mem) : Prop := (InLL q.1 ∧ ∀ b : Nat, b < 64 → lb q.1 b = g b) ∧ JC S ps t s Φ q.2 ∧ FJ d M q.2
theorem q_slot {x : Int} (h : JF S ps t s Φ M) (hx : 0 ≤ x ∧ x < 4) : pw (mX0_slot 20 x M) (fun q => q.2 = M ∧ q.1 = mG M 22 x) := by
  unfold mX0_slot
  exact p_it0 (by omega) (p_it0 (by omega) (p_gFc (ji := 3) rfl h.1.2.2.2.1 (p_aG (fun v hv => p_ret ⟨rfl, hv.symm⟩))))
theorem q_sizeAt {p : Nat} {r : Row} (h : JF S ps t s Φ M) (hr : ps[p]? = some r) (hk : 0 ≤ r.c3 ∧ r.c3 ≤ 2) : pw (mX0_sizeAt 20 (p : Int) M) (fun q => q.2 = M ∧ q.1 = S.sz r.c3) := by
  obtain ⟨t1, t2, t3, t4⟩ := h.2.2.1.2.1 p r hr
  unfold mX0_sizeAt
  refine p_gFc (ji := 1) rfl h.1.2.1 (p_gFc (ji := 3) rfl h.2.2.1.1.2.2.2.2.1 (p_aGc t4 (p_it0 (by omega) (p_it0 (by omega) ?_))))
  exact p_gFc (ji := 0) rfl h.1.1 (p_gFc (ji := 0) rfl h.2.1.1.1 (p_aGc (h.2.1.2.1 r.c3 hk.1 (by omega)) (p_ret ⟨rfl, rfl⟩)))
theorem q_atLeast {n one two three : Int} {c : Nat → Int} (hn : 0 ≤ n) (hc : ∀ b : Nat, 0 ≤ c b ∧ c b ≤ 3) (h1 : InLL one ∧ ∀ b : Nat, b < 64 → lb one b = decide (1 ≤ c b)) (h2 : InLL two ∧ ∀ b : Nat, b < 64 → lb two b = decide (2 ≤ c b)) (h3 : InLL three ∧ ∀ b : Nat, b < 64 → lb three b = decide (3 ≤ c b)) : pw (mX0_atLeast n one two three M) (fun q => q.2 = M ∧ InLL q.1 ∧ ∀ b : Nat, b < 64 → lb q.1 b = decide (n ≤ c b)) := by
  unfold mX0_atLeast
  refine p_if (fun e => p_ret ⟨rfl, L_m1, fun b hb => ?_⟩) (fun e0 => ?_)
  · show lb (-1) b = _
    rw [lb_m1 hb, decide_eq_true (by have := (hc b).1; omega)]
  refine p_if (fun e => p_ret ⟨rfl, h1.1, fun b hb => ?_⟩) (fun e1 => ?_)
  · show lb one b = _
    rw [h1.2 b hb, e]
  refine p_if (fun e => p_ret ⟨rfl, h2.1, fun b hb => ?_⟩) (fun e2 => ?_)
  · show lb two b = _
    rw [h2.2 b hb, e]
  refine p_if (fun e => p_ret ⟨rfl, h3.1, fun b hb => ?_⟩) (fun e3 => p_ret ⟨rfl, L_0, fun b hb => ?_⟩)
  · show lb three b = _
    rw [h3.2 b hb, e]
  · show lb 0 b = _
    rw [lb_zero, decide_eq_false (by have := (hc b).2; omega)]
def JIH (S : SH) (ps : List Row) (t s : Int) (Φ : Nat → Int → Bool) (fu : Nat) : Prop := ∀ (p : Nat) (dep sc bo : Int) (ws : List (Int × Int)) (e : Int → Int) (M : Mem), JC S ps t s Φ M → ty S.nr S.k1 S.k2 ((sc, bo) :: ws) (ps.drop p) → ScS sc bo → 0 ≤ dep → dep ≤ (p : Int) → (∀ v : Int, 0 ≤ v → v ≤ 3 → ¬ bnd bo v = -1 → mG M 22 (slt sc v) = e v) → pw (gX0_judged fu 20 (p : Int) dep M) (JQ S ps t s Φ (ishr sc 16) M (fun b => hd (sm S (S.fa (Φ b)) (ps.drop p)) e))
theorem wI_s {p : Nat} (h : p < 100000) : wI ((p : Int) + 1) = ((p + 1 : Nat) : Int) := by
  rw [wI_id (x := (p : Int) + 1) (by omega) (by omega)]; omega
theorem wI_d {d : Int} (h : 0 ≤ d ∧ d < 100000) : wI (d + 1) = d + 1 := wI_id (x := d + 1) (by omega) (by omega)
theorem cnt_1 {c : Int} (x : Bool) (h : 0 ≤ c) : (decide (1 ≤ c) || x) = decide (1 ≤ c + (if x = true then 1 else 0)) := by
  cases x with
  | true => rw [Bool.or_true, if_pos rfl, decide_eq_true (by omega)]
  | false => rw [Bool.or_false, if_neg (by decide), Int.add_zero]
theorem cnt_n {c n m : Int} (x : Bool) (h : m = n + 1) : (decide (m ≤ c) || (decide (n ≤ c) && x)) = decide (m ≤ c + (if x = true then 1 else 0)) := by
  cases x with
  | true =>
    rw [Bool.and_true, if_pos rfl, ← Bool.decide_or]
    exact decide_eq_decide.mpr (by omega)
  | false => rw [Bool.and_false, Bool.or_false, if_neg (by decide), Int.add_zero]
theorem q_bend {p k fu2 : Nat} {dep sc one two three : Int} {e : Int → Int} {m M2 : Mem} {r : Row} {rs : List Row} {J : Int → Int → Int → Mem → Option (Int × Mem)} (h3 : r.c0 ≤ 3) (c0 : 0 ≤ r.c0) (w2 : r.r0 = r.c0) (w3 : r.r3 = r.c1) (w4 : 0 ≤ r.c1 ∧ r.c1 < 10000) (w6 : r.r2 = r.c3) (szb : 1 ≤ S.sz r.c3 ∧ S.sz r.c3 ≤ 3) (hr : ps[p]? = some r) (lens : ∀ b : Nat, 1 ≤ (sm S (S.fa (Φ b)) rs).length) (hk2 : (k : Int) ≤ S.sz r.c3) (jc2 : JC S ps t s Φ M2) (fr : FJ (ishr sc 16) m M2) (h1 : InLL one ∧ ∀ b : Nat, b < 64 → lb one b = decide (1 ≤ cnt (fun x => hd (sm S (S.fa (Φ b)) rs) (evu e r.r1 x)) k)) (h2 : InLL two ∧ ∀ b : Nat, b < 64 → lb two b = decide (2 ≤ cnt (fun x => hd (sm S (S.fa (Φ b)) rs) (evu e r.r1 x)) k)) (h3' : InLL three ∧ ∀ b : Nat, b < 64 → lb three b = decide (3 ≤ cnt (fun x => hd (sm S (S.fa (Φ b)) rs) (evu e r.r1 x)) k)) (c : S.sz r.c3 ≤ (k : Int)) : pw (bX0_counted_42 J noF noF (mX0_counted_42 J noF noF fu2) 20 (p : Int) dep (S.sz r.c3) (ishr sc 16) one two three (k : Int) M2) (JQ S ps t s Φ (ishr sc 16) m (fun b => hd (sm S (S.fa (Φ b)) (r :: rs)) e)) := by
  obtain ⟨jf2, jp2, h52⟩ := id jc2
  have tt2 := jf2.2.2.1
  obtain ⟨s1, s2, s3, s4⟩ := tt2.2.1 p r hr
  have gb : ∀ b : Nat, ∀ k : Nat, 0 ≤ cnt (fun x => hd (sm S (S.fa (Φ b)) rs) (evu e r.r1 x)) k ∧ cnt (fun x => hd (sm S (S.fa (Φ b)) rs) (evu e r.r1 x)) k ≤ (k : Int) := fun b k => cnt_b _ k
  unfold bX0_counted_42
  refine p_it1 c ?_
  have ek : (S.sz r.r2).toNat = k := by rw [w6]; omega
  have es : S.sz r.r2 = (k : Int) := by rw [w6]; omega
  have bt : ∀ b : Nat, hd (sm S (S.fa (Φ b)) (r :: rs)) e = bindT S r (hd (sm S (S.fa (Φ b)) rs)) e := fun b => hd_bind h3 (lens b)
  have bu : ∀ b : Nat, bindT S r (hd (sm S (S.fa (Φ b)) rs)) e = if r.r0 = 0 then decide (cnt (fun x => hd (sm S (S.fa (Φ b)) rs) (evu e r.r1 x)) k = (k : Int)) else if r.r0 = 1 then decide (0 < cnt (fun x => hd (sm S (S.fa (Φ b)) rs) (evu e r.r1 x)) k) else if r.r0 = 2 then decide (r.r3 ≤ cnt (fun x => hd (sm S (S.fa (Φ b)) rs) (evu e r.r1 x)) k) else decide (cnt (fun x => hd (sm S (S.fa (Φ b)) rs) (evu e r.r1 x)) k ≤ r.r3) := fun b => by
    unfold bindT
    dsimp only
    rw [ek, es]
  have fin : ∀ x : Int, InLL x → (∀ b : Nat, b < 64 → lb x b = bindT S r (hd (sm S (S.fa (Φ b)) rs)) e) → JQ S ps t s Φ (ishr sc 16) m (fun b => hd (sm S (S.fa (Φ b)) (r :: rs)) e) (x, M2) := fun x hx hb => ⟨⟨hx, fun b h => (hb b h).trans (bt b).symm⟩, jc2, fr⟩
  have cb : ∀ b : Nat, 0 ≤ cnt (fun x => hd (sm S (S.fa (Φ b)) rs) (evu e r.r1 x)) k ∧ cnt (fun x => hd (sm S (S.fa (Φ b)) rs) (evu e r.r1 x)) k ≤ 3 := fun b => by have := gb b k; omega
  refine p_gFc (ji := 1) rfl jf2.1.2.1 (p_gFc (ji := 0) rfl tt2.1.2.1 (p_aGc s1 (p_if (fun c1 => ?_) (fun c1 => ?_))))
  · refine p_call (q_atLeast (by omega) cb h1 h2 h3') (fun x m2 y => ?_)
    obtain ⟨e1, y1, y2⟩ := y
    replace e1 : m2 = M2 := e1
    subst e1
    refine p_ret (fin x y1 (fun b h => ?_))
    rw [y2 b h, bu b, if_pos (by omega)]
    have := gb b k
    exact decide_eq_decide.mpr (by omega)
  · refine p_if (fun c2 => p_ret (fin one h1.1 (fun b h => ?_))) (fun c2 => ?_)
    · rw [h1.2 b h, bu b, if_neg (by omega), if_pos (by omega)]
      exact decide_eq_decide.mpr (by omega)
    refine p_if (fun c3 => ?_) (fun c3 => ?_)
    · refine p_gFc (ji := 1) rfl jf2.1.2.1 (p_gFc (ji := 1) rfl tt2.1.2.2.1 (p_aGc s2 (p_call (q_atLeast w4.1 cb h1 h2 h3') (fun x m2 y => ?_))))
      obtain ⟨e1, y1, y2⟩ := y
      replace e1 : m2 = M2 := e1
      subst e1
      refine p_ret (fin x y1 (fun b h => ?_))
      rw [y2 b h, bu b, if_neg (by omega), if_neg (by omega), if_pos (by omega), w3]
    · refine p_gFc (ji := 1) rfl jf2.1.2.1 (p_gFc (ji := 1) rfl tt2.1.2.2.1 (p_aGc s2 ?_))
      rw [wI_id (x := r.c1 + 1) (by omega) (by omega)]
      refine p_call (q_atLeast (by omega) cb h1 h2 h3') (fun x m2 y => ?_)
      obtain ⟨e1, y1, y2⟩ := y
      replace e1 : m2 = M2 := e1
      subst e1
      refine p_ret (fin _ (lxor_L _ _) (fun b h => ?_))
      show lb (lxor x (-1)) b = _
      rw [lb_not _ h, y2 b h, bu b, if_neg (by omega), if_neg (by omega), if_neg (by omega), w3]
      by_cases g : cnt (fun x => hd (sm S (S.fa (Φ b)) rs) (evu e r.r1 x)) k ≤ r.c1
      · rw [decide_eq_true g, decide_eq_false (by omega)]; rfl
      · rw [decide_eq_false g, decide_eq_true (by omega)]; rfl
theorem q_jbind (ok : S.ok) (o : okST s t) {fu p : Nat} {dep sc bo : Int} {ws : List (Int × Int)} {e : Int → Int} {M : Mem} {r : Row} {rs : List Row} (ih : JIH S ps t s Φ fu) (jc : JC S ps t s Φ M) (hdp : ps.drop p = r :: rs) (hrow : rowOK S.nr S.k1 S.k2 sc bo r) (hty2 : ty S.nr S.k1 S.k2 (kids r (sc, bo) ++ ws) rs) (hsc : ScS sc bo) (d0 : 0 ≤ dep) (d1 : dep ≤ (p : Int)) (he : ∀ v : Int, 0 ≤ v → v ≤ 3 → ¬ bnd bo v = -1 → mG M 22 (slt sc v) = e v) (h3 : r.c0 ≤ 3) : pw ((gK 0 M 20).bind fun _ => (mX0_counted (gX0_judged fu) noF noF 20 (p : Int) dep M).bind fun q91 => some (q91.1, q91.2)) (JQ S ps t s Φ (ishr sc 16) M (fun b => hd (sm S (S.fa (Φ b)) (r :: rs)) e)) := by
  obtain ⟨jf, jp, h5⟩ := id jc
  have tt := jf.2.2.1
  have dd := hsc.1.2.2.2.2
  obtain ⟨hr, lt, hd1⟩ := drop_get hdp
  have l40 := tt.1.1
  obtain ⟨t1, t2, t3, t4⟩ := tt.2.1 p r hr
  have c0 := hrow.c0
  obtain ⟨T0, T1, T2, T3, T4, T5, T6⟩ := tt.1
  have ht1 : mG M 20 1 = t := jf.1.2.1
  have sl : ∀ v : Int, BV sc bo v → (0 ≤ slt sc v ∧ slt sc v < 4) ∧ mG M 22 (slt sc v) = e v := fun v hv => by
    have := hsc.2 v hv.1.1 hv.1.2 hv.2
    exact ⟨by omega, he v hv.1.1 hv.1.2 hv.2⟩
  have lens : ∀ b : Nat, (sm S (S.fa (Φ b)) rs).length = ari r.c0 + ws.length := fun b => by
    have := sm_len (S := S) (A := S.fa (Φ b)) rs _ hty2
    rw [List.length_append, kids_len] at this
    exact this
  have hb : (0 ≤ r.c0 ∧ r.c0 ≤ 3 ∧ r.r0 = r.c0 ∧ r.r3 = r.c1 ∧ (0 ≤ r.c1 ∧ r.c1 < 10000) ∧ r.c2 = ishr sc 16 ∧ r.r2 = r.c3 ∧ (0 ≤ r.c3 ∧ r.c3 ≤ 2) ∧ (0 ≤ r.r1 ∧ r.r1 ≤ 3) ∧ ishr sc 16 < 4) := by
    unfold rowOK at hrow
    rcases hrow with w | w | w | w | w | w | w
    · exact w
    all_goals (exfalso; omega)
  obtain ⟨w0, w1, w2, w3, w4, w5, w6, w7, w8, w9⟩ := hb
  have hk : kids r (sc, bo) = [(bindC sc (cv r.r1) r.c3 (ishr sc 16), bindR bo r.r1 r.c3)] := if_pos h3
  rw [hk] at hty2
  obtain ⟨n1, n2, n3, n4⟩ := bind_new (v := r.r1) (k := r.c3) hsc.1 w9 w8 w7
  have ari1 : ari r.c0 = 1 := if_pos (by omega)
  have szb := ok.1 r.c3 w7.1 (by omega)
  refine p_gK (p_call (P := JQ S ps t s Φ (ishr sc 16) M (fun b => hd (sm S (S.fa (Φ b)) (r :: rs)) e)) ?_ (fun a m z => p_ret z))
  unfold mX0_counted
  refine p_gK (p_call (q_sizeAt jf hr w7) (fun z m y => ?_))
  obtain ⟨e1, hz⟩ := y
  replace e1 : m = M := e1
  replace hz : z = S.sz r.c3 := hz
  subst e1; subst hz
  refine p_gFc (ji := 1) rfl ht1 (p_gFc (ji := 2) rfl T3 (p_aGc (t3.trans w5) (p_it0 (by omega) (p_it1 w9 ?_))))
  have gb : ∀ b : Nat, ∀ k : Nat, 0 ≤ cnt (fun x => hd (sm S (S.fa (Φ b)) rs) (evu e r.r1 x)) k ∧ cnt (fun x => hd (sm S (S.fa (Φ b)) rs) (evu e r.r1 x)) k ≤ (k : Int) := fun b k => cnt_b _ k
  have loop : ∀ (fu2 k : Nat) (one two three : Int) (M2 : Mem), (k : Int) ≤ S.sz r.c3 → JC S ps t s Φ M2 → FJ (ishr sc 16) m M2 → (InLL one ∧ ∀ b : Nat, b < 64 → lb one b = decide (1 ≤ cnt (fun x => hd (sm S (S.fa (Φ b)) rs) (evu e r.r1 x)) k)) → (InLL two ∧ ∀ b : Nat, b < 64 → lb two b = decide (2 ≤ cnt (fun x => hd (sm S (S.fa (Φ b)) rs) (evu e r.r1 x)) k)) → (InLL three ∧ ∀ b : Nat, b < 64 → lb three b = decide (3 ≤ cnt (fun x => hd (sm S (S.fa (Φ b)) rs) (evu e r.r1 x)) k)) → pw (mX0_counted_42 (gX0_judged fu) noF noF fu2 20 (p : Int) dep (S.sz r.c3) (ishr sc 16) one two three (k : Int) M2) (JQ S ps t s Φ (ishr sc 16) m (fun b => hd (sm S (S.fa (Φ b)) (r :: rs)) e)) := by
    intro fu2
    induction fu2 with
    | zero => intro k one two three M2 _ _ _ _ _ _; exact p_none
    | succ fu2 ih2 =>
      intro k one two three M2 hk2 jc2 fr h1 h2 h3'
      show pw (bX0_counted_42 (gX0_judged fu) noF noF (mX0_counted_42 (gX0_judged fu) noF noF fu2) 20 (p : Int) dep (S.sz r.c3) (ishr sc 16) one two three (k : Int) M2) _
      obtain ⟨jf2, jp2, h52⟩ := id jc2
      have tt2 := jf2.2.2.1
      obtain ⟨s1, s2, s3, s4⟩ := tt2.2.1 p r hr
      by_cases c : S.sz r.c3 ≤ (k : Int)
      · exact q_bend h3 w0 w2 w3 w4 w6 szb hr (fun b => by rw [lens b, ari1]; omega) hk2 jc2 fr h1 h2 h3' c
      unfold bX0_counted_42
      refine p_it0 c ?_
      · skip
        refine p_gFc (ji := 3) rfl jf2.1.2.2.2.1 (p_aS (fun M3 s3 => p_gK ?_))
        have fr3 : FJ (ishr sc 16) M2 M3 := FJ.st s3 (Int.le_refl _)
        have jc3 : JC S ps t s Φ M3 := ⟨fr3.jf dd.1 jf2 o, jp2.st s3, by rw [st_ne s3 (by omega)]; exact h52⟩
        rw [wI_s (p := p) (by omega), wI_d (d := dep) (by omega)]
        have hty3 : ty S.nr S.k1 S.k2 ((bindC sc (cv r.r1) r.c3 (ishr sc 16), bindR bo r.r1 r.c3) :: ws) (ps.drop (p + 1)) := by rw [hd1]; exact hty2
        have he3 : ∀ v : Int, 0 ≤ v → v ≤ 3 → ¬ bnd (bindR bo r.r1 r.c3) v = -1 → mG M3 22 (slt (bindC sc (cv r.r1) r.c3 (ishr sc 16)) v) = evu e r.r1 (k : Int) v := fun v v0 v1 hv => by
          unfold evu
          by_cases ev : v = r.r1
          · rw [ev, n1, if_pos rfl]; exact st_eq s3
          · obtain ⟨m1, m2⟩ := n3 v v0 v1 ev
            rw [m2] at hv
            have := hsc.2 v v0 v1 hv
            rw [m1, if_neg ev, st_ne s3 (fun w => by have := w.2; omega), fr 22 _ (fun w => absurd w.1 (by decide)) (by omega) (by decide)]
            exact he v v0 v1 hv
        refine p_call (ih (p + 1) (dep + 1) _ _ ws (evu e r.r1 (k : Int)) M3 jc3 hty3 (hsc.step w9 w8 w7) (by omega) (by omega) he3) (fun now m4 y => ?_)
        obtain ⟨⟨y1, y2⟩, jc4, fr4⟩ := y
        replace y1 : InLL now := y1
        replace y2 : ∀ b : Nat, b < 64 → lb now b = hd (sm S (S.fa (Φ b)) (ps.drop (p + 1))) (evu e r.r1 (k : Int)) := y2
        replace jc4 : JC S ps t s Φ m4 := jc4
        replace fr4 : FJ (ishr (bindC sc (cv r.r1) r.c3 (ishr sc 16)) 16) M3 m4 := fr4
        rw [hd1] at y2
        rw [n4] at fr4
        rw [wI_id (x := (k : Int) + 1) (by omega) (by omega), show (k : Int) + 1 = ((k + 1 : Nat) : Int) by omega]
        have cs : ∀ b : Nat, cnt (fun x => hd (sm S (S.fa (Φ b)) rs) (evu e r.r1 x)) (k + 1) = cnt (fun x => hd (sm S (S.fa (Φ b)) rs) (evu e r.r1 x)) k + (if hd (sm S (S.fa (Φ b)) rs) (evu e r.r1 (k : Int)) = true then 1 else 0) := fun b => rfl
        refine ih2 (k + 1) _ _ _ m4 (by omega) jc4 ((fr.tr fr3 (Int.le_refl _)).tr fr4 (by omega)) ⟨lor_L _ _, fun b h => ?_⟩ ⟨lor_L _ _, fun b h => ?_⟩ ⟨lor_L _ _, fun b h => ?_⟩
        · rw [lb_or, h1.2 b h, y2 b h, cs b]
          exact cnt_1 _ (gb b k).1
        · rw [lb_or, lb_and, h2.2 b h, h1.2 b h, y2 b h, cs b]
          exact cnt_n _ rfl
        · rw [lb_or, lb_and, h3'.2 b h, h2.2 b h, y2 b h, cs b]
          exact cnt_n _ rfl
  exact loop FU 0 0 0 0 m (by omega) jc FJ.rf ⟨L_0, fun b h => by rw [lb_zero]; rfl⟩ ⟨L_0, fun b h => by rw [lb_zero]; rfl⟩ ⟨L_0, fun b h => by rw [lb_zero]; rfl⟩
theorem q_jjoin (ok : S.ok) (o : okST s t) {fu p : Nat} {dep sc bo : Int} {ws : List (Int × Int)} {e : Int → Int} {M : Mem} {r : Row} {rs : List Row} (ih : JIH S ps t s Φ fu) (jc : JC S ps t s Φ M) (hdp : ps.drop p = r :: rs) (hrow : rowOK S.nr S.k1 S.k2 sc bo r) (hty2 : ty S.nr S.k1 S.k2 (kids r (sc, bo) ++ ws) rs) (hsc : ScS sc bo) (d0 : 0 ≤ dep) (d1 : dep ≤ (p : Int)) (he : ∀ v : Int, 0 ≤ v → v ≤ 3 → ¬ bnd bo v = -1 → mG M 22 (slt sc v) = e v) (h4 : 4 ≤ r.c0) (h7 : r.c0 ≤ 7) : pw ((gK 0 M 20).bind fun _ => (mX0_joined (gX0_judged fu) noF noF 20 (p : Int) dep M).bind fun q98 => some (q98.1, q98.2)) (JQ S ps t s Φ (ishr sc 16) M (fun b => hd (sm S (S.fa (Φ b)) (r :: rs)) e)) := by
  obtain ⟨jf, jp, h5⟩ := id jc
  have tt := jf.2.2.1
  have dd := hsc.1.2.2.2.2
  obtain ⟨hr, lt, hd1⟩ := drop_get hdp
  have l40 := tt.1.1
  obtain ⟨t1, t2, t3, t4⟩ := tt.2.1 p r hr
  have c0 := hrow.c0
  obtain ⟨T0, T1, T2, T3, T4, T5, T6⟩ := tt.1
  have ht1 : mG M 20 1 = t := jf.1.2.1
  have sl : ∀ v : Int, BV sc bo v → (0 ≤ slt sc v ∧ slt sc v < 4) ∧ mG M 22 (slt sc v) = e v := fun v hv => by
    have := hsc.2 v hv.1.1 hv.1.2 hv.2
    exact ⟨by omega, he v hv.1.1 hv.1.2 hv.2⟩
  have lens : ∀ b : Nat, (sm S (S.fa (Φ b)) rs).length = ari r.c0 + ws.length := fun b => by
    have := sm_len (S := S) (A := S.fa (Φ b)) rs _ hty2
    rw [List.length_append, kids_len] at this
    exact this
  have hk : kids r (sc, bo) = if r.c0 = 4 then [(sc, bo)] else [(sc, bo), (sc, bo)] := by
    unfold kids
    rw [if_neg (by omega)]
    by_cases e4 : r.c0 = 4
    · rw [if_pos e4, if_pos e4]
    · rw [if_neg e4, if_neg e4, if_pos h7]
  have hty3 : ∃ ws', ty S.nr S.k1 S.k2 ((sc, bo) :: ws') (ps.drop (p + 1)) ∧ (¬ r.c0 = 4 → ws' = (sc, bo) :: ws) := by
    rw [hd1]
    rw [hk] at hty2
    by_cases e4 : r.c0 = 4
    · rw [if_pos e4] at hty2; exact ⟨ws, hty2, fun y => absurd e4 y⟩
    · rw [if_neg e4] at hty2; exact ⟨(sc, bo) :: ws, hty2, fun _ => rfl⟩
  obtain ⟨ws', hty3, hws⟩ := hty3
  have lt1 : p + 1 < ps.length := by
    by_cases y : p + 1 < ps.length
    · exact y
    · rw [List.drop_eq_nil_of_le (by omega)] at hty3; cases hty3
  refine p_gK (p_call (P := JQ S ps t s Φ (ishr sc 16) M (fun b => hd (sm S (S.fa (Φ b)) (r :: rs)) e)) ?_ (fun a m z => p_ret z))
  unfold mX0_joined
  rw [wI_s (p := p) (by omega), wI_d (d := dep) (by omega)]
  refine p_gFc (ji := 1) rfl ht1 (p_gFc (ji := 5) rfl T6 (p_it1 (by omega) (p_gK (p_call (ih (p + 1) (dep + 1) sc bo ws' e M jc hty3 hsc (by omega) (by omega) he) (fun one m1 y => ?_)))))
  obtain ⟨⟨y1, y2⟩, jc1, fr1⟩ := y
  replace y1 : InLL one := y1
  replace y2 : ∀ b : Nat, b < 64 → lb one b = hd (sm S (S.fa (Φ b)) (ps.drop (p + 1))) e := y2
  replace jc1 : JC S ps t s Φ m1 := jc1
  replace fr1 : FJ (ishr sc 16) M m1 := fr1
  rw [hd1] at y2
  obtain ⟨jf1, jp1, h51⟩ := id jc1
  have tt1 := jf1.2.2.1
  obtain ⟨s1, s2, s3, s4⟩ := tt1.2.1 p r hr
  have bh := tt1.2.2 (p + 1) lt1
  refine p_gFc (ji := 1) rfl jf1.1.2.1 (p_gFc (ji := 4) rfl tt1.1.2.2.2.2.2.1 (p_aGc bh (p_gFc (ji := 1) rfl jf1.1.2.1 (p_gFc (ji := 0) rfl tt1.1.2.1 (p_aGc s1 (p_if (fun c4 => ?_) (fun c4 => ?_)))))))
  · refine p_ret ⟨⟨lxor_L _ _, fun b h => ?_⟩, jc1, fr1⟩
    show lb (lxor one (-1)) b = hd (sm S (S.fa (Φ b)) (r :: rs)) e
    have ari1 : ari r.c0 = 1 := if_pos (by omega)
    rw [lb_not _ h, y2 b h, hd_not c4 (by rw [lens b, ari1]; omega)]
  · have hws := hws c4
    subst hws
    have ari2 : ari r.c0 = 2 := by unfold ari; rw [if_neg (by omega), if_pos h7]
    have hj : ∀ b : Nat, hd (sm S (S.fa (Φ b)) (r :: rs)) e = joinT r.c0 (hd (sm S (S.fa (Φ b)) rs) e) (hd ((sm S (S.fa (Φ b)) rs).drop 1) e) := fun b => hd_join ⟨by omega, h7⟩ (by rw [lens b, ari2]; omega)
    have sk := skp_len (ps.drop (p + 1)) 1
    have dl : (ps.drop (p + 1)).length = ps.length - (p + 1) := List.length_drop ..
    obtain ⟨p2, hp2⟩ : ∃ p2 : Nat, p2 = ps.length - (skp 1 (ps.drop (p + 1))).length := ⟨_, rfl⟩
    have b2 : bhv ps (p + 1) = (p2 : Int) := by unfold bhv; rw [hp2]
    have dp2 : ps.drop p2 = skp 1 rs := by
      rw [← hd1, sk.2, List.drop_drop]
      congr 1
      omega
    have hty4 : ty S.nr S.k1 S.k2 ((sc, bo) :: ws) (ps.drop p2) := by
      rw [dp2, ← hd1]
      exact (ty_skp (S := S) (A := S.fa (Φ 0)) _ _ 1 hty3 (by simp)).1
    have sm2 : ∀ b : Nat, sm S (S.fa (Φ b)) (ps.drop p2) = (sm S (S.fa (Φ b)) rs).drop 1 := fun b => by
      rw [dp2, ← hd1]
      exact (ty_skp (S := S) (A := S.fa (Φ b)) _ _ 1 hty3 (by simp)).2
    have p2p : p + 1 ≤ p2 := by omega
    rw [b2]
    have second : pw (gX0_judged fu 20 (p2 : Int) (dep + 1) m1) (JQ S ps t s Φ (ishr sc 16) m1 (fun b => hd ((sm S (S.fa (Φ b)) rs).drop 1) e)) := by
      have := ih p2 (dep + 1) sc bo ws e m1 jc1 hty4 hsc (by omega) (by omega) (fun v v0 v1 hv => by
        have := hsc.2 v v0 v1 hv
        rw [fr1 22 _ (fun w => absurd w.1 (by decide)) (by omega) (by decide)]
        exact he v v0 v1 hv)
      refine p_mono this (fun q z => ⟨⟨z.1.1, fun b h => ?_⟩, z.2⟩)
      rw [z.1.2 b h]
      show hd (sm S (S.fa (Φ b)) (ps.drop p2)) e = hd ((sm S (S.fa (Φ b)) rs).drop 1) e
      rw [sm2 b]
    refine p_if (fun c5 => ?_) (fun c5 => p_if (fun c6 => ?_) (fun c6 => ?_))
    · refine p_if (fun cz => p_ret ⟨⟨L_0, fun b h => ?_⟩, jc1, fr1⟩) (fun _ => p_gK (p_call second (fun x m2 z => p_ret ?_)))
      · have cz := (l_zero y1).mp ((lcmp_0 _ _).mp cz) b h
        show lb 0 b = hd (sm S (S.fa (Φ b)) (r :: rs)) e
        rw [lb_zero, hj b]
        unfold joinT
        rw [if_pos c5, ← y2 b h, cz, Bool.false_and]
      · obtain ⟨⟨z1, z2⟩, jc2, fr2⟩ := z
        refine ⟨⟨land_L _ _, fun b h => ?_⟩, jc2, fr1.tr fr2 (Int.le_refl _)⟩
        show lb (land one x) b = hd (sm S (S.fa (Φ b)) (r :: rs)) e
        rw [lb_and, y2 b h, hj b]
        unfold joinT
        rw [if_pos c5]
        exact congrArg _ (z2 b h)
    · refine p_if (fun cz => p_ret ⟨⟨L_m1, fun b h => ?_⟩, jc1, fr1⟩) (fun _ => p_gK (p_call second (fun x m2 z => p_ret ?_)))
      · have cz := (l_m1 y1).mp ((lcmp_0 _ _).mp cz) b h
        show lb (-1) b = hd (sm S (S.fa (Φ b)) (r :: rs)) e
        rw [lb_m1 h, hj b]
        unfold joinT
        rw [if_neg c5, if_pos c6, ← y2 b h, cz, Bool.true_or]
      · obtain ⟨⟨z1, z2⟩, jc2, fr2⟩ := z
        refine ⟨⟨lor_L _ _, fun b h => ?_⟩, jc2, fr1.tr fr2 (Int.le_refl _)⟩
        show lb (lor one x) b = hd (sm S (S.fa (Φ b)) (r :: rs)) e
        rw [lb_or, y2 b h, hj b]
        unfold joinT
        rw [if_neg c5, if_pos c6]
        exact congrArg _ (z2 b h)
    · refine p_if (fun cz => p_ret ⟨⟨L_m1, fun b h => ?_⟩, jc1, fr1⟩) (fun _ => p_gK (p_call second (fun x m2 z => p_ret ?_)))
      · have cz := (l_zero y1).mp ((lcmp_0 _ _).mp cz) b h
        show lb (-1) b = hd (sm S (S.fa (Φ b)) (r :: rs)) e
        rw [lb_m1 h, hj b]
        unfold joinT
        rw [if_neg c5, if_neg c6, ← y2 b h, cz]; rfl
      · obtain ⟨⟨z1, z2⟩, jc2, fr2⟩ := z
        refine ⟨⟨lor_L _ _, fun b h => ?_⟩, jc2, fr1.tr fr2 (Int.le_refl _)⟩
        show lb (lor (lxor one (-1)) x) b = hd (sm S (S.fa (Φ b)) (r :: rs)) e
        rw [lb_or, lb_not _ h, y2 b h, hj b]
        unfold joinT
        rw [if_neg c5, if_neg c6]
        exact congrArg _ (z2 b h)
theorem q_judged (ok : S.ok) (o : okST s t) : ∀ (fu p : Nat) (dep sc bo : Int) (ws : List (Int × Int)) (e : Int → Int) (M : Mem), JC S ps t s Φ M → ty S.nr S.k1 S.k2 ((sc, bo) :: ws) (ps.drop p) → ScS sc bo → 0 ≤ dep → dep ≤ (p : Int) → (∀ v : Int, 0 ≤ v → v ≤ 3 → ¬ bnd bo v = -1 → mG M 22 (slt sc v) = e v) → pw (gX0_judged fu 20 (p : Int) dep M) (JQ S ps t s Φ (ishr sc 16) M (fun b => hd (sm S (S.fa (Φ b)) (ps.drop p)) e)) := by
  intro fu
  induction fu with
  | zero => intro p dep sc bo ws e M _ _ _ _ _ _; exact p_none
  | succ fu ih =>
    intro p dep sc bo ws e M jc hty hsc d0 d1 he
    obtain ⟨jf, jp, h5⟩ := id jc
    have tt := jf.2.2.1
    have dd := hsc.1.2.2.2.2
    cases hdp : ps.drop p with
    | nil => rw [hdp] at hty; cases hty
    | cons r rs =>
      rw [hdp] at hty
      obtain ⟨hrow, hty2⟩ := hty
      obtain ⟨hr, lt, hd1⟩ := drop_get hdp
      have l40 := tt.1.1
      obtain ⟨t1, t2, t3, t4⟩ := tt.2.1 p r hr
      have c0 := hrow.c0
      obtain ⟨T0, T1, T2, T3, T4, T5, T6⟩ := tt.1
      have ht1 : mG M 20 1 = t := jf.1.2.1
      have sl : ∀ v : Int, BV sc bo v → (0 ≤ slt sc v ∧ slt sc v < 4) ∧ mG M 22 (slt sc v) = e v := fun v hv => by
        have := hsc.2 v hv.1.1 hv.1.2 hv.2
        exact ⟨by omega, he v hv.1.1 hv.1.2 hv.2⟩
      have lens : ∀ b : Nat, (sm S (S.fa (Φ b)) rs).length = ari r.c0 + ws.length := fun b => by
        have := sm_len (S := S) (A := S.fa (Φ b)) rs _ hty2
        rw [List.length_append, kids_len] at this
        exact this
      show pw (mX0_judged noF (mX0_counted (gX0_judged fu) noF noF) (mX0_joined (gX0_judged fu) noF noF) 20 (p : Int) dep M) _
      unfold mX0_judged
      refine p_gFc (ji := 1) rfl ht1 (p_gFc (ji := 5) rfl T6 (p_it0 (by omega) (p_it1 (by omega) (p_gFc (ji := 1) rfl ht1 (p_gFc (ji := 0) rfl T1 (p_aGc t1 ?_))))))
      have bind : r.c0 ≤ 3 → _ := q_jbind ok o ih jc hdp hrow hty2 hsc d0 d1 he
      have join : 4 ≤ r.c0 → r.c0 ≤ 7 → _ := q_jjoin ok o ih jc hdp hrow hty2 hsc d0 d1 he
      refine p_if (fun c => bind (by omega)) (fun x0 => p_if (fun c => bind (by omega)) (fun x1 => p_if (fun c => bind (by omega)) (fun x2 => p_if (fun c => bind (by omega)) (fun x3 => ?_))))
      refine p_if (fun c => join (by omega) (by omega)) (fun x4 => p_if (fun c => join (by omega) (by omega)) (fun x5 => p_if (fun c => join (by omega) (by omega)) (fun x6 => p_if (fun c => join (by omega) (by omega)) (fun x7 => ?_))))
      have hl : ∀ b : Nat, hd (sm S (S.fa (Φ b)) (r :: rs)) e = leafT (S.fa (Φ b)) r e := fun b => hd_leaf (by omega)
      have f100 : ∀ {m : Mem}, FJ 100 M m → FJ (ishr sc 16) M m := fun f c j x y z => f c j x (fun w => y ⟨w.1, by omega⟩) z
      refine p_if (fun c8 => ?_) (fun x8 => ?_)
      · have hrw : r.r0 = 8 ∧ BV sc bo r.r1 ∧ BV sc bo r.r2 ∧ r.c2 = slt sc r.r1 ∧ r.c3 = slt sc r.r2 := by
          unfold rowOK at hrow
          rcases hrow with w | w | w | w | w | w | w
          · exfalso; omega
          · exfalso; omega
          · exact w.2
          all_goals (exfalso; omega)
        obtain ⟨w0, w1, w2, w3, w4⟩ := hrw
        obtain ⟨v1, v2⟩ := sl _ w1
        obtain ⟨v3, v4⟩ := sl _ w2
        refine p_gFc (ji := 1) rfl ht1 (p_gFc (ji := 2) rfl T3 (p_aGc (t3.trans w3) (p_gK (p_call (q_slot jf v1) (fun x m y => ?_)))))
        obtain ⟨e1, hx⟩ := y
        replace e1 : m = M := e1
        replace hx : x = mG M 22 (slt sc r.r1) := hx
        subst e1
        refine p_gFc (ji := 1) rfl ht1 (p_gFc (ji := 3) rfl T4 (p_aGc (t4.trans w4) (p_gK (p_call (q_slot jf v3) (fun x2 m2 y => ?_)))))
        obtain ⟨e1, hx2⟩ := y
        replace e1 : m2 = m := e1
        replace hx2 : x2 = mG m 22 (slt sc r.r2) := hx2
        subst e1
        rw [v2] at hx
        rw [v4] at hx2
        refine p_if (fun c => p_ret ⟨⟨L_m1, fun b h => ?_⟩, jc, FJ.rf⟩) (fun c => p_ret ⟨⟨L_0, fun b h => ?_⟩, jc, FJ.rf⟩)
        · show lb (-1) b = hd (sm S (S.fa (Φ b)) (r :: rs)) e
          replace c : x = x2 := c
          rw [lb_m1 h, hl b]
          unfold leafT
          rw [if_pos w0, decide_eq_true (by omega)]
        · show lb 0 b = hd (sm S (S.fa (Φ b)) (r :: rs)) e
          replace c : ¬ x = x2 := c
          rw [lb_zero, hl b]
          unfold leafT
          rw [if_pos w0, decide_eq_false (by omega)]
      refine p_if (fun c9 => ?_) (fun x9 => ?_)
      · have hrw : r.r0 = 9 ∧ r.c1 = r.r1 ∧ (0 ≤ r.r1 ∧ r.r1 < S.nr) ∧ S.k2 r.r1 = S.k1 r.r1 ∧ BV sc bo r.r2 ∧ BV sc bo r.r3 ∧ r.c2 = slt sc r.r2 ∧ r.c3 = slt sc r.r3 := by
          unfold rowOK at hrow
          rcases hrow with w | w | w | w | w | w | w
          · exfalso; omega
          · exfalso; omega
          · exfalso; omega
          · exact w.2
          all_goals (exfalso; omega)
        obtain ⟨w0, wr, wn, wk, w1, w2, w3, w4⟩ := hrw
        obtain ⟨v1, v2⟩ := sl _ w1
        obtain ⟨v3, v4⟩ := sl _ w2
        refine p_gFc (ji := 1) rfl ht1 (p_gFc (ji := 1) rfl T2 (p_aGc (t2.trans wr) (p_gFc (ji := 1) rfl ht1 (p_gFc (ji := 2) rfl T3 (p_aGc (t3.trans w3) (p_gK (p_call (q_slot jf v1) (fun x m y => ?_))))))))
        obtain ⟨e1, hx⟩ := y
        replace e1 : m = M := e1
        replace hx : x = mG M 22 (slt sc r.r2) := hx
        subst e1
        refine p_gFc (ji := 1) rfl ht1 (p_gFc (ji := 3) rfl T4 (p_aGc (t4.trans w4) (p_gK (p_call (q_slot jf v3) (fun x2 m2 y => ?_)))))
        obtain ⟨e1, hx2⟩ := y
        replace e1 : m2 = m := e1
        replace hx2 : x2 = mG m 22 (slt sc r.r3) := hx2
        subst e1
        rw [v2] at hx
        rw [v4] at hx2
        subst hx; subst hx2
        refine p_gK (p_call (q_reached ok o jf jp h5 wn.1 wn.2 wk.symm) (fun y m3 z => p_ret ?_))
        obtain ⟨⟨z1, z2⟩, z3, z4, z5, z6⟩ := z
        refine ⟨⟨z1, fun b h => ?_⟩, ⟨z3, z4, z5⟩, f100 z6⟩
        show _ = hd (sm S (S.fa (Φ b)) (r :: rs)) e
        rw [hl b]
        unfold leafT
        rw [if_neg (by omega), if_pos w0]
        exact z2 b h
      refine p_if (fun c10 => ?_) (fun x10 => ?_)
      · have hrw : r.r0 = 10 ∧ r.c1 = r.r1 ∧ (0 ≤ r.r1 ∧ r.r1 < S.nr) ∧ S.k2 r.r1 = S.k1 r.r1 := by
          unfold rowOK at hrow
          rcases hrow with w | w | w | w | w | w | w
          · exfalso; omega
          · exfalso; omega
          · exfalso; omega
          · exfalso; omega
          · exact w.2
          all_goals (exfalso; omega)
        obtain ⟨w0, wr, wn, wk⟩ := hrw
        refine p_gFc (ji := 1) rfl ht1 (p_gFc (ji := 1) rfl T2 (p_aGc (t2.trans wr) (p_gK (p_call (q_tree ok o jf jp h5 wn.1 wn.2 wk.symm) (fun y m3 z => p_ret ?_)))))
        obtain ⟨⟨z1, z2⟩, z3, z4, z5, z6⟩ := z
        refine ⟨⟨z1, fun b h => ?_⟩, ⟨z3, z4, z5⟩, f100 z6⟩
        show _ = hd (sm S (S.fa (Φ b)) (r :: rs)) e
        rw [hl b]
        unfold leafT
        rw [if_neg (by omega), if_neg (by omega), if_pos w0]
        exact z2 b h
      · have hrw : (r.r0 = 11 ∧ r.c1 = r.r1 ∧ (0 ≤ r.r1 ∧ r.r1 < S.nr) ∧ S.k2 r.r1 = -1 ∧ BV sc bo r.r2 ∧ r.c2 = slt sc r.r2 ∧ r.c3 = 0) ∨ (r.r0 = 12 ∧ r.c1 = r.r1 ∧ (0 ≤ r.r1 ∧ r.r1 < S.nr) ∧ ¬ S.k2 r.r1 = -1 ∧ BV sc bo r.r2 ∧ BV sc bo r.r3 ∧ r.c2 = slt sc r.r2 ∧ r.c3 = slt sc r.r3) := by
          unfold rowOK at hrow
          rcases hrow with w | w | w | w | w | w | w
          · exfalso; omega
          · exfalso; omega
          · exfalso; omega
          · exfalso; omega
          · exfalso; omega
          · exact Or.inl w.2
          · exact Or.inr w.2
        have com : r.c1 = r.r1 ∧ (0 ≤ r.r1 ∧ r.r1 < S.nr) ∧ BV sc bo r.r2 ∧ r.c2 = slt sc r.r2 ∧ (0 ≤ r.c3 ∧ r.c3 < 4) := by
          rcases hrw with w | w
          · exact ⟨w.2.1, w.2.2.1, w.2.2.2.2.1, w.2.2.2.2.2.1, by omega⟩
          · have := (sl _ w.2.2.2.2.2.1).1
            exact ⟨w.2.1, w.2.2.1, w.2.2.2.2.1, w.2.2.2.2.2.2.1, by omega⟩
        obtain ⟨wr, wn, w1, w3, w4⟩ := com
        obtain ⟨v1, v2⟩ := sl _ w1
        refine p_gFc (ji := 1) rfl ht1 (p_gFc (ji := 1) rfl T2 (p_aGc (t2.trans wr) (p_gFc (ji := 1) rfl ht1 (p_gFc (ji := 2) rfl T3 (p_aGc (t3.trans w3) (p_gK (p_call (q_slot jf v1) (fun x m y => ?_))))))))
        obtain ⟨e1, hx⟩ := y
        replace e1 : m = M := e1
        replace hx : x = mG M 22 (slt sc r.r2) := hx
        subst e1
        refine p_gFc (ji := 1) rfl ht1 (p_gFc (ji := 3) rfl T4 (p_aGc t4 (p_gK (p_call (q_slot jf w4) (fun x2 m2 y => ?_)))))
        obtain ⟨e1, hx2⟩ := y
        replace e1 : m2 = m := e1
        replace hx2 : x2 = mG m 22 r.c3 := hx2
        subst e1
        rw [v2] at hx
        subst hx
        refine p_gK (p_call (q_factAt ok jf wn.1 wn.2) (fun y m3 z => p_ret ?_))
        obtain ⟨⟨z1, z2⟩, z3⟩ := z
        replace z3 : m3 = m2 := z3
        subst z3
        refine ⟨⟨z1, fun b h => ?_⟩, jc, FJ.rf⟩
        show _ = hd (sm S (S.fa (Φ b)) (r :: rs)) e
        rw [hl b]
        unfold leafT
        rcases hrw with w | w
        · rw [if_neg (by omega), if_neg (by omega), if_neg (by omega), if_pos w.1]
          refine (z2 b h).trans ?_
          have col : ∀ j : Int, S.col r.r1 j = 0 := fun j => if_pos w.2.2.2.1
          unfold SH.fa SH.inr SH.at'
          rw [col, col]
        · rw [if_neg (by omega), if_neg (by omega), if_neg (by omega), if_neg (by omega)]
          have := (sl _ w.2.2.2.2.2.1).2
          rw [← w.2.2.2.2.2.2.2] at this
          rw [hx2, this] at z2
          exact z2 b h
end
end
section
/-! ===== the reference's judge means what the text means ===== -/
def b2i (b : Bool) : Int := if b = true then 1 else 0
theorem b2i_0 {b : Bool} : b2i b = 0 ↔ b = false := by cases b <;> decide
theorem b2i_b (b : Bool) : 0 ≤ b2i b ∧ b2i b ≤ 1 := by cases b <;> decide
/-- what stands while the reference judges the text of t -/
def RM (S : SH) (ps : List Row) (t : Int) (φ : Int → Bool) (M : Mem) : Prop :=
  (mG M 126 9 = 135 ∧ mG M 126 10 = 136 ∧ mG M 126 15 = 141 ∧ mG M 126 16 = 142 ∧ mG M 126 17 = 143 ∧ mG M 126 18 = 144 ∧ mG M 126 19 = 145 ∧ mG M 126 26 = 152 ∧ mG M 126 27 = 153 ∧ mG M 126 28 = 154 ∧ mG M 126 45 = 160 ∧ mG M 126 47 = 161) ∧
  (∀ k : Int, 0 ≤ k → k < 3 → mG M 152 k = S.sz k) ∧ (∀ r : Int, 0 ≤ r → r < S.nr → mG M 135 r = S.k1 r ∧ mG M 136 r = S.k2 r ∧ mG M 153 r = S.st r.toNat) ∧ (∀ k : Int, 0 ≤ k → k < S.nf → mG M 154 k = b2i (φ k)) ∧ RT ps t M
/-- what judging changes -/
def FM (M M' : Mem) : Prop := ∀ c j : Int, ¬ (c = 126 ∧ j = 46) → ¬ c = 160 → ¬ c = 161 → mG M' c j = mG M c j
theorem FM.rf {M : Mem} : FM M M := fun _ _ _ _ _ => rfl
theorem FM.tr {M M' M'' : Mem} (h : FM M M') (k : FM M' M'') : FM M M'' := fun c j x y z => (k c j x y z).trans (h c j x y z)
theorem RX.kp {r : Row} {k : Int} {M M' : Mem} (h : RX r k M) (g : ∀ c : Int, 142 ≤ c → c ≤ 145 → mG M' c k = mG M c k) : RX r k M' := ⟨(g 142 (by decide) (by decide)).trans h.1, fun w => (g 143 (by decide) (by decide)).trans (h.2.1 w), fun w => (g 144 (by decide) (by decide)).trans (h.2.2.1 w), fun w => (g 145 (by decide) (by decide)).trans (h.2.2.2 w)⟩
section
variable {S : SH} {ps : List Row} {t : Int} {φ : Int → Bool} {M M' : Mem}
theorem RM.kp (h : RM S ps t φ M) (g : FM M M') : RM S ps t φ M' := by
  obtain ⟨⟨a1, a2, a3, a4, a5, a6, a7, a8, a9, aa, ab, ac⟩, h2, h3, h4, h5, h6⟩ := h
  have e : ∀ j, ¬ j = 46 → mG M' 126 j = mG M 126 j := fun j hj => g 126 j (fun w => hj w.2) (by decide) (by decide)
  have f : ∀ c j : Int, ¬ c = 126 → ¬ c = 160 → ¬ c = 161 → mG M' c j = mG M c j := fun c j x y z => g c j (fun w => x w.1) y z
  refine ⟨⟨(e _ (by decide)).trans a1, (e _ (by decide)).trans a2, (e _ (by decide)).trans a3, (e _ (by decide)).trans a4, (e _ (by decide)).trans a5, (e _ (by decide)).trans a6, (e _ (by decide)).trans a7, (e _ (by decide)).trans a8, (e _ (by decide)).trans a9, (e _ (by decide)).trans aa, (e _ (by decide)).trans ab, (e _ (by decide)).trans ac⟩, fun k x y => (f _ _ (by decide) (by decide) (by decide)).trans (h2 k x y), fun r x y => ?_, fun k x y => (f _ _ (by decide) (by decide) (by decide)).trans (h4 k x y), (f _ _ (by decide) (by decide) (by decide)).trans h5, fun k r hr => (h6 k r hr).kp (fun c c0 c1 => f c _ (by omega) (by omega) (by omega))⟩
  obtain ⟨b1, b2, b3⟩ := h3 r x y
  exact ⟨(f _ _ (by decide) (by decide) (by decide)).trans b1, (f _ _ (by decide) (by decide) (by decide)).trans b2, (f _ _ (by decide) (by decide) (by decide)).trans b3⟩
theorem w_sizeOf {k : Int} (h : RM S ps t φ M) (hk : -1 ≤ k ∧ k ≤ 2) : pw (mX9_sizeOf 126 k M) (fun q => q.2 = M ∧ q.1 = S.zv k) := by
  obtain ⟨⟨a1, a2, a3, a4, a5, a6, a7, a8, a9, aa, ab, ac⟩, h2, h3, h4, h5⟩ := h
  unfold mX9_sizeOf
  refine p_if (fun c => p_ret ⟨rfl, ?_⟩) (fun c => p_gFc (ji := 26) rfl a8 (p_aGc (h2 k (by omega) (by omega)) (p_ret ⟨rfl, ?_⟩)))
  · show 1 = S.zv k
    unfold SH.zv; rw [if_pos c]
  · show S.sz k = S.zv k
    unfold SH.zv; rw [if_neg c]
theorem w_in {a b c : Int} : pw (mX9_in a b c M) (fun q => q.2 = M ∧ (((b ≤ a ∧ a ≤ c) ∧ q.1 = 1) ∨ (¬ (b ≤ a ∧ a ≤ c) ∧ q.1 = 0))) := by
  unfold mX9_in
  exact p_if (fun c => p_ret ⟨rfl, Or.inr ⟨by omega, rfl⟩⟩) (fun c => p_if (fun d => p_ret ⟨rfl, Or.inr ⟨by omega, rfl⟩⟩) (fun d => p_ret ⟨rfl, Or.inl ⟨by omega, rfl⟩⟩))
theorem w_factAt15 {r i j : Int} (ok : S.ok) (h : RM S ps t φ M) (h0 : 0 ≤ r) (h1 : r < S.nr) : pw (mX9_factAt_15 126 r i (S.col r j) M) (fun q => q.2 = M ∧ ((S.inr r i j ∧ q.1 = S.at' r i j) ∨ (¬ S.inr r i j ∧ q.1 = -1))) := by
  obtain ⟨⟨a1, a2, a3, a4, a5, a6, a7, a8, a9, aa, ab, ac⟩, h2, h3, h4, h5⟩ := id h
  obtain ⟨b1, b2, b3⟩ := h3 r h0 h1
  have k := ok.2.2 r h0 h1
  have z1 := ok.zv (k := S.k1 r) (by omega)
  have z2 := ok.zv (k := S.k2 r) k.2
  have s9 := ok.st9 h0 h1
  unfold mX9_factAt_15
  refine p_gFc (ji := 9) rfl a1 (p_aGc b1 (p_gK (p_call (w_sizeOf h (by omega)) (fun v m y => ?_))))
  obtain ⟨e, y⟩ := y
  replace e : m = M := e
  replace y : v = S.zv (S.k1 r) := y
  subst e; subst y
  rw [wI_id (x := S.zv (S.k1 r) - 1) (by omega) (by omega)]
  refine p_call w_in (fun v m2 y => ?_)
  obtain ⟨e, y⟩ := y
  replace e : m2 = m := e
  subst e
  rcases y with ⟨c1, hv⟩ | ⟨c1, hv⟩
  · replace hv : v = 1 := hv
    subst hv
    refine p_it0 (show ¬ (1 : Int) = 0 by decide) (p_gFc (ji := 10) rfl a2 (p_aGc b2 (p_gK (p_call (w_sizeOf h k.2) (fun v m y => ?_)))))
    obtain ⟨e, y⟩ := y
    replace e : m = m2 := e
    replace y : v = S.zv (S.k2 r) := y
    subst e; subst y
    rw [wI_id (x := S.zv (S.k2 r) - 1) (by omega) (by omega)]
    refine p_call w_in (fun v m2 y => ?_)
    obtain ⟨e, y⟩ := y
    replace e : m2 = m := e
    subst e
    rcases y with ⟨c2, hv⟩ | ⟨c2, hv⟩
    · replace hv : v = 1 := hv
      subst hv
      refine p_it0 (show ¬ (1 : Int) = 0 by decide) (p_gFc (ji := 27) rfl a9 (p_aGc b3 (p_gFc (ji := 10) rfl a2 (p_aGc b2 (p_gK (p_call (w_sizeOf h k.2) (fun v m y => p_ret ?_)))))))
      obtain ⟨e, y⟩ := y
      replace e : m = m2 := e
      replace y : v = S.zv (S.k2 r) := y
      subst e; subst y
      refine ⟨rfl, Or.inl ⟨⟨by omega, by omega⟩, ?_⟩⟩
      have p := mul_b (x := S.zv (S.k2 r)) (y := i) (a := 3) (b := 3) (by omega) (by omega) (by omega) (by omega)
      show wI (wI (S.st r.toNat + wI (S.zv (S.k2 r) * i)) + S.col r j) = S.st r.toNat + S.zv (S.k2 r) * i + S.col r j
      rw [wI_id (x := S.zv (S.k2 r) * i) (by omega) (by omega), wI_id (x := S.st r.toNat + S.zv (S.k2 r) * i) (by omega) (by omega), wI_id (x := S.st r.toNat + S.zv (S.k2 r) * i + S.col r j) (by omega) (by omega)]
    · replace hv : v = 0 := hv
      subst hv
      exact p_it1 rfl (p_ret ⟨rfl, Or.inr ⟨fun w => c2 (by have := w.2; omega), rfl⟩⟩)
  · replace hv : v = 0 := hv
    subst hv
    exact p_it1 rfl (p_ret ⟨rfl, Or.inr ⟨fun w => c1 (by have := w.1; omega), rfl⟩⟩)
theorem w_factAt {r i j : Int} (ok : S.ok) (h : RM S ps t φ M) (h0 : 0 ≤ r) (h1 : r < S.nr) : pw (mX9_factAt 126 r i j M) (fun q => q.2 = M ∧ ((S.inr r i j ∧ q.1 = S.at' r i j) ∨ (¬ S.inr r i j ∧ q.1 = -1))) := by
  have fin := w_factAt15 (i := i) (j := j) ok h h0 h1
  obtain ⟨⟨a1, a2, a3, a4, a5, a6, a7, a8, a9, aa, ab, ac⟩, h2, h3, h4, h5⟩ := h
  obtain ⟨b1, b2, b3⟩ := h3 r h0 h1
  unfold mX9_factAt
  refine p_gFc (ji := 10) rfl a2 (p_aGc b2 (p_if (fun c3 => ?_) (fun c3 => ?_)))
  · have e : S.col r j = 0 := if_pos c3
    rw [e] at fin; exact fin
  · have e : S.col r j = j := if_neg c3
    rw [e] at fin; exact fin
theorem w_isSo {r i j : Int} (ok : S.ok) (h : RM S ps t φ M) (h0 : 0 ≤ r) (h1 : r < S.nr) : pw (mX9_isSo 126 r i j M) (fun q => q.2 = M ∧ q.1 = b2i (S.fa φ r i j)) := by
  unfold mX9_isSo
  refine p_gK (p_call (w_factAt (i := i) (j := j) ok h h0 h1) (fun v m y => ?_))
  obtain ⟨e, y⟩ := y
  replace e : m = M := e
  subst e
  rcases y with ⟨c, hv⟩ | ⟨c, hv⟩
  · replace hv : v = S.at' r i j := hv
    have p := ok.pos h0 h1 c
    have s9 := ok.st9 h0 h1
    subst hv
    have hw := h.2.2.2.1 (S.at' r i j) (by omega) (by omega)
    refine p_it0 (by show ¬ S.at' r i j = -1; omega) (p_gFc (ji := 28) rfl h.1.2.2.2.2.2.2.2.2.2.1 (p_aGc hw ?_))
    rw [SH.fa_in c]
    refine p_if (fun d => p_ret ⟨rfl, ?_⟩) (fun d => p_ret ⟨rfl, ?_⟩)
    · exact d.symm
    · cases hb : φ (S.at' r i j) with
      | true => rfl
      | false => rw [hb] at d; exact absurd rfl d
  · replace hv : v = -1 := hv
    subst hv
    rw [SH.fa_out c]
    exact p_it1 rfl (p_ret ⟨rfl, rfl⟩)
/-! what is joined -/
def PJ (W : Int → Int → Bool) (n : Nat) (M : Mem) : Prop := ∀ c : Nat, c < n → mG M 161 (c : Int) = b2i (W ((c / 3 : Nat) : Int) ((c % 3 : Nat) : Int))
theorem rem3 {c : Nat} (h : c < 100) : irem (c : Int) 3 = ((c % 3 : Nat) : Int) := by
  rw [irem_e (by omega) (by omega) (by decide) (by decide)]; omega
theorem quo3 {c : Nat} (h : c < 100) : idiv (c : Int) 3 = ((c / 3 : Nat) : Int) := by
  rw [idiv_e (by omega) (by omega) (by decide) (by decide)]; omega
theorem w_fj {r : Int} (ok : S.ok) (h : RM S ps t φ M) (h0 : 0 ≤ r) (h1 : r < S.nr) : pw (mX9_findJoined 126 r M) (fun q => (∀ c j : Int, ¬ c = 161 → mG q.2 c j = mG M c j) ∧ PJ (clo (S.fa φ r)) 9 q.2) := by
  have fm : ∀ {M' : Mem}, (∀ c j : Int, ¬ c = 161 → mG M' c j = mG M c j) → FM M M' := fun g c j _ _ z => g c j z
  -- the middle
  have mid : ∀ (fu k : Nat) (M' : Mem), k ≤ 3 → (∀ c j : Int, ¬ c = 161 → mG M' c j = mG M c j) → PJ (wsn (S.fa φ r) k) 9 M' → pw (mX9_findJoined_33 fu 126 (k : Int) M') (fun q => (∀ c j : Int, ¬ c = 161 → mG q.2 c j = mG M c j) ∧ PJ (clo (S.fa φ r)) 9 q.2) := by
    intro fu
    induction fu with
    | zero => intro k M' _ _ _; exact p_none
    | succ fu ih =>
      intro k M' hk fr pj
      show pw (bX9_findJoined_33 (mX9_findJoined_33 fu) 126 (k : Int) M') _
      unfold bX9_findJoined_33
      refine p_if (fun c => p_ret ⟨fr, ?_⟩) (fun c => ?_)
      · have : k = 3 := by omega
        subst this; exact pj
      have inner : ∀ (fu2 l : Nat) (M2 : Mem), l ≤ 9 → (∀ c j : Int, ¬ c = 161 → mG M2 c j = mG M c j) → (∀ c : Nat, c < 9 → mG M2 161 (c : Int) = b2i (if c < l then wst (wsn (S.fa φ r) k) (k : Int) ((c / 3 : Nat) : Int) ((c % 3 : Nat) : Int) else wsn (S.fa φ r) k ((c / 3 : Nat) : Int) ((c % 3 : Nat) : Int))) → pw (mX9_findJoined_40 (mX9_findJoined_33 fu) fu2 126 (k : Int) (l : Int) M2) (fun q => (∀ c j : Int, ¬ c = 161 → mG q.2 c j = mG M c j) ∧ PJ (clo (S.fa φ r)) 9 q.2) := by
        intro fu2
        induction fu2 with
        | zero => intro l M2 _ _ _; exact p_none
        | succ fu2 ih2 =>
          intro l M2 hl fr pj
          show pw (bX9_findJoined_40 (mX9_findJoined_33 fu) (mX9_findJoined_40 (mX9_findJoined_33 fu) fu2) 126 (k : Int) (l : Int) M2) _
          unfold bX9_findJoined_40
          refine p_if (fun c2 => ?_) (fun c2 => ?_)
          · rw [wI_id (x := (k : Int) + 1) (by omega) (by omega), show (k : Int) + 1 = ((k + 1 : Nat) : Int) by omega]
            refine ih (k + 1) M2 (by omega) fr (fun c hc => ?_)
            rw [pj c hc, if_pos (by omega)]; rfl
          · have g47 : mG M2 126 47 = 161 := (fr 126 47 (by decide)).trans h.1.2.2.2.2.2.2.2.2.2.2.2
            have v1 := pj l (by omega)
            rw [if_neg (Nat.lt_irrefl l)] at v1
            have v2 := pj (3 * (l / 3) + k) (by omega)
            have d1 : (3 * (l / 3) + k) / 3 = l / 3 := by omega
            have d2 : (3 * (l / 3) + k) % 3 = k := by omega
            rw [d1, d2, wst_col, ite_self] at v2
            have v3 := pj (3 * k + l % 3) (by omega)
            have d3 : (3 * k + l % 3) / 3 = k := by omega
            have d4 : (3 * k + l % 3) % 3 = l % 3 := by omega
            rw [d3, d4, wst_diag, ite_self] at v3
            have wr : ∀ v : Int, v = b2i (wst (wsn (S.fa φ r) k) (k : Int) ((l / 3 : Nat) : Int) ((l % 3 : Nat) : Int)) → pw (mX9_findJoined_95 (mX9_findJoined_33 fu) (mX9_findJoined_40 (mX9_findJoined_33 fu) fu2) 126 (k : Int) (l : Int) 161 (l : Int) v M2) (fun q => (∀ c j : Int, ¬ c = 161 → mG q.2 c j = mG M c j) ∧ PJ (clo (S.fa φ r)) 9 q.2) := fun v hv => by
              unfold mX9_findJoined_95
              refine p_aSZ (fun M3 h3 => ?_)
              rw [wI_id (x := (l : Int) + 1) (by omega) (by omega), show (l : Int) + 1 = ((l + 1 : Nat) : Int) by omega]
              refine ih2 (l + 1) M3 (by omega) (fun c j x => (st_ne h3 (fun w => x w.1)).trans (fr c j x)) (fun c hc => ?_)
              by_cases e : c = l
              · rw [e, st_eq h3, hv, if_pos (by omega)]
              · rw [st_ne h3 (fun w => e (by have := w.2; omega)), pj c hc]
                by_cases lt : c < l
                · rw [if_pos lt, if_pos (by omega)]
                · rw [if_neg lt, if_neg (by omega)]
            refine p_gFc (ji := 47) rfl g47 (p_gFc (ji := 47) rfl g47 (p_aGc v1 (p_if (fun z1 => ?_) (fun z1 => ?_))))
            · have z1 := b2i_0.mp z1
              refine p_gFc (ji := 47) rfl g47 (p_dMc (rem3 (by omega)) ?_)
              rw [wI_id (x := (l : Int) - ((l % 3 : Nat) : Int)) (by omega) (by omega), wI_id (x := (l : Int) - ((l % 3 : Nat) : Int) + (k : Int)) (by omega) (by omega), show (l : Int) - ((l % 3 : Nat) : Int) + (k : Int) = ((3 * (l / 3) + k : Nat) : Int) by omega]
              refine p_aGc v2 (p_if (fun z2 => ?_) (fun z2 => ?_))
              · have z2 := b2i_0.mp z2
                refine wr 0 ?_
                unfold wst
                rw [z1, z2]; rfl
              · refine p_gFc (ji := 47) rfl g47 (p_dMc (rem3 (by omega)) ?_)
                rw [wI_id (x := 3 * (k : Int)) (by omega) (by omega), wI_id (x := 3 * (k : Int) + ((l % 3 : Nat) : Int)) (by omega) (by omega), show 3 * (k : Int) + ((l % 3 : Nat) : Int) = ((3 * k + l % 3 : Nat) : Int) by omega]
                refine p_aGc v3 (p_if (fun z3 => ?_) (fun z3 => ?_))
                · have z3 := b2i_0.mp z3
                  refine wr 0 ?_
                  unfold wst
                  rw [z1, z3, Bool.and_false]; rfl
                · refine wr 1 ?_
                  unfold wst
                  rw [z1]
                  cases h2 : wsn (S.fa φ r) k ((l / 3 : Nat) : Int) (k : Int) with
                  | false => exact absurd (b2i_0.mpr h2) z2
                  | true =>
                    cases h3 : wsn (S.fa φ r) k (k : Int) ((l % 3 : Nat) : Int) with
                    | false => exact absurd (b2i_0.mpr h3) z3
                    | true => rfl
            · refine wr 1 ?_
              unfold wst
              cases h2 : wsn (S.fa φ r) k ((l / 3 : Nat) : Int) ((l % 3 : Nat) : Int) with
              | false => exact absurd (b2i_0.mpr h2) z1
              | true => rw [Bool.true_or]; rfl
      exact inner FU 0 M' (by omega) fr (fun c hc => by rw [if_neg (by omega)]; exact pj c hc)
  have first : ∀ (fu k : Nat) (M' : Mem), k ≤ 9 → (∀ c j : Int, ¬ c = 161 → mG M' c j = mG M c j) → PJ (S.fa φ r) k M' → pw (mX9_findJoined_2 fu 126 r (k : Int) M') (fun q => (∀ c j : Int, ¬ c = 161 → mG q.2 c j = mG M c j) ∧ PJ (clo (S.fa φ r)) 9 q.2) := by
    intro fu
    induction fu with
    | zero => intro k M' _ _ _; exact p_none
    | succ fu ih =>
      intro k M' hk fr pj
      show pw (bX9_findJoined_2 (mX9_findJoined_2 fu) 126 r (k : Int) M') _
      unfold bX9_findJoined_2
      refine p_if (fun c => ?_) (fun c => ?_)
      · have : k = 9 := by omega
        subst this
        exact mid FU 0 M' (by omega) fr pj
      · have g47 : mG M' 126 47 = 161 := (fr 126 47 (by decide)).trans h.1.2.2.2.2.2.2.2.2.2.2.2
        refine p_gFc (ji := 47) rfl g47 (p_dQc (quo3 (by omega)) (p_dMc (rem3 (by omega)) (p_gK (p_call (w_isSo ok (h.kp (fm fr)) h0 h1) (fun v m y => ?_)))))
        obtain ⟨e, y⟩ := y
        replace e : m = M' := e
        replace y : v = b2i (S.fa φ r ((k / 3 : Nat) : Int) ((k % 3 : Nat) : Int)) := y
        subst e; subst y
        refine p_aSZ (fun M3 h3 => ?_)
        rw [wI_id (x := (k : Int) + 1) (by omega) (by omega), show (k : Int) + 1 = ((k + 1 : Nat) : Int) by omega]
        refine ih (k + 1) M3 (by omega) (fun c j x => (st_ne h3 (fun w => x w.1)).trans (fr c j x)) (fun c hc => ?_)
        by_cases e : c = k
        · rw [e, st_eq h3]
        · rw [st_ne h3 (fun w => e (by have := w.2; omega))]
          exact pj c (by omega)
  exact first FU 0 M (by omega) (fun _ _ _ => rfl) (fun c hc => absurd hc (by omega))
/-! trees -/
def tgood (A : Int → Int → Bool) : Nat → Bool
  | 0 => true
  | i + 1 => tgood A i && trow A (i : Int)
theorem trow_c (A : Int → Int → Bool) (i : Int) : trow A i = (decide (cnt (fun k => A i k) 3 ≤ 1) && !clo A i i) := by
  unfold trow
  generalize clo A i i = c
  show _ = (decide (0 + (if A i 0 = true then 1 else 0) + (if A i 1 = true then 1 else 0) + (if A i 2 = true then 1 else 0) ≤ (1 : Int)) && !c)
  cases A i 0 <;> cases A i 1 <;> cases A i 2 <;> cases c <;> rfl
theorem w_isTree {r : Int} (ok : S.ok) (h : RM S ps t φ M) (h0 : 0 ≤ r) (h1 : r < S.nr) : pw (mX9_isTree 126 r M) (fun q => (∀ c j : Int, ¬ c = 161 → mG q.2 c j = mG M c j) ∧ q.1 = b2i (treeA (S.fa φ r))) := by
  unfold mX9_isTree
  refine p_gK (p_call (w_fj ok h h0 h1) (fun v m y => ?_))
  obtain ⟨fr, pj⟩ := y
  replace fr : ∀ c j : Int, ¬ c = 161 → mG m c j = mG M c j := fr
  replace pj : PJ (clo (S.fa φ r)) 9 m := pj
  have hm : RM S ps t φ m := h.kp (fun c j _ _ z => fr c j z)
  have g47 : mG m 126 47 = 161 := hm.1.2.2.2.2.2.2.2.2.2.2.2
  have rows : ∀ (fu i : Nat), i ≤ 3 → pw (mX9_isTree_9 fu 126 r (b2i (tgood (S.fa φ r) i)) (i : Int) m) (fun q => (∀ c j : Int, ¬ c = 161 → mG q.2 c j = mG M c j) ∧ q.1 = b2i (treeA (S.fa φ r))) := by
    intro fu
    induction fu with
    | zero => intro i _; exact p_none
    | succ fu ih =>
      intro i hi
      show pw (bX9_isTree_9 (mX9_isTree_9 fu) 126 r (b2i (tgood (S.fa φ r) i)) (i : Int) m) _
      unfold bX9_isTree_9
      refine p_if (fun c => p_zR (fun _ => p_ret ⟨fr, ?_⟩)) (fun c => ?_)
      · have : i = 3 := by omega
        subst this
        show b2i (tgood (S.fa φ r) 3) = _
        unfold treeA
        show b2i (((true && trow (S.fa φ r) 0) && trow (S.fa φ r) 1) && trow (S.fa φ r) 2) = _
        rw [Bool.true_and]
      have nx : ∀ b : Bool, b = tgood (S.fa φ r) (i + 1) → pw (mX9_isTree_79 (mX9_isTree_9 fu) 126 r (i : Int) (b2i b) m) (fun q => (∀ c j : Int, ¬ c = 161 → mG q.2 c j = mG M c j) ∧ q.1 = b2i (treeA (S.fa φ r))) := fun b hb => by
        unfold mX9_isTree_79
        rw [wI_id (x := (i : Int) + 1) (by omega) (by omega), show (i : Int) + 1 = ((i + 1 : Nat) : Int) by omega, hb]
        exact ih (i + 1) (by omega)
      have tg : tgood (S.fa φ r) (i + 1) = (tgood (S.fa φ r) i && (decide (cnt (fun k => S.fa φ r (i : Int) k) 3 ≤ 1) && !clo (S.fa φ r) (i : Int) (i : Int))) := by
        rw [← trow_c]; rfl
      have cols : ∀ (fu2 j : Nat), j ≤ 3 → pw (mX9_isTree_20 (mX9_isTree_9 fu) fu2 126 r (b2i (tgood (S.fa φ r) i)) (i : Int) (cnt (fun k => S.fa φ r (i : Int) k) j) (j : Int) m) (fun q => (∀ c j : Int, ¬ c = 161 → mG q.2 c j = mG M c j) ∧ q.1 = b2i (treeA (S.fa φ r))) := by
        intro fu2
        induction fu2 with
        | zero => intro j _; exact p_none
        | succ fu2 ih2 =>
          intro j hj
          show pw (bX9_isTree_20 (mX9_isTree_9 fu) (mX9_isTree_20 (mX9_isTree_9 fu) fu2) 126 r (b2i (tgood (S.fa φ r) i)) (i : Int) (cnt (fun k => S.fa φ r (i : Int) k) j) (j : Int) m) _
          have cb := cnt_b (fun k => S.fa φ r (i : Int) k) j
          unfold bX9_isTree_20
          refine p_if (fun c2 => ?_) (fun c2 => ?_)
          · have : j = 3 := by omega
            subst this
            refine p_if (fun z1 => nx false ?_) (fun z1 => p_if (fun z2 => nx false ?_) (fun z2 => ?_))
            · rw [tg, b2i_0.mp z1, Bool.false_and]
            · rw [tg, decide_eq_false (by omega), Bool.false_and, Bool.and_false]
            · have tgi : tgood (S.fa φ r) i = true := by
                cases hb : tgood (S.fa φ r) i with
                | true => rfl
                | false => exact absurd (b2i_0.mpr hb) z1
              have v := pj (4 * i) (by omega)
              rw [show 4 * i / 3 = i by omega, show 4 * i % 3 = i by omega] at v
              refine p_gFc (ji := 47) rfl g47 ?_
              rw [wI_id (x := 4 * (i : Int)) (by omega) (by omega), show 4 * (i : Int) = ((4 * i : Nat) : Int) by omega]
              refine p_aGc v (p_if (fun z3 => nx true ?_) (fun z3 => nx false ?_))
              · rw [tg, tgi, decide_eq_true (by omega), b2i_0.mp z3]; rfl
              · have : clo (S.fa φ r) (i : Int) (i : Int) = true := by
                  cases hb : clo (S.fa φ r) (i : Int) (i : Int) with
                  | true => rfl
                  | false => exact absurd (b2i_0.mpr hb) z3
                rw [tg, this]
                simp
          · refine p_gK (p_call (w_isSo ok hm h0 h1) (fun v m2 y => ?_))
            obtain ⟨e, y⟩ := y
            replace e : m2 = m := e
            replace y : v = b2i (S.fa φ r (i : Int) (j : Int)) := y
            subst e; subst y
            have cs : cnt (fun k => S.fa φ r (i : Int) k) (j + 1) = cnt (fun k => S.fa φ r (i : Int) k) j + (if S.fa φ r (i : Int) (j : Int) = true then 1 else 0) := rfl
            refine p_if (fun z => ?_) (fun z => ?_)
            · unfold mX9_isTree_44
              rw [b2i_0.mp z, if_neg (by decide)] at cs
              rw [wI_id (x := (j : Int) + 1) (by omega) (by omega), show (j : Int) + 1 = ((j + 1 : Nat) : Int) by omega, wI_id (x := cnt (fun k => S.fa φ r (i : Int) k) j + 0) (by omega) (by omega), ← cs]
              exact ih2 (j + 1) (by omega)
            · have : S.fa φ r (i : Int) (j : Int) = true := by
                cases hb : S.fa φ r (i : Int) (j : Int) with
                | true => rfl
                | false => rw [hb] at z; exact absurd rfl z
              unfold mX9_isTree_44
              rw [this, if_pos rfl] at cs
              rw [wI_id (x := (j : Int) + 1) (by omega) (by omega), show (j : Int) + 1 = ((j + 1 : Nat) : Int) by omega, wI_id (x := cnt (fun k => S.fa φ r (i : Int) k) j + 1) (by omega) (by omega), ← cs]
              exact ih2 (j + 1) (by omega)
      exact cols FU 0 (by omega)
  exact rows FU 0 (by omega)
end
end
