section
/-! ===== the bits of a long ===== -/
def InLL (x : Int) : Prop := -9223372036854775808 ≤ x ∧ x < 9223372036854775808
def lb (x : Int) (b : Nat) : Bool := (Int64.ofInt x).toBitVec.getLsbD b
theorem lb_and (x y : Int) (b : Nat) : lb (land x y) b = (lb x b && lb y b) := by
  unfold lb land
  rw [Int64.ofInt_toInt, Int64.toBitVec_and, BitVec.getLsbD_and]
theorem lb_or (x y : Int) (b : Nat) : lb (lor x y) b = (lb x b || lb y b) := by
  unfold lb lor
  rw [Int64.ofInt_toInt, Int64.toBitVec_or, BitVec.getLsbD_or]
theorem lb_xor (x y : Int) (b : Nat) : lb (lxor x y) b = (lb x b ^^ lb y b) := by
  unfold lb lxor
  rw [Int64.ofInt_toInt, Int64.toBitVec_xor, BitVec.getLsbD_xor]
theorem lb_zero (b : Nat) : lb 0 b = false := by
  unfold lb
  have e : (Int64.ofInt 0).toBitVec = 0#64 := by decide
  rw [e]; exact BitVec.getLsbD_zero
theorem lb_m1 {b : Nat} (h : b < 64) : lb (-1) b = true := by
  unfold lb
  have e : (Int64.ofInt (-1)).toBitVec = BitVec.allOnes 64 := by decide
  rw [e, BitVec.getLsbD_allOnes]; exact decide_eq_true h
theorem lb_not (x : Int) {b : Nat} (h : b < 64) : lb (lxor x (-1)) b = !lb x b := by
  rw [lb_xor, lb_m1 h]; cases lb x b <;> rfl
theorem land_L (x y : Int) : InLL (land x y) := i64_in _
theorem lor_L (x y : Int) : InLL (lor x y) := i64_in _
theorem lxor_L (x y : Int) : InLL (lxor x y) := i64_in _
theorem lshl_L (x y : Int) : InLL (lshl x y) := i64_in _
theorem L_0 : InLL 0 := ⟨by decide, by decide⟩
theorem L_m1 : InLL (-1) := ⟨by decide, by decide⟩
theorem l_ext {x y : Int} (hx : InLL x) (hy : InLL y) (h : ∀ b : Nat, b < 64 → lb x b = lb y b) : x = y := by
  have e : Int64.ofInt x = Int64.ofInt y := by
    apply Int64.toBitVec_inj.mp
    exact BitVec.eq_of_getLsbD_eq (fun i hi => h i hi)
  have := congrArg Int64.toInt e
  rw [toInt_L hx, toInt_L hy] at this
  exact this
theorem l_zero {x : Int} (hx : InLL x) : x = 0 ↔ ∀ b : Nat, b < 64 → lb x b = false :=
  ⟨fun e b _ => by rw [e]; exact lb_zero b, fun h => l_ext hx L_0 (fun b hb => by rw [h b hb, lb_zero])⟩
theorem l_m1 {x : Int} (hx : InLL x) : x = -1 ↔ ∀ b : Nat, b < 64 → lb x b = true :=
  ⟨fun e b hb => by rw [e]; exact lb_m1 hb, fun h => l_ext hx L_m1 (fun b hb => by rw [h b hb, lb_m1 hb])⟩
theorem mask63 : ∀ n : Nat, n < 64 → (((Int32.ofInt (n : Int)).toInt64 &&& 63).toBitVec.smod 64).toNat = n := by decide +kernel
theorem mask_ab : ∀ a : Nat, a < 64 → ∀ b : Nat, b < 64 → ((Int32.ofInt ((64 * a + b : Nat) : Int)).toInt64 &&& 63) = ((Int32.ofInt (b : Int)).toInt64 &&& 63) := by decide +kernel
theorem mask_big (n : Nat) (h : n < 4096) : ((Int32.ofInt (n : Int)).toInt64 &&& 63) = ((Int32.ofInt ((n % 64 : Nat) : Int)).toInt64 &&& 63) := by
  have := mask_ab (n / 64) (by omega) (n % 64) (by omega)
  rw [show 64 * (n / 64) + n % 64 = n by omega] at this
  exact this
theorem lshr_mod (x : Int) {n : Nat} (h : n < 4096) : lshr x (n : Int) = lshr x ((n % 64 : Nat) : Int) := by
  unfold lshr
  rw [mask_big n h]
theorem lshl_mod (x : Int) {n : Nat} (h : n < 4096) : lshl x (n : Int) = lshl x ((n % 64 : Nat) : Int) := by
  unfold lshl
  rw [mask_big n h]
theorem lb_shr {x : Int} {n b : Nat} (hn : n < 64) (h : n + b < 64) : lb (lshr x (n : Int)) b = lb x (n + b) := by
  unfold lb lshr
  rw [Int64.ofInt_toInt, Int64.toBitVec_shiftRight]
  show (BitVec.sshiftRight (Int64.ofInt x).toBitVec (((Int32.ofInt (n : Int)).toInt64 &&& 63).toBitVec.smod 64).toNat).getLsbD b = _
  rw [mask63 n hn, BitVec.getLsbD_sshiftRight, if_pos h]
  simp; omega
theorem lb_one : ∀ n : Nat, n < 64 → ∀ b : Nat, b < 64 → lb (lshl 1 (n : Int)) b = decide (b = n) := by decide +kernel
theorem lb_1 {b : Nat} (h : b < 64) : lb 1 b = decide (b = 0) := by
  have := lb_one 0 (by decide) b h
  have e : lshl 1 ((0 : Nat) : Int) = 1 := by decide
  rw [e] at this; exact this
/-- one bit asked for -/
theorem l_bit {x : Int} {n : Nat} (hn : n < 64) : (land (lshr x (n : Int)) 1 = 0) ↔ lb x n = false := by
  rw [l_zero (land_L _ _)]
  constructor
  · intro h
    have := h 0 (by decide)
    rw [lb_and, lb_shr hn (by omega), lb_1 (by decide)] at this
    simpa using this
  · intro h b hb
    rw [lb_and, lb_1 hb]
    by_cases e : b = 0
    · subst e
      rw [lb_shr hn (by omega), Nat.add_zero, h]; rfl
    · rw [decide_eq_false e]; simp
theorem l_bitc {x : Int} {n : Nat} (hn : n < 64) : (lcmp (land (lshr x (n : Int)) 1) 0 = 0) ↔ lb x n = false := by rw [lcmp_0]; exact l_bit hn
/-! ===== a shape, facts, what a text means ===== -/
abbrev SH : Type := (Int → Int) × Int × (Int → Int) × (Int → Int)
def SH.sz (S : SH) : Int → Int := S.1
def SH.nr (S : SH) : Int := S.2.1
def SH.k1 (S : SH) : Int → Int := S.2.2.1
def SH.k2 (S : SH) : Int → Int := S.2.2.2
def SH.zv (S : SH) (k : Int) : Int := if k = -1 then 1 else S.sz k
def SH.st (S : SH) : Nat → Int
  | 0 => 0
  | r + 1 => SH.st S r + S.zv (S.k1 r) * S.zv (S.k2 r)
def SH.nf (S : SH) : Int := S.st S.nr.toNat
/-- a shape that can be -/
def SH.ok (S : SH) : Prop := (∀ k : Int, 0 ≤ k → k < 3 → 1 ≤ S.sz k ∧ S.sz k ≤ 3) ∧ (0 ≤ S.nr ∧ S.nr ≤ 4) ∧ ∀ r : Int, 0 ≤ r → r < S.nr → (0 ≤ S.k1 r ∧ S.k1 r ≤ 2) ∧ (-1 ≤ S.k2 r ∧ S.k2 r ≤ 2)
def SH.col (S : SH) (r j : Int) : Int := if S.k2 r = -1 then 0 else j
abbrev SH.inr (S : SH) (r i j : Int) : Prop := (0 ≤ i ∧ i < S.zv (S.k1 r)) ∧ (0 ≤ S.col r j ∧ S.col r j < S.zv (S.k2 r))
def SH.at' (S : SH) (r i j : Int) : Int := S.st r.toNat + S.zv (S.k2 r) * i + S.col r j
/-- whether a fact is so -/
def SH.fa (S : SH) (φ : Int → Bool) (r i j : Int) : Bool := if S.inr r i j then φ (S.at' r i j) else false
section
variable {S : SH}
theorem SH.ok.zv (h : S.ok) {k : Int} (hk : -1 ≤ k ∧ k ≤ 2) : 1 ≤ S.zv k ∧ S.zv k ≤ 3 := by
  unfold SH.zv
  split
  · decide
  · exact h.1 k (by omega) (by omega)
theorem SH.ok.step (h : S.ok) {r : Nat} (hr : (r : Int) < S.nr) : S.st r + 1 ≤ S.st (r + 1) ∧ S.st (r + 1) ≤ S.st r + 9 := by
  have k := h.2.2 r (by omega) hr
  have a := h.zv (k := S.k1 r) (by omega)
  have b := h.zv (k := S.k2 r) k.2
  have p := mul_b (x := S.zv (S.k1 r)) (y := S.zv (S.k2 r)) (a := 3) (b := 3) (by omega) (by omega) (by omega) (by omega)
  have q : 1 * 1 ≤ S.zv (S.k1 r) * S.zv (S.k2 r) := Int.mul_le_mul (by omega) (by omega) (by decide) (by omega)
  show S.st r + 1 ≤ S.st r + S.zv (S.k1 r) * S.zv (S.k2 r) ∧ S.st r + S.zv (S.k1 r) * S.zv (S.k2 r) ≤ S.st r + 9
  omega
theorem SH.ok.mono (h : S.ok) {a : Nat} : ∀ d : Nat, ((a + d : Nat) : Int) ≤ S.nr → S.st a ≤ S.st (a + d) ∧ S.st (a + d) ≤ S.st a + 9 * (d : Int) := by
  intro d
  induction d with
  | zero => intro _; exact ⟨Int.le_refl _, by show S.st a ≤ S.st a + 0; omega⟩
  | succ d ih =>
    intro hd
    have i := ih (by omega)
    have s := h.step (r := a + d) (by omega)
    rw [show a + (d + 1) = a + d + 1 by omega]
    omega
theorem SH.ok.st (h : S.ok) {r : Nat} (hr : (r : Int) ≤ S.nr) : 0 ≤ S.st r ∧ S.st r ≤ 9 * (r : Int) := by
  have := h.mono (a := 0) r (by omega)
  rw [Nat.zero_add] at this
  have e : S.st 0 = 0 := rfl
  omega
theorem SH.ok.nf (h : S.ok) : 0 ≤ S.nf ∧ S.nf ≤ 36 := by
  have := h.2.1
  have := h.st (r := S.nr.toNat) (by omega)
  unfold SH.nf
  omega
/-- where a fact stands -/
theorem SH.ok.pos (h : S.ok) {r i j : Int} (h0 : 0 ≤ r) (h1 : r < S.nr) (hi : S.inr r i j) : S.st r.toNat ≤ S.at' r i j ∧ S.at' r i j < S.st (r.toNat + 1) ∧ S.st (r.toNat + 1) ≤ S.nf := by
  have k := h.2.2 r h0 h1
  have a := h.zv (k := S.k1 r) (by omega)
  have b := h.zv (k := S.k2 r) k.2
  obtain ⟨i0, j0⟩ := hi
  have er : ((r.toNat : Nat) : Int) = r := by omega
  have m := h.mono (a := r.toNat + 1) (S.nr.toNat - (r.toNat + 1)) (by omega)
  rw [show r.toNat + 1 + (S.nr.toNat - (r.toNat + 1)) = S.nr.toNat by omega] at m
  have e : S.st (r.toNat + 1) = S.st r.toNat + S.zv (S.k1 r) * S.zv (S.k2 r) := by
    show S.st r.toNat + S.zv (S.k1 (r.toNat : Int)) * S.zv (S.k2 (r.toNat : Int)) = _
    rw [er]
  have p1 : 0 ≤ S.zv (S.k2 r) * i := Int.mul_nonneg (by omega) i0.1
  have p2 : S.zv (S.k2 r) * (i + 1) ≤ S.zv (S.k2 r) * S.zv (S.k1 r) := Int.mul_le_mul_of_nonneg_left (by omega) (by omega)
  rw [Int.mul_add, Int.mul_one, Int.mul_comm (S.zv (S.k2 r)) (S.zv (S.k1 r))] at p2
  unfold SH.at' SH.nf
  rw [e] at m ⊢
  omega
theorem SH.fa_in {φ : Int → Bool} {r i j : Int} (h : S.inr r i j) : S.fa φ r i j = φ (S.at' r i j) := by
  unfold SH.fa; exact if_pos h
theorem SH.fa_out {φ : Int → Bool} {r i j : Int} (h : ¬ S.inr r i j) : S.fa φ r i j = false := by
  unfold SH.fa; exact if_neg h
end
/-- what is reached -/
def wst (A : Int → Int → Bool) (k i j : Int) : Bool := A i j || (A i k && A k j)
def wsn (A : Int → Int → Bool) : Nat → Int → Int → Bool
  | 0 => A
  | n + 1 => wst (wsn A n) (n : Int)
def clo (A : Int → Int → Bool) : Int → Int → Bool := wsn A 3
def trow (A : Int → Int → Bool) (i : Int) : Bool := !(A i 0 && A i 1) && !(A i 0 && A i 2) && !(A i 1 && A i 2) && !clo A i i
def treeA (A : Int → Int → Bool) : Bool := trow A 0 && trow A 1 && trow A 2
def evu (e : Int → Int) (v k : Int) : Int → Int := fun x => if x = v then k else e x
def leafT (A : Int → Int → Int → Bool) (r : Row) (e : Int → Int) : Bool :=
  if r.r0 = 8 then decide (e r.r1 = e r.r2) else if r.r0 = 9 then clo (A r.r1) (e r.r2) (e r.r3) else if r.r0 = 10 then treeA (A r.r1) else if r.r0 = 11 then A r.r1 (e r.r2) 0 else A r.r1 (e r.r2) (e r.r3)
def cnt (g : Int → Bool) : Nat → Int
  | 0 => 0
  | n + 1 => cnt g n + (if g (n : Int) = true then 1 else 0)
def bindT (S : SH) (r : Row) (f : (Int → Int) → Bool) (e : Int → Int) : Bool :=
  let m := cnt (fun k => f (evu e r.r1 k)) (S.sz r.r2).toNat
  if r.r0 = 0 then decide (m = S.sz r.r2) else if r.r0 = 1 then decide (0 < m) else if r.r0 = 2 then decide (r.r3 ≤ m) else decide (m ≤ r.r3)
def joinT (a : Int) (p q : Bool) : Bool := if a = 5 then p && q else if a = 6 then p || q else !p || q
def stp (S : SH) (A : Int → Int → Int → Bool) (r : Row) (L : List ((Int → Int) → Bool)) : List ((Int → Int) → Bool) :=
  if r.c0 ≤ 3 then (match L with
    | f :: L' => bindT S r f :: L'
    | [] => [])
  else if r.c0 = 4 then (match L with
    | f :: L' => (fun e => !f e) :: L'
    | [] => [])
  else if r.c0 ≤ 7 then (match L with
    | f :: g :: L' => (fun e => joinT r.c0 (f e) (g e)) :: L'
    | _ => [])
  else leafT A r :: L
/-- the truth of each part that begins rows -/
def sm (S : SH) (A : Int → Int → Int → Bool) : List Row → List ((Int → Int) → Bool)
  | [] => []
  | r :: rs => stp S A r (sm S A rs)
def hd (L : List ((Int → Int) → Bool)) (e : Int → Int) : Bool := match L with
  | f :: _ => f e
  | [] => false
section
variable {S : SH} {A : Int → Int → Int → Bool} {nr : Int} {k1 k2 : Int → Int}
theorem kids_len (r : Row) (x : Int × Int) : (kids r x).length = ari r.c0 := by
  unfold kids ari
  by_cases h3 : r.c0 ≤ 3
  · rw [if_pos h3, if_pos (by omega)]; rfl
  · rw [if_neg h3]
    by_cases h4 : r.c0 = 4
    · rw [if_pos h4, if_pos (by omega)]; rfl
    · rw [if_neg h4, if_neg (show ¬ r.c0 ≤ 4 by omega)]
      by_cases h7 : r.c0 ≤ 7
      · rw [if_pos h7, if_pos h7]; rfl
      · rw [if_neg h7, if_neg h7]; rfl
theorem stp_len {r : Row} {L : List ((Int → Int) → Bool)} (h : ari r.c0 ≤ L.length) : (stp S A r L).length + ari r.c0 = L.length + 1 ∧ ∀ n : Nat, (stp S A r L).drop (n + 1) = L.drop (n + ari r.c0) := by
  unfold stp ari at *
  by_cases h3 : r.c0 ≤ 3
  · rw [if_pos (show r.c0 ≤ 4 by omega)] at h ⊢
    rw [if_pos h3]
    cases L with
    | nil => exact absurd h (by decide)
    | cons f L => exact ⟨rfl, fun n => rfl⟩
  · rw [if_neg h3]
    by_cases h4 : r.c0 = 4
    · rw [if_pos (show r.c0 ≤ 4 by omega)] at h ⊢
      rw [if_pos h4]
      cases L with
      | nil => exact absurd h (by decide)
      | cons f L => exact ⟨rfl, fun n => rfl⟩
    · rw [if_neg h4, if_neg (show ¬ r.c0 ≤ 4 by omega)]
      rw [if_neg (show ¬ r.c0 ≤ 4 by omega)] at h
      by_cases h7 : r.c0 ≤ 7
      · rw [if_pos h7] at h ⊢
        rw [if_pos h7]
        cases L with
        | nil => exact absurd h (by decide)
        | cons f L =>
          cases L with
          | nil => exact absurd h (by simp)
          | cons g L => exact ⟨rfl, fun n => rfl⟩
      · rw [if_neg h7, if_neg h7]
        exact ⟨rfl, fun n => rfl⟩
theorem sm_len : ∀ (rs : List Row) (ws : List (Int × Int)), ty nr k1 k2 ws rs → (sm S A rs).length = ws.length := by
  intro rs
  induction rs with
  | nil =>
    intro ws h
    cases ws with
    | nil => rfl
    | cons x ws => cases h
  | cons r rs ih =>
    intro ws h
    cases ws with
    | nil => exact absurd h id
    | cons x ws =>
      have i := ih _ h.2
      rw [List.length_append, kids_len] at i
      have := (stp_len (S := S) (A := A) (r := r) (L := sm S A rs) (by omega)).1
      show (stp S A r (sm S A rs)).length = ws.length + 1
      omega
theorem ty_skp : ∀ (rs : List Row) (ws : List (Int × Int)) (n : Nat), ty nr k1 k2 ws rs → n ≤ ws.length → ty nr k1 k2 (ws.drop n) (skp n rs) ∧ sm S A (skp n rs) = (sm S A rs).drop n := by
  intro rs
  induction rs with
  | nil =>
    intro ws n h hn
    cases ws with
    | cons x ws => cases h
    | nil =>
      rw [skp_nil]
      cases n with
      | zero => exact ⟨rfl, rfl⟩
      | succ n => exact absurd hn (by simp)
  | cons r rs ih =>
    intro ws n h hn
    cases n with
    | zero => exact ⟨h, rfl⟩
    | succ n =>
      cases ws with
      | nil => exact absurd h id
      | cons x ws =>
        have hn : n ≤ ws.length := by rw [List.length_cons] at hn; omega
        obtain ⟨a, b⟩ := ih (kids r x ++ ws) (n + ari r.c0) h.2 (by rw [List.length_append, kids_len]; omega)
        have l := sm_len (S := S) (A := A) rs _ h.2
        rw [List.length_append, kids_len] at l
        refine ⟨?_, ?_⟩
        · show ty nr k1 k2 (ws.drop n) (skp (n + ari r.c0) rs)
          have e : (kids r x ++ ws).drop (n + ari r.c0) = ws.drop n := by
            rw [Nat.add_comm n, ← List.drop_drop, List.drop_left' (kids_len r x)]
          rw [← e]; exact a
        · show sm S A (skp (n + ari r.c0) rs) = (stp S A r (sm S A rs)).drop (n + 1)
          rw [b, (stp_len (by omega)).2]
end
end
section
/-! ===== the class finds paths ===== -/
/-- a shape's cells -/
def SHC (S : SH) (s : Int) (M : Mem) : Prop := (mG M s 0 = s + 1 ∧ mG M s 1 = s + 2 ∧ mG M s 2 = s + 3 ∧ mG M s 3 = s + 4 ∧ mG M s 4 = s + 5 ∧ mG M s 5 = s + 6 ∧ mG M s 6 = S.nr ∧ mG M s 7 = S.nf) ∧ (∀ k : Int, 0 ≤ k → k < 3 → mG M (s + 1) k = S.sz k) ∧ ∀ r : Int, 0 ≤ r → r < S.nr → mG M (s + 2) r = S.k1 r ∧ mG M (s + 3) r = S.k2 r ∧ mG M (s + 4) r = S.st r.toNat ∧ mG M (s + 5) r = S.zv (S.k1 r) ∧ mG M (s + 6) r = S.zv (S.k2 r)
theorem SHC.kp {S : SH} {s : Int} {M M' : Mem} (h : SHC S s M) (g : ∀ c j : Int, s ≤ c → c ≤ s + 6 → mG M' c j = mG M c j) : SHC S s M' := by
  obtain ⟨⟨a0, a1, a2, a3, a4, a5, a6, a7⟩, h2, h3⟩ := h
  have e : ∀ j, mG M' s j = mG M s j := fun j => g s j (by omega) (by omega)
  refine ⟨⟨(e _).trans a0, (e _).trans a1, (e _).trans a2, (e _).trans a3, (e _).trans a4, (e _).trans a5, (e _).trans a6, (e _).trans a7⟩, fun k k0 k1 => (g _ _ (by omega) (by omega)).trans (h2 k k0 k1), fun r r0 r1 => ?_⟩
  obtain ⟨b1, b2, b3, b4, b5⟩ := h3 r r0 r1
  exact ⟨(g _ _ (by omega) (by omega)).trans b1, (g _ _ (by omega) (by omega)).trans b2, (g _ _ (by omega) (by omega)).trans b3, (g _ _ (by omega) (by omega)).trans b4, (g _ _ (by omega) (by omega)).trans b5⟩
section
variable {S : SH} {s r i j : Int} {M : Mem}
theorem SH.ok.st9 (ok : S.ok) {r : Int} (h0 : 0 ≤ r) (h1 : r < S.nr) : 0 ≤ S.st r.toNat ∧ S.st r.toNat ≤ 27 := by
  have := ok.st (r := r.toNat) (by omega)
  have := ok.2.1
  omega
theorem q_place_29 (ok : S.ok) (h : SHC S s M) (h0 : 0 ≤ r) (h1 : r < S.nr) : pw (mX3_place_29 s r i (S.col r j) M) (fun q => q.2 = M ∧ ((S.inr r i j ∧ q.1 = S.at' r i j) ∨ (¬ S.inr r i j ∧ q.1 = -1))) := by
  obtain ⟨⟨a0, a1, a2, a3, a4, a5, a6, a7⟩, h2, h3⟩ := h
  obtain ⟨b1, b2, b3, b4, b5⟩ := h3 r h0 h1
  have k := ok.2.2 r h0 h1
  have z1 := ok.zv (k := S.k1 r) (by omega)
  have z2 := ok.zv (k := S.k2 r) k.2
  have s9 := ok.st9 h0 h1
  unfold mX3_place_29
  refine p_if (fun c => p_ret ⟨rfl, Or.inr ⟨fun y => by have := y.1.1; omega, rfl⟩⟩) (fun c => ?_)
  refine p_gFc (ji := 4) rfl a4 (p_aGc b4 (p_if (fun c2 => p_ret ⟨rfl, Or.inr ⟨fun y => by have := y.1.2; omega, rfl⟩⟩) (fun c2 => ?_)))
  refine p_if (fun c3 => p_ret ⟨rfl, Or.inr ⟨fun y => by have := y.2.1; omega, rfl⟩⟩) (fun c3 => ?_)
  refine p_gFc (ji := 5) rfl a5 (p_aGc b5 (p_if (fun c4 => ?_) (fun c4 => p_ret ⟨rfl, Or.inr ⟨fun y => by have := y.2.2; omega, rfl⟩⟩)))
  refine p_gFc (ji := 3) rfl a3 (p_aGc b3 (p_gFc (ji := 5) rfl a5 (p_aGc b5 (p_ret ⟨rfl, Or.inl ⟨⟨⟨by omega, by omega⟩, by omega, c4⟩, ?_⟩⟩))))
  have p := mul_b (x := i) (y := S.zv (S.k2 r)) (a := 3) (b := 3) (by omega) (by omega) (by omega) (by omega)
  have e : S.at' r i j = S.st r.toNat + i * S.zv (S.k2 r) + S.col r j := by unfold SH.at'; rw [Int.mul_comm]
  show wI (wI (S.st r.toNat + wI (i * S.zv (S.k2 r))) + S.col r j) = _
  rw [e, wI_id (x := i * S.zv (S.k2 r)) (by omega) (by omega), wI_id (x := S.st r.toNat + i * S.zv (S.k2 r)) (by omega) (by omega), wI_id (x := S.st r.toNat + i * S.zv (S.k2 r) + S.col r j) (by omega) (by omega)]
theorem q_place (ok : S.ok) (h : SHC S s M) : pw (mX3_place s r i j M) (fun q => q.2 = M ∧ (((0 ≤ r ∧ r < S.nr) ∧ S.inr r i j ∧ q.1 = S.at' r i j) ∨ (¬ ((0 ≤ r ∧ r < S.nr) ∧ S.inr r i j) ∧ q.1 = -1))) := by
  have h' := h
  obtain ⟨⟨a0, a1, a2, a3, a4, a5, a6, a7⟩, h2, h3⟩ := h'
  unfold mX3_place
  refine p_if (fun c => p_ret ⟨rfl, Or.inr ⟨fun y => by have := y.1.1; omega, rfl⟩⟩) (fun c => ?_)
  refine p_gFc (ji := 6) rfl a6 (p_if (fun c2 => ?_) (fun c2 => p_ret ⟨rfl, Or.inr ⟨fun y => by have := y.1.2; omega, rfl⟩⟩))
  have r0 : 0 ≤ r := by omega
  obtain ⟨b1, b2, b3, b4, b5⟩ := h3 r r0 c2
  have fin := q_place_29 (i := i) (j := j) ok h r0 c2
  have fin2 : pw (mX3_place_29 s r i (S.col r j) M) (fun q => q.2 = M ∧ (((0 ≤ r ∧ r < S.nr) ∧ S.inr r i j ∧ q.1 = S.at' r i j) ∨ (¬ ((0 ≤ r ∧ r < S.nr) ∧ S.inr r i j) ∧ q.1 = -1))) := p_mono fin (fun q z => ⟨z.1, z.2.elim (fun y => Or.inl ⟨⟨r0, c2⟩, y⟩) (fun y => Or.inr ⟨fun w => y.1 w.2, y.2⟩)⟩)
  refine p_gFc (ji := 2) rfl a2 (p_aGc b2 (p_if (fun c3 => ?_) (fun c3 => ?_)))
  · have e : S.col r j = 0 := if_pos c3
    rw [e] at fin2; exact fin2
  · have e : S.col r j = j := if_neg c3
    rw [e] at fin2; exact fin2
theorem q_bit {p : Int} (h : SHC S s M) (ok : S.ok) (hp : 0 ≤ p ∧ p ≤ 100) : pw (mX3_bit s p M) (fun q => q.2 = M ∧ q.1 = S.nf - 1 - p) := by
  have nf := ok.nf
  unfold mX3_bit
  refine p_gFc (ji := 7) rfl h.1.2.2.2.2.2.2.2 (p_ret ⟨rfl, ?_⟩)
  show wI (wI (S.nf - 1) - p) = _
  rw [wI_id (x := S.nf - 1) (by omega) (by omega), wI_id (x := S.nf - 1 - p) (by omega) (by omega)]
theorem q_twice' (h : SHC S s M) : pw (mX3_isOfOneKindTwice s r M) (fun q => q.2 = M ∧ (((0 ≤ r ∧ r < S.nr) ∧ S.k1 r = S.k2 r ∧ q.1 = 1) ∨ (¬ ((0 ≤ r ∧ r < S.nr) ∧ S.k1 r = S.k2 r) ∧ q.1 = 0))) := by
  obtain ⟨⟨a0, a1, a2, a3, a4, a5, a6, a7⟩, h2, h3⟩ := h
  unfold mX3_isOfOneKindTwice
  refine p_if (fun c => p_ret ⟨rfl, Or.inr ⟨fun y => by have := y.1.1; omega, rfl⟩⟩) (fun c => ?_)
  refine p_gFc (ji := 6) rfl a6 (p_if (fun c2 => p_ret ⟨rfl, Or.inr ⟨fun y => by have := y.1.2; omega, rfl⟩⟩) (fun c2 => ?_))
  obtain ⟨b1, b2, b3, b4, b5⟩ := h3 r (by omega) (by omega)
  refine p_gFc (ji := 1) rfl a1 (p_aGc b1 (p_gFc (ji := 2) rfl a2 (p_aGc b2 (p_if (fun c3 => p_ret ⟨rfl, Or.inl ⟨by omega, c3, rfl⟩⟩) (fun c3 => p_ret ⟨rfl, Or.inr ⟨fun y => c3 y.2, rfl⟩⟩)))))
/-- a relation of one kind twice: where its facts stand -/
theorem tw_at (ok : S.ok) (h0 : 0 ≤ r) (h1 : r < S.nr) (hk : S.k1 r = S.k2 r) : S.zv (S.k1 r) = S.zv (S.k2 r) ∧ S.at' r i j = S.st r.toNat + i * S.zv (S.k2 r) + j ∧ (S.inr r i j ↔ (0 ≤ i ∧ i < S.zv (S.k2 r)) ∧ (0 ≤ j ∧ j < S.zv (S.k2 r))) := by
  have k := ok.2.2 r h0 h1
  have e : S.col r j = j := if_neg (by omega)
  refine ⟨by rw [hk], ?_, ?_⟩
  · unfold SH.at'; rw [e, Int.mul_comm]
  · unfold SH.inr; rw [e, hk]
end
/-! paths -/
section
variable {A : Int → Int → Bool}
theorem wst_out {k : Int} (h : ∀ i, A i k = false) : wst A k = A := by
  funext i j
  unfold wst
  rw [h i]; simp
theorem wsn_out {s : Int} (h : ∀ i j, ¬ ((0 ≤ i ∧ i < s) ∧ (0 ≤ j ∧ j < s)) → A i j = false) : ∀ n : Nat, ∀ i j, ¬ ((0 ≤ i ∧ i < s) ∧ (0 ≤ j ∧ j < s)) → wsn A n i j = false := by
  intro n
  induction n with
  | zero => exact h
  | succ n ih =>
    intro i j hij
    show wst (wsn A n) (n : Int) i j = false
    unfold wst
    rw [ih i j hij]
    by_cases c : 0 ≤ i ∧ i < s
    · have : wsn A n (n : Int) j = false := ih _ _ (fun y => hij ⟨c, y.2⟩)
      rw [this]; simp
    · have : wsn A n i (n : Int) = false := ih _ _ (fun y => c y.1)
      rw [this]; simp
theorem wsn_stay {s : Nat} (h : ∀ i j, ¬ ((0 ≤ i ∧ i < (s : Int)) ∧ (0 ≤ j ∧ j < (s : Int))) → A i j = false) : ∀ d : Nat, wsn A (s + d) = wsn A s := by
  intro d
  induction d with
  | zero => rfl
  | succ d ih =>
    show wst (wsn A (s + d)) ((s + d : Nat) : Int) = wsn A s
    rw [wst_out (fun i => wsn_out h (s + d) i _ (fun y => by omega)), ih]
theorem clo_s {s : Nat} (hs : s ≤ 3) (h : ∀ i j, ¬ ((0 ≤ i ∧ i < (s : Int)) ∧ (0 ≤ j ∧ j < (s : Int))) → A i j = false) : clo A = wsn A s := by
  have := wsn_stay h (3 - s)
  rw [show s + (3 - s) = 3 by omega] at this
  exact this
theorem wst_diag (k j : Int) : wst A k k j = A k j := by
  unfold wst
  cases A k j <;> simp
theorem wst_col (k i : Int) : wst A k i k = A i k := by
  unfold wst
  cases A i k <;> simp
end
section
variable {M : Mem} {a s : Int}
/-- the paths' cells, half done -/
def PST (a s : Int) (W : Nat → Int → Int → Bool) (k i j : Int) (M : Mem) : Prop := ∀ i' j' : Int, 0 ≤ i' → i' < s → 0 ≤ j' → j' < s → InLL (mG M 23 (a + i' * s + j')) ∧ ∀ b : Nat, b < 64 → lb (mG M 23 (a + i' * s + j')) b = if i' < i ∨ (i' = i ∧ j' < j) then wst (W b) k i' j' else W b i' j'
def FP (a s : Int) (M M' : Mem) : Prop := ∀ c j : Int, ¬ (c = 23 ∧ a ≤ j ∧ j < a + s * s) → mG M' c j = mG M c j
theorem ad_1 (hs : s = 1 ∨ s = 2 ∨ s = 3) (ha : 0 ≤ a ∧ a ≤ 27) {i j : Int} (i0 : 0 ≤ i ∧ i < s) (j0 : 0 ≤ j ∧ j < s) : wI (wI (a + wI (i * s)) + j) = a + i * s + j ∧ a ≤ a + i * s + j ∧ a + i * s + j < a + s * s := by
  rcases hs with e | e | e <;> subst e
  · rw [wI_id (x := i * 1) (by omega) (by omega), wI_id (x := a + i * 1) (by omega) (by omega), wI_id (x := a + i * 1 + j) (by omega) (by omega)]; omega
  · rw [wI_id (x := i * 2) (by omega) (by omega), wI_id (x := a + i * 2) (by omega) (by omega), wI_id (x := a + i * 2 + j) (by omega) (by omega)]; omega
  · rw [wI_id (x := i * 3) (by omega) (by omega), wI_id (x := a + i * 3) (by omega) (by omega), wI_id (x := a + i * 3 + j) (by omega) (by omega)]; omega
theorem ad_inj (hs : s = 1 ∨ s = 2 ∨ s = 3) {i j i' j' : Int} (j0 : 0 ≤ j ∧ j < s) (j1 : 0 ≤ j' ∧ j' < s) (h : a + i * s + j = a + i' * s + j') : i = i' ∧ j = j' := by
  rcases hs with e | e | e <;> subst e <;> omega
theorem q_fp63 {W0 : Nat → Int → Int → Bool} (e4 : mG M 20 4 = 23) (hs : s = 1 ∨ s = 2 ∨ s = 3) (ha : 0 ≤ a ∧ a ≤ 27) : ∀ (fu k : Nat) (M' : Mem), (k : Int) ≤ s → FP a s M M' → PST a s (fun b => wsn (W0 b) k) k 0 0 M' → pw (mX0_findPaths_63 fu 20 a s (k : Int) M') (fun q => FP a s M q.2 ∧ ∀ i' j' : Int, 0 ≤ i' → i' < s → 0 ≤ j' → j' < s → InLL (mG q.2 23 (a + i' * s + j')) ∧ ∀ b : Nat, b < 64 → lb (mG q.2 23 (a + i' * s + j')) b = wsn (W0 b) s.toNat i' j') := by
  intro fu
  induction fu with
  | zero => intro k M' _ _ _; exact p_none
  | succ fu ih =>
    intro k M' hk fr ps
    show pw (bX0_findPaths_63 (mX0_findPaths_63 fu) 20 a s (k : Int) M') _
    unfold bX0_findPaths_63
    refine p_if (fun c => p_ret ⟨fr, fun i' j' i0 i1 j0 j1 => ?_⟩) (fun c => ?_)
    · have ek : s.toNat = k := by omega
      obtain ⟨x, y⟩ := ps i' j' i0 i1 j0 j1
      refine ⟨x, fun b hb => ?_⟩
      rw [y b hb, if_neg (by omega), ek]
    have k72 : ∀ (fu2 : Nat) (i : Int) (M2 : Mem), 0 ≤ i → i ≤ s → FP a s M M2 → PST a s (fun b => wsn (W0 b) k) k i 0 M2 → pw (mX0_findPaths_72 (mX0_findPaths_63 fu) fu2 20 a s (k : Int) i M2) (fun q => FP a s M q.2 ∧ ∀ i' j' : Int, 0 ≤ i' → i' < s → 0 ≤ j' → j' < s → InLL (mG q.2 23 (a + i' * s + j')) ∧ ∀ b : Nat, b < 64 → lb (mG q.2 23 (a + i' * s + j')) b = wsn (W0 b) s.toNat i' j') := by
      intro fu2
      induction fu2 with
      | zero => intro i M2 _ _ _ _; exact p_none
      | succ fu2 ih2 =>
        intro i M2 i0 i1 fr ps
        show pw (bX0_findPaths_72 (mX0_findPaths_63 fu) (mX0_findPaths_72 (mX0_findPaths_63 fu) fu2) 20 a s (k : Int) i M2) _
        unfold bX0_findPaths_72
        refine p_if (fun c2 => ?_) (fun c2 => ?_)
        · rw [wI_id (x := (k : Int) + 1) (by omega) (by omega), show (k : Int) + 1 = ((k + 1 : Nat) : Int) by omega]
          refine ih (k + 1) M2 (by omega) fr (fun i' j' i0' i1' j0 j1 => ?_)
          obtain ⟨x, y⟩ := ps i' j' i0' i1' j0 j1
          refine ⟨x, fun b hb => ?_⟩
          rw [y b hb, if_pos (by omega), if_neg (by omega)]; rfl
        · have g4 : mG M2 20 4 = 23 := (fr 20 4 (by omega)).trans e4
          have ik : 0 ≤ (k : Int) ∧ (k : Int) < s := by omega
          obtain ⟨w1, w2, w3⟩ := ad_1 hs ha (i := i) (j := (k : Int)) (by omega) ik
          refine p_gFc (ji := 4) rfl g4 ?_
          rw [w1]
          refine p_aG (fun th hth => ?_)
          have hth1 : InLL th ∧ ∀ b : Nat, b < 64 → lb th b = wsn (W0 b) k i k := by
            obtain ⟨x, y⟩ := ps i k i0 (by omega) ik.1 ik.2
            rw [hth] at x y
            exact ⟨x, fun b hb => by rw [y b hb, if_neg (by omega)]⟩
          have k97 : ∀ (fu3 : Nat) (j : Int) (M3 : Mem), 0 ≤ j → j ≤ s → FP a s M M3 → PST a s (fun b => wsn (W0 b) k) k i j M3 → pw (mX0_findPaths_97 (mX0_findPaths_63 fu) (mX0_findPaths_72 (mX0_findPaths_63 fu) fu2) fu3 20 a s (k : Int) i th j M3) (fun q => FP a s M q.2 ∧ ∀ i' j' : Int, 0 ≤ i' → i' < s → 0 ≤ j' → j' < s → InLL (mG q.2 23 (a + i' * s + j')) ∧ ∀ b : Nat, b < 64 → lb (mG q.2 23 (a + i' * s + j')) b = wsn (W0 b) s.toNat i' j') := by
            intro fu3
            induction fu3 with
            | zero => intro j M3 _ _ _ _; exact p_none
            | succ fu3 ih3 =>
              intro j M3 j0 j1 fr3 ps3
              show pw (bX0_findPaths_97 (mX0_findPaths_63 fu) (mX0_findPaths_72 (mX0_findPaths_63 fu) fu2) (mX0_findPaths_97 (mX0_findPaths_63 fu) (mX0_findPaths_72 (mX0_findPaths_63 fu) fu2) fu3) 20 a s (k : Int) i th j M3) _
              unfold bX0_findPaths_97
              refine p_if (fun c3 => ?_) (fun c3 => ?_)
              · rw [wI_id (x := i + 1) (by omega) (by omega)]
                refine ih2 (i + 1) M3 (by omega) (by omega) fr3 (fun i' j' x0 x1 y0 y1 => ?_)
                obtain ⟨x, y⟩ := ps3 i' j' x0 x1 y0 y1
                refine ⟨x, fun b hb => ?_⟩
                rw [y b hb]
                by_cases e : i' < i ∨ (i' = i ∧ j' < j)
                · rw [if_pos e, if_pos (by omega)]
                · rw [if_neg e, if_neg (by omega)]
              · have g4 : mG M3 20 4 = 23 := (fr3 20 4 (by omega)).trans e4
                obtain ⟨u1, u2, u3⟩ := ad_1 hs ha (i := i) (j := j) (by omega) (by omega)
                obtain ⟨v1, v2, v3⟩ := ad_1 hs ha (i := (k : Int)) (j := j) ik (by omega)
                refine p_gFc (ji := 4) rfl g4 ?_
                rw [u1, v1]
                refine p_aG (fun x hx => p_gFc (ji := 4) rfl g4 (p_aG (fun y hy => p_aS (fun M4 h4 => ?_))))
                rw [wI_id (x := j + 1) (by omega) (by omega)]
                obtain ⟨_, x2⟩ := ps3 i j i0 (by omega) j0 (by omega)
                obtain ⟨_, y2⟩ := ps3 k j ik.1 ik.2 j0 (by omega)
                rw [hx] at x2
                rw [hy] at y2
                refine ih3 (j + 1) M4 (by omega) (by omega) (fun c' j' z => (st_ne h4 (fun w => z ⟨w.1, by omega, by omega⟩)).trans (fr3 c' j' z)) (fun i' j' i0' i1' j0' j1' => ?_)
                by_cases e : i' = i ∧ j' = j
                · obtain ⟨e1, e2⟩ := e
                  rw [e1, e2, st_eq h4]
                  refine ⟨lor_L _ _, fun b hb => ?_⟩
                  have x3 : lb x b = wsn (W0 b) k i j := by rw [x2 b hb, if_neg (by omega)]
                  have y3 : lb y b = wsn (W0 b) k (k : Int) j := by
                    rw [y2 b hb]
                    split
                    · exact wst_diag _ _
                    · rfl
                  rw [lb_or, lb_and, x3, y3, hth1.2 b hb, if_pos (show i < i ∨ (i = i ∧ j < j + 1) from Or.inr ⟨rfl, by omega⟩)]
                  rfl
                · have ne : ¬ (a + i' * s + j' = a + i * s + j) := fun y => e (ad_inj hs ⟨j0', j1'⟩ ⟨j0, by omega⟩ y)
                  rw [st_ne h4 (fun z => ne z.2)]
                  obtain ⟨x, y⟩ := ps3 i' j' i0' i1' j0' j1'
                  refine ⟨x, fun b hb => ?_⟩
                  rw [y b hb]
                  by_cases e3 : i' < i ∨ (i' = i ∧ j' < j)
                  · rw [if_pos e3, if_pos (by omega)]
                  · rw [if_neg e3, if_neg (by omega)]
          refine k97 FU 0 M2 (by decide) (by omega) fr (fun i' j' x0 x1 y0 y1 => ?_)
          obtain ⟨x, y⟩ := ps i' j' x0 x1 y0 y1
          refine ⟨x, fun b hb => ?_⟩
          rw [y b hb]
    exact k72 FU 0 M' (by decide) (by omega) fr ps
end
end
section
/-! ===== the class judges ===== -/
/-- what stands while a text is judged: the shape at s, the text at t, the facts -/
def JF (S : SH) (ps : List Row) (t s : Int) (Φ : Nat → Int → Bool) (M : Mem) : Prop := (mG M 20 0 = s ∧ mG M 20 1 = t ∧ mG M 20 2 = 21 ∧ mG M 20 3 = 22 ∧ mG M 20 4 = 23) ∧ SHC S s M ∧ TT ps t M ∧ ∀ p : Int, 0 ≤ p → p < S.nf → InLL (mG M 21 p) ∧ ∀ b : Nat, b < 64 → lb (mG M 21 p) b = Φ b p
/-- the paths that are called found are right -/
def JP (S : SH) (Φ : Nat → Int → Bool) (M : Mem) : Prop := ∀ r : Int, 0 ≤ r → r < S.nr → S.k1 r = S.k2 r → ¬ iand (ishr (mG M 20 5) r) 1 = 0 → ∀ i j : Int, 0 ≤ i → i < S.zv (S.k2 r) → 0 ≤ j → j < S.zv (S.k2 r) → InLL (mG M 23 (S.at' r i j)) ∧ ∀ b : Nat, b < 64 → lb (mG M 23 (S.at' r i j)) b = clo (S.fa (Φ b) r) i j
def FJ (d : Int) (M M' : Mem) : Prop := ∀ c j : Int, ¬ (c = 20 ∧ j = 5) → ¬ (c = 22 ∧ d ≤ j) → ¬ c = 23 → mG M' c j = mG M c j
theorem FJ.rf {d : Int} {M : Mem} : FJ d M M := fun _ _ _ _ _ => rfl
theorem FJ.tr {d d' : Int} {M M1 M2 : Mem} (h1 : FJ d M M1) (h2 : FJ d' M1 M2) (hd : d ≤ d') : FJ d M M2 := fun c j x y z => (h2 c j x (fun w => y ⟨w.1, by omega⟩) z).trans (h1 c j x y z)
/-- cells that a shape and a text may have -/
def okST (s t : Int) : Prop := (s = 4 ∨ s = 38) ∧ 169 < t
section
variable {S : SH} {ps : List Row} {t s : Int} {Φ : Nat → Int → Bool} {M : Mem}
theorem JF.kp {M' : Mem} (h : JF S ps t s Φ M) (o : okST s t) (g : ∀ c j : Int, ¬ (c = 20 ∧ j = 5) → ¬ c = 22 → ¬ c = 23 → mG M' c j = mG M c j) : JF S ps t s Φ M' := by
  obtain ⟨⟨a0, a1, a2, a3, a4⟩, h2, h3, h4⟩ := h
  obtain ⟨o1, o2⟩ := o
  have e : ∀ j : Int, ¬ j = 5 → mG M' 20 j = mG M 20 j := fun j hj => g 20 j (fun z => hj z.2) (by decide) (by decide)
  refine ⟨⟨(e _ (by decide)).trans a0, (e _ (by decide)).trans a1, (e _ (by decide)).trans a2, (e _ (by decide)).trans a3, (e _ (by decide)).trans a4⟩, h2.kp (fun c j c0 c1 => g c j (by omega) (by omega) (by omega)), h3.of (fun c j c0 c1 => g c j (by omega) (by omega) (by omega)), fun p p0 p1 => ?_⟩
  rw [g 21 p (by omega) (by decide) (by decide)]
  exact h4 p p0 p1
theorem FJ.jf {d : Int} {M' : Mem} (f : FJ d M M') (hd : 0 ≤ d) (h : JF S ps t s Φ M) (o : okST s t) : JF S ps t s Φ M' := h.kp o (fun c j x y z => f c j x (fun w => y w.1) z)
theorem FJ.st {d i x : Int} {M' : Mem} (hM : M' = mS M 22 i x) (hi : d ≤ i) : FJ d M M' := fun c j _ y _ => st_ne hM (fun w => y ⟨w.1, by omega⟩)
theorem JP.st {i x : Int} {M' : Mem} (h : JP S Φ M) (hM : M' = mS M 22 i x) : JP S Φ M' := fun r r0 r1 hk hb i' j' i0 i1 j0 j1 => by
  rw [st_ne hM (by omega)] at hb ⊢
  exact h r r0 r1 hk hb i' j' i0 i1 j0 j1
theorem zv_c (ok : S.ok) {r : Int} (r0 : 0 ≤ r) (r1 : r < S.nr) : S.zv (S.k2 r) = 1 ∨ S.zv (S.k2 r) = 2 ∨ S.zv (S.k2 r) = 3 := by
  have := ok.zv (k := S.k2 r) (ok.2.2 r r0 r1).2
  omega
/-- the bit of a relation -/
theorem pbit1 : ∀ p : Nat, p < 16 → ∀ r : Nat, r < 4 → ∀ u : Nat, u < 4 → decide (iand (ishr (ior (p : Int) (ishl 1 (r : Int))) (u : Int)) 1 = 0) = decide (¬ u = r ∧ iand (ishr (p : Int) (u : Int)) 1 = 0) := by decide +kernel
theorem pbit2 : ∀ p : Nat, p < 16 → ∀ r : Nat, r < 4 → 0 ≤ ior (p : Int) (ishl 1 (r : Int)) ∧ ior (p : Int) (ishl 1 (r : Int)) < 16 := by decide +kernel
theorem pbit (p : Nat) (hp : p < 16) (r : Nat) (hr : r < 4) (u : Nat) (hu : u < 4) : (iand (ishr (ior (p : Int) (ishl 1 (r : Int))) (u : Int)) 1 = 0 ↔ (¬ u = r ∧ iand (ishr (p : Int) (u : Int)) 1 = 0)) ∧ 0 ≤ ior (p : Int) (ishl 1 (r : Int)) ∧ ior (p : Int) (ishl 1 (r : Int)) < 16 := ⟨decide_eq_decide.mp (pbit1 p hp r hr u hu), pbit2 p hp r hr⟩
theorem q_findPaths {r : Int} (ok : S.ok) (o : okST s t) (h : JF S ps t s Φ M) (hp : JP S Φ M) (h5 : 0 ≤ mG M 20 5 ∧ mG M 20 5 < 16) (r0 : 0 ≤ r) (r1 : r < S.nr) (hk : S.k1 r = S.k2 r) : pw (mX0_findPaths 20 r M) (fun q => JF S ps t s Φ q.2 ∧ JP S Φ q.2 ∧ (0 ≤ mG q.2 20 5 ∧ mG q.2 20 5 < 16) ∧ FJ 100 M q.2 ∧ ¬ iand (ishr (mG q.2 20 5) r) 1 = 0) := by
  obtain ⟨p5, hp5⟩ := Int.eq_ofNat_of_zero_le h5.1
  obtain ⟨rn, hrn⟩ := Int.eq_ofNat_of_zero_le r0
  have nr4 := ok.2.1.2
  obtain ⟨⟨a0, a1, a2, a3, a4⟩, sh, tt, fa⟩ := id h
  obtain ⟨b1, b2, b3, b4, b5⟩ := sh.2.2 r r0 r1
  have s9 := ok.st9 r0 r1
  have hs := zv_c ok r0 r1
  unfold mX0_findPaths
  refine p_gF (ji := 5) rfl (fun v hv => p_if (fun c => ?_) (fun c => p_ret ⟨h, hp, h5, FJ.rf, by show ¬ iand (ishr (mG M 20 5) r) 1 = 0; rw [hv]; exact c⟩))
  refine p_gFc (ji := 5) rfl hp5 (p_pF (ji := 5) rfl (fun M1 h1 => ?_))
  have g1 : ∀ c j : Int, ¬ (c = 20 ∧ j = 5) → mG M1 c j = mG M c j := fun c j z => st_ne h1 z
  have jf1 : JF S ps t s Φ M1 := h.kp o (fun c j x _ _ => g1 c j x)
  have e5 : mG M1 20 5 = ior (p5 : Int) (ishl 1 r) := st_eq h1
  rw [hrn] at e5
  have pb := pbit p5 (by omega) rn (by omega)
  refine p_gFc (ji := 0) rfl jf1.1.1 (p_gFc (ji := 3) rfl jf1.2.1.1.2.2.2.1 (p_aGc (jf1.2.1.2.2 r r0 r1).2.2.1 ?_))
  refine p_gFc (ji := 0) rfl jf1.1.1 (p_gFc (ji := 5) rfl jf1.2.1.1.2.2.2.2.2.1 (p_aGc (jf1.2.1.2.2 r r0 r1).2.2.2.2 ?_))
  refine p_gFc (ji := 2) rfl jf1.1.2.2.1 (p_gFc (ji := 4) rfl jf1.1.2.2.2.2 (p_aC (fun M2 h2 => ?_)))
  obtain ⟨a, ha⟩ : ∃ a, a = S.st r.toNat := ⟨_, rfl⟩
  obtain ⟨z, hz⟩ : ∃ z, z = S.zv (S.k2 r) := ⟨_, rfl⟩
  have zk : S.zv (S.k1 r) = z := by rw [hz, hk]
  rw [← ha] at h2 s9
  rw [← hz] at h2 hs
  rw [← ha, ← hz]
  have z9 : wI (z * z) = z * z ∧ 1 ≤ z * z ∧ z * z ≤ 9 := by
    rcases hs with e | e | e <;> rw [e] <;> decide
  rw [z9.1] at h2
  have g2 : ∀ c j : Int, ¬ (c = 23 ∧ a ≤ j ∧ j < a + z * z) → mG M2 c j = mG M1 c j := fun c j w => by rw [cp_g h2, if_neg w]
  have nfb : a + z * z ≤ S.nf := by
    have hin : S.inr r (z - 1) (z - 1) := by rw [(tw_at ok r0 r1 hk).2.2, ← hz]; omega
    have := ok.pos r0 r1 hin
    rw [(tw_at ok r0 r1 hk).2.1, ← ha, ← hz] at this
    rcases hs with e | e | e <;> rw [e] at this ⊢ <;> omega
  have ps2 : PST a z (fun b => wsn (S.fa (Φ b) r) 0) ((0 : Nat) : Int) 0 0 M2 := fun i' j' i0 i1 j0 j1 => by
    obtain ⟨w1, w2, w3⟩ := ad_1 hs s9 (i := i') (j := j') ⟨i0, i1⟩ ⟨j0, j1⟩
    have hin : S.inr r i' j' := by rw [(tw_at ok r0 r1 hk).2.2, ← hz]; exact ⟨⟨i0, i1⟩, j0, j1⟩
    rw [cp_g h2, if_pos ⟨rfl, w2, w3⟩, show a + (a + i' * z + j' - a) = a + i' * z + j' by omega]
    obtain ⟨x, y⟩ := jf1.2.2.2 (a + i' * z + j') (by omega) (by omega)
    refine ⟨x, fun b hb => ?_⟩
    rw [y b hb, if_neg (by omega)]
    show Φ b _ = S.fa (Φ b) r i' j'
    rw [SH.fa_in hin, (tw_at ok r0 r1 hk).2.1, ← ha, ← hz]
  refine p_mono (q_fp63 (M := M2) (W0 := fun b => S.fa (Φ b) r) ((g2 20 4 (by omega)).trans jf1.1.2.2.2.2) hs s9 FU 0 M2 (by rcases hs with e | e | e <;> rw [e] <;> decide) (fun _ _ _ => rfl) ps2) (fun q y => ?_)
  obtain ⟨fr, y⟩ := y
  have g3 : ∀ c j : Int, ¬ (c = 23 ∧ a ≤ j ∧ j < a + z * z) → mG q.2 c j = mG M1 c j := fun c j w => (fr c j w).trans (g2 c j w)
  have e53 : mG q.2 20 5 = ior (p5 : Int) (ishl 1 (rn : Int)) := (g3 20 5 (by omega)).trans e5
  refine ⟨jf1.kp o (fun c j _ _ x => g3 c j (fun w => x w.1)), fun u u0 u1 uk ub i' j' i0 i1 j0 j1 => ?_, ?_, fun c j x _ w => (g3 c j (fun y => w y.1)).trans (g1 c j x), ?_⟩
  · by_cases e : u = r
    · subst e
      rw [← hz] at i1 j1
      obtain ⟨x, y⟩ := y i' j' i0 i1 j0 j1
      rw [(tw_at ok u0 u1 uk).2.1, ← ha, ← hz]
      refine ⟨x, fun b hb => ?_⟩
      rw [y b hb]
      have hcl : clo (S.fa (Φ b) u) = wsn (S.fa (Φ b) u) z.toNat := clo_s (by omega) (fun i j hij => SH.fa_out (fun w => hij (by
        have w := (tw_at ok u0 u1 uk).2.2.mp w
        rw [← hz] at w
        omega)))
      rw [hcl]
    · obtain ⟨un, hun⟩ := Int.eq_ofNat_of_zero_le u0
      rw [e53, hun] at ub
      have ub2 : ¬ iand (ishr (p5 : Int) (un : Int)) 1 = 0 := fun w => ub ((pb un (by omega)).1.mpr ⟨by omega, w⟩)
      have hin : S.inr u i' j' := by rw [(tw_at ok u0 u1 uk).2.2]; exact ⟨⟨i0, i1⟩, j0, j1⟩
      have pu := ok.pos u0 u1 hin
      have dis : ¬ (a ≤ S.at' u i' j' ∧ S.at' u i' j' < a + z * z) := fun w => by
        have er : S.st (r.toNat + 1) = a + z * z := by
          show S.st r.toNat + S.zv (S.k1 (r.toNat : Int)) * S.zv (S.k2 (r.toNat : Int)) = _
          rw [show ((r.toNat : Nat) : Int) = r by omega, zk, ← hz, ← ha]
        by_cases lt : u < r
        · have m := ok.mono (a := u.toNat + 1) (r.toNat - (u.toNat + 1)) (by omega)
          rw [show u.toNat + 1 + (r.toNat - (u.toNat + 1)) = r.toNat by omega, ← ha] at m
          omega
        · have m := ok.mono (a := r.toNat + 1) (u.toNat - (r.toNat + 1)) (by omega)
          rw [show r.toNat + 1 + (u.toNat - (r.toNat + 1)) = u.toNat by omega, er] at m
          omega
      rw [g3 23 _ (fun w => dis w.2), g1 23 _ (by omega)]
      exact hp u u0 u1 uk (by rw [hp5, hun]; exact ub2) i' j' i0 i1 j0 j1
  · rw [e53]; exact (pb 0 (by decide)).2
  · rw [e53, hrn]
    intro w
    exact ((pb rn (by omega)).1.mp w).1 rfl
theorem q_reached {r i j : Int} (ok : S.ok) (o : okST s t) (h : JF S ps t s Φ M) (hp : JP S Φ M) (h5 : 0 ≤ mG M 20 5 ∧ mG M 20 5 < 16) (r0 : 0 ≤ r) (r1 : r < S.nr) (hk : S.k1 r = S.k2 r) : pw (mX0_reached 20 r i j M) (fun q => (InLL q.1 ∧ ∀ b : Nat, b < 64 → lb q.1 b = clo (S.fa (Φ b) r) i j) ∧ JF S ps t s Φ q.2 ∧ JP S Φ q.2 ∧ (0 ≤ mG q.2 20 5 ∧ mG q.2 20 5 < 16) ∧ FJ 100 M q.2) := by
  unfold mX0_reached
  refine p_gFc (ji := 0) rfl h.1.1 (p_gK (p_call (q_twice' h.2.1) (fun v m y => ?_)))
  obtain ⟨e, y⟩ := y
  replace e : m = M := e
  subst e
  rcases y with ⟨_, _, hv⟩ | ⟨y, _⟩
  · replace hv : v = 1 := hv
    subst hv
    refine p_it0 (show ¬ (1 : Int) = 0 by decide) (p_gK (p_call (q_findPaths ok o h hp h5 r0 r1 hk) (fun v m1 y => ?_)))
    obtain ⟨jf, jp, h5', fr, hb⟩ := y
    replace jf : JF S ps t s Φ m1 := jf
    refine p_gFc (ji := 0) rfl jf.1.1 (p_gK (p_call (q_place (i := i) (j := j) (r := r) ok jf.2.1) (fun v m2 y => ?_)))
    obtain ⟨e, y⟩ := y
    replace e : m2 = m1 := e
    subst e
    have out : ∀ b : Nat, ¬ S.inr r i j → clo (S.fa (Φ b) r) i j = false := fun b hin => wsn_out (s := S.zv (S.k2 r)) (fun i j hij => SH.fa_out (fun w => hij ((tw_at ok r0 r1 hk).2.2.mp w))) 3 i j (fun w => hin ((tw_at ok r0 r1 hk).2.2.mpr w))
    rcases y with ⟨_, hin, hv⟩ | ⟨y, hv⟩
    · replace hv : v = S.at' r i j := hv
      have pp := ok.pos r0 r1 hin
      have s9 := ok.st9 r0 r1
      have nf := ok.nf
      refine p_if (fun c => ?_) (fun c => p_if (fun c2 => ?_) (fun c2 => ?_))
      · have c : v < 0 := c
        omega
      · have c2 : 36 ≤ v := c2
        omega
      · have w := (tw_at ok r0 r1 hk).2.2.mp hin
        refine p_gFc (ji := 4) rfl jf.1.2.2.2.2 (p_aG (fun x hx => p_ret ⟨?_, jf, jp, h5', fr⟩))
        show InLL x ∧ _
        rw [← hx, hv]
        exact jp r r0 r1 hk hb i j w.1.1 w.1.2 w.2.1 w.2.2
    · replace hv : v = -1 := hv
      refine p_it1 (by show v < 0; omega) (p_ret ⟨⟨L_0, fun b hb => ?_⟩, jf, jp, h5', fr⟩)
      show lb 0 b = _
      rw [lb_zero, out b (fun w => y ⟨⟨r0, r1⟩, w⟩)]
  · exact absurd ⟨⟨r0, r1⟩, hk⟩ y
theorem q_factAt {r i j : Int} (ok : S.ok) (h : JF S ps t s Φ M) (r0 : 0 ≤ r) (r1 : r < S.nr) : pw (mX0_factAt 20 r i j M) (fun q => (InLL q.1 ∧ ∀ b : Nat, b < 64 → lb q.1 b = S.fa (Φ b) r i j) ∧ q.2 = M) := by
  unfold mX0_factAt
  refine p_gFc (ji := 0) rfl h.1.1 (p_gK (p_call (q_place (i := i) (j := j) (r := r) ok h.2.1) (fun v m y => ?_)))
  obtain ⟨e, y⟩ := y
  replace e : m = M := e
  subst e
  rcases y with ⟨_, hin, hv⟩ | ⟨y, hv⟩
  · replace hv : v = S.at' r i j := hv
    have pp := ok.pos r0 r1 hin
    have s9 := ok.st9 r0 r1
    have nf := ok.nf
    refine p_if (fun c => ?_) (fun c => p_if (fun c2 => ?_) (fun c2 => ?_))
    · have c : v < 0 := c
      omega
    · have c2 : 36 ≤ v := c2
      omega
    · refine p_gFc (ji := 2) rfl h.1.2.2.1 (p_aG (fun x hx => p_ret ⟨?_, rfl⟩))
      show InLL x ∧ _
      rw [← hx, hv]
      obtain ⟨x1, x2⟩ := h.2.2.2 (S.at' r i j) (by omega) (by omega)
      exact ⟨x1, fun b hb => by rw [x2 b hb, SH.fa_in hin]⟩
  · replace hv : v = -1 := hv
    refine p_it1 (by show v < 0; omega) (p_ret ⟨⟨L_0, fun b hb => ?_⟩, rfl⟩)
    show lb 0 b = _
    rw [lb_zero, SH.fa_out (fun w => y ⟨⟨r0, r1⟩, w⟩)]
end
/-! trees -/
/-- what is bad in a row, its first j -/
def rbad (A : Int → Int → Bool) (i : Int) : Nat → Bool × Bool
  | 0 => (false, false)
  | j + 1 => ((rbad A i j).1 || ((rbad A i j).2 && A i (j : Int)), (rbad A i j).2 || A i (j : Int))
def tbad (A : Int → Int → Bool) (C : Int → Int → Bool) (s : Nat) : Nat → Bool
  | 0 => false
  | i + 1 => tbad A C s i || (rbad A (i : Int) s).1 || C (i : Int) (i : Int)
theorem tree_s {A : Int → Int → Bool} {s : Nat} (hs : s = 1 ∨ s = 2 ∨ s = 3) (h : ∀ i j, ¬ ((0 ≤ i ∧ i < (s : Int)) ∧ (0 ≤ j ∧ j < (s : Int))) → A i j = false) : treeA A = !tbad A (clo A) s s := by
  have hc : ∀ i j, ¬ ((0 ≤ i ∧ i < (s : Int)) ∧ (0 ≤ j ∧ j < (s : Int))) → clo A i j = false := wsn_out h 3
  unfold treeA trow
  rcases hs with e | e | e
  · subst e
    rw [h 0 1 (by decide), h 0 2 (by decide), h 1 0 (by decide), h 1 1 (by decide), h 1 2 (by decide), h 2 0 (by decide), h 2 1 (by decide), h 2 2 (by decide), hc 1 1 (by decide), hc 2 2 (by decide)]
    show _ = !((false || ((false || (false && A 0 0)))) || clo A 0 0)
    cases A 0 0 <;> cases clo A 0 0 <;> rfl
  · subst e
    rw [h 0 2 (by decide), h 1 2 (by decide), h 2 0 (by decide), h 2 1 (by decide), h 2 2 (by decide), hc 2 2 (by decide)]
    show _ = !(((false || ((false || (false && A 0 0)) || ((false || A 0 0) && A 0 1))) || clo A 0 0) || ((false || (false && A 1 0)) || ((false || A 1 0) && A 1 1)) || clo A 1 1)
    cases A 0 0 <;> cases A 0 1 <;> cases A 1 0 <;> cases A 1 1 <;> cases clo A 0 0 <;> cases clo A 1 1 <;> rfl
  · subst e
    show _ = !((((false || (((false || (false && A 0 0)) || ((false || A 0 0) && A 0 1)) || (((false || A 0 0) || A 0 1) && A 0 2))) || clo A 0 0) || (((false || (false && A 1 0)) || ((false || A 1 0) && A 1 1)) || (((false || A 1 0) || A 1 1) && A 1 2)) || clo A 1 1) || (((false || (false && A 2 0)) || ((false || A 2 0) && A 2 1)) || (((false || A 2 0) || A 2 1) && A 2 2)) || clo A 2 2)
    generalize clo A 0 0 = c0
    generalize clo A 1 1 = c1
    generalize clo A 2 2 = c2
    cases A 0 0 <;> cases A 0 1 <;> cases A 0 2 <;> cases A 1 0 <;> cases A 1 1 <;> cases A 1 2 <;> cases A 2 0 <;> cases A 2 1 <;> cases A 2 2 <;> cases c0 <;> cases c1 <;> cases c2 <;> rfl
section
variable {S : SH} {ps : List Row} {t s : Int} {Φ : Nat → Int → Bool} {M : Mem}
theorem q_tree44 {a z : Int} {A C : Nat → Int → Int → Bool} (e2 : mG M 20 2 = 21) (e4 : mG M 20 4 = 23) (hs : z = 1 ∨ z = 2 ∨ z = 3) (ha : 0 ≤ a ∧ a ≤ 27) (hA : ∀ i j : Int, 0 ≤ i → i < z → 0 ≤ j → j < z → InLL (mG M 21 (a + i * z + j)) ∧ ∀ b : Nat, b < 64 → lb (mG M 21 (a + i * z + j)) b = A b i j) (hC : ∀ i j : Int, 0 ≤ i → i < z → 0 ≤ j → j < z → InLL (mG M 23 (a + i * z + j)) ∧ ∀ b : Nat, b < 64 → lb (mG M 23 (a + i * z + j)) b = C b i j) : ∀ (fu i : Nat) (bad : Int), (i : Int) ≤ z → (InLL bad ∧ ∀ b : Nat, b < 64 → lb bad b = tbad (A b) (C b) z.toNat i) → pw (mX0_treeLike_44 fu 20 a z bad (i : Int) M) (fun q => (InLL q.1 ∧ ∀ b : Nat, b < 64 → lb q.1 b = !tbad (A b) (C b) z.toNat z.toNat) ∧ q.2 = M) := by
  intro fu
  induction fu with
  | zero => intro i bad _ _; exact p_none
  | succ fu ih =>
    intro i bad hi hb
    show pw (bX0_treeLike_44 (mX0_treeLike_44 fu) 20 a z bad (i : Int) M) _
    unfold bX0_treeLike_44
    refine p_if (fun c => p_ret ⟨⟨lxor_L _ _, fun b h => ?_⟩, rfl⟩) (fun c => ?_)
    · show lb (lxor bad (-1)) b = _
      rw [lb_not _ h, hb.2 b h, show z.toNat = i by omega]
    have inner : ∀ (fu2 j : Nat) (bad2 tk : Int), (j : Int) ≤ z → (InLL bad2 ∧ ∀ b : Nat, b < 64 → lb bad2 b = (tbad (A b) (C b) z.toNat i || (rbad (A b) (i : Int) j).1)) → (InLL tk ∧ ∀ b : Nat, b < 64 → lb tk b = (rbad (A b) (i : Int) j).2) → pw (mX0_treeLike_56 (mX0_treeLike_44 fu) fu2 20 a z bad2 (i : Int) tk (j : Int) M) (fun q => (InLL q.1 ∧ ∀ b : Nat, b < 64 → lb q.1 b = !tbad (A b) (C b) z.toNat z.toNat) ∧ q.2 = M) := by
      intro fu2
      induction fu2 with
      | zero => intro j bad2 tk _ _ _; exact p_none
      | succ fu2 ih2 =>
        intro j bad2 tk hj hb2 ht
        show pw (bX0_treeLike_56 (mX0_treeLike_44 fu) (mX0_treeLike_56 (mX0_treeLike_44 fu) fu2) 20 a z bad2 (i : Int) tk (j : Int) M) _
        unfold bX0_treeLike_56
        refine p_if (fun c2 => ?_) (fun c2 => ?_)
        · obtain ⟨w1, w2, w3⟩ := ad_1 hs ha (i := (i : Int)) (j := (i : Int)) (by omega) (by omega)
          refine p_gFc (ji := 4) rfl e4 ?_
          rw [w1]
          refine p_aG (fun x hx => ?_)
          rw [wI_id (x := (i : Int) + 1) (by omega) (by omega), show (i : Int) + 1 = ((i + 1 : Nat) : Int) by omega]
          refine ih (i + 1) _ (by omega) ⟨lor_L _ _, fun b h => ?_⟩
          obtain ⟨_, y⟩ := hC i i (by omega) (by omega) (by omega) (by omega)
          rw [hx] at y
          rw [lb_or, hb2.2 b h, y b h, show j = z.toNat by omega]; rfl
        · obtain ⟨w1, w2, w3⟩ := ad_1 hs ha (i := (i : Int)) (j := (j : Int)) (by omega) (by omega)
          refine p_gFc (ji := 2) rfl e2 ?_
          rw [w1]
          refine p_aG (fun x hx => ?_)
          rw [wI_id (x := (j : Int) + 1) (by omega) (by omega), show (j : Int) + 1 = ((j + 1 : Nat) : Int) by omega]
          obtain ⟨_, y⟩ := hA i j (by omega) (by omega) (by omega) (by omega)
          rw [hx] at y
          refine ih2 (j + 1) _ _ (by omega) ⟨lor_L _ _, fun b h => ?_⟩ ⟨lor_L _ _, fun b h => ?_⟩
          · rw [lb_or, lb_and, hb2.2 b h, ht.2 b h, y b h, Bool.or_assoc]; rfl
          · rw [lb_or, ht.2 b h, y b h]; rfl
    exact inner FU 0 bad 0 (by omega) ⟨hb.1, fun b h => by rw [hb.2 b h]; show _ = (_ || false); rw [Bool.or_false]⟩ ⟨L_0, fun b h => lb_zero b⟩
theorem q_tree {r : Int} (ok : S.ok) (o : okST s t) (h : JF S ps t s Φ M) (hp : JP S Φ M) (h5 : 0 ≤ mG M 20 5 ∧ mG M 20 5 < 16) (r0 : 0 ≤ r) (r1 : r < S.nr) (hk : S.k1 r = S.k2 r) : pw (mX0_treeLike 20 r M) (fun q => (InLL q.1 ∧ ∀ b : Nat, b < 64 → lb q.1 b = treeA (S.fa (Φ b) r)) ∧ JF S ps t s Φ q.2 ∧ JP S Φ q.2 ∧ (0 ≤ mG q.2 20 5 ∧ mG q.2 20 5 < 16) ∧ FJ 100 M q.2) := by
  unfold mX0_treeLike
  refine p_gFc (ji := 0) rfl h.1.1 (p_gK (p_call (q_twice' h.2.1) (fun v m y => ?_)))
  obtain ⟨e, y⟩ := y
  replace e : m = M := e
  subst e
  rcases y with ⟨_, _, hv⟩ | ⟨y, _⟩
  · replace hv : v = 1 := hv
    subst hv
    refine p_it0 (show ¬ (1 : Int) = 0 by decide) (p_gK (p_call (q_findPaths ok o h hp h5 r0 r1 hk) (fun v m1 y => ?_)))
    obtain ⟨jf, jp, h5', fr, hb⟩ := y
    replace jf : JF S ps t s Φ m1 := jf
    obtain ⟨b1, b2, b3, b4, b5⟩ := jf.2.1.2.2 r r0 r1
    refine p_gFc (ji := 0) rfl jf.1.1 (p_gFc (ji := 3) rfl jf.2.1.1.2.2.2.1 (p_aGc b3 (p_gFc (ji := 0) rfl jf.1.1 (p_gFc (ji := 5) rfl jf.2.1.1.2.2.2.2.2.1 (p_aGc b5 ?_)))))
    have hs := zv_c ok r0 r1
    have at' : ∀ i j : Int, 0 ≤ i → i < S.zv (S.k2 r) → 0 ≤ j → j < S.zv (S.k2 r) → S.inr r i j ∧ S.at' r i j = S.st r.toNat + i * S.zv (S.k2 r) + j ∧ 0 ≤ S.at' r i j ∧ S.at' r i j < S.nf := fun i j i0 i1 j0 j1 => by
      have hin : S.inr r i j := (tw_at ok r0 r1 hk).2.2.mpr ⟨⟨i0, i1⟩, j0, j1⟩
      have pp := ok.pos r0 r1 hin
      have s9 := ok.st9 r0 r1
      exact ⟨hin, (tw_at ok r0 r1 hk).2.1, by omega, by omega⟩
    refine p_mono (q_tree44 (A := fun b => S.fa (Φ b) r) (C := fun b => clo (S.fa (Φ b) r)) jf.1.2.2.1 jf.1.2.2.2.2 hs (ok.st9 r0 r1) (fun i j i0 i1 j0 j1 => ?_) (fun i j i0 i1 j0 j1 => ?_) FU 0 0 (by omega) ⟨L_0, fun b _ => lb_zero b⟩) (fun q y => ?_)
    · obtain ⟨x1, x2, x3, x4⟩ := at' i j i0 i1 j0 j1
      rw [← x2]
      obtain ⟨y1, y2⟩ := jf.2.2.2 _ x3 x4
      exact ⟨y1, fun b hb => by rw [y2 b hb, SH.fa_in x1]⟩
    · obtain ⟨x1, x2, x3, x4⟩ := at' i j i0 i1 j0 j1
      rw [← x2]
      exact jp r r0 r1 hk hb i j i0 i1 j0 j1
    · obtain ⟨⟨y1, y2⟩, y3⟩ := y
      rw [y3]
      refine ⟨⟨y1, fun b hb => ?_⟩, jf, jp, h5', fr⟩
      rw [y2 b hb, tree_s (s := (S.zv (S.k2 r)).toNat) (by omega) (fun i j hij => SH.fa_out (fun w => hij (by
        have w := (tw_at ok r0 r1 hk).2.2.mp w
        omega)))]
  · exact absurd ⟨⟨r0, r1⟩, hk⟩ y
end
end
