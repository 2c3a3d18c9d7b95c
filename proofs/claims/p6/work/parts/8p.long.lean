/-! ===== the bits of a long ===== -/
def InLL (x : Int) : Prop := -9223372036854775808 ≤ x ∧ x < 9223372036854775808
def lb (x : Int) (b : Nat) : Bool := (Int64.ofInt x).toBitVec.getLsbD b
theorem lb_and (x y : Int) (b : Nat) : lb (land x y) b = (lb x b && lb y b) := by
  unfold lb land
  rw [Int64.ofInt_toInt, Int64.toBitVec_and, BitVec.getLsbD_and]
theorem lb_or (x y : Int) (b : Nat) : lb (lor x y) b = (lb x b || lb y b) := by
  unfold lb lor
  rw [Int64.ofInt_toInt, Int64.toBitVec_or, BitVec.getLsbD_or]
theorem lb_xor (x y : Int) (b : Nat) : lb (lxor x y) b = (lb x b ^^ lb y b) := by
  unfold lb lxor
  rw [Int64.ofInt_toInt, Int64.toBitVec_xor, BitVec.getLsbD_xor]
theorem lb_zero (b : Nat) : lb 0 b = false := by
  unfold lb
  have e : (Int64.ofInt 0).toBitVec = 0#64 := by decide
  rw [e]; exact BitVec.getLsbD_zero
theorem lb_m1 {b : Nat} (h : b < 64) : lb (-1) b = true := by
  unfold lb
  have e : (Int64.ofInt (-1)).toBitVec = BitVec.allOnes 64 := by decide
  rw [e, BitVec.getLsbD_allOnes]; exact decide_eq_true h
theorem lb_not (x : Int) {b : Nat} (h : b < 64) : lb (lxor x (-1)) b = !lb x b := by
  rw [lb_xor, lb_m1 h]; cases lb x b <;> rfl
theorem land_L (x y : Int) : InLL (land x y) := i64_in _
theorem lor_L (x y : Int) : InLL (lor x y) := i64_in _
theorem lxor_L (x y : Int) : InLL (lxor x y) := i64_in _
theorem lshl_L (x y : Int) : InLL (lshl x y) := i64_in _
theorem L_0 : InLL 0 := ⟨by decide, by decide⟩
theorem L_m1 : InLL (-1) := ⟨by decide, by decide⟩
theorem l_ext {x y : Int} (hx : InLL x) (hy : InLL y) (h : ∀ b : Nat, b < 64 → lb x b = lb y b) : x = y := by
  have e : Int64.ofInt x = Int64.ofInt y := by
    apply Int64.toBitVec_inj.mp
    exact BitVec.eq_of_getLsbD_eq (fun i hi => h i hi)
  have := congrArg Int64.toInt e
  rw [toInt_L hx, toInt_L hy] at this
  exact this
theorem l_zero {x : Int} (hx : InLL x) : x = 0 ↔ ∀ b : Nat, b < 64 → lb x b = false :=
  ⟨fun e b _ => by rw [e]; exact lb_zero b, fun h => l_ext hx L_0 (fun b hb => by rw [h b hb, lb_zero])⟩
theorem l_m1 {x : Int} (hx : InLL x) : x = -1 ↔ ∀ b : Nat, b < 64 → lb x b = true :=
  ⟨fun e b hb => by rw [e]; exact lb_m1 hb, fun h => l_ext hx L_m1 (fun b hb => by rw [h b hb, lb_m1 hb])⟩
theorem mask63 : ∀ n : Nat, n < 64 → (((Int32.ofInt (n : Int)).toInt64 &&& 63).toBitVec.smod 64).toNat = n := by decide +kernel
theorem mask_ab : ∀ a : Nat, a < 64 → ∀ b : Nat, b < 64 → ((Int32.ofInt ((64 * a + b : Nat) : Int)).toInt64 &&& 63) = ((Int32.ofInt (b : Int)).toInt64 &&& 63) := by decide +kernel
theorem mask_big (n : Nat) (h : n < 4096) : ((Int32.ofInt (n : Int)).toInt64 &&& 63) = ((Int32.ofInt ((n % 64 : Nat) : Int)).toInt64 &&& 63) := by
  have := mask_ab (n / 64) (by omega) (n % 64) (by omega)
  rw [show 64 * (n / 64) + n % 64 = n by omega] at this
  exact this
theorem lshr_mod (x : Int) {n : Nat} (h : n < 4096) : lshr x (n : Int) = lshr x ((n % 64 : Nat) : Int) := by
  unfold lshr
  rw [mask_big n h]
theorem lshl_mod (x : Int) {n : Nat} (h : n < 4096) : lshl x (n : Int) = lshl x ((n % 64 : Nat) : Int) := by
  unfold lshl
  rw [mask_big n h]
theorem lb_shr {x : Int} {n b : Nat} (hn : n < 64) (h : n + b < 64) : lb (lshr x (n : Int)) b = lb x (n + b) := by
  unfold lb lshr
  rw [Int64.ofInt_toInt, Int64.toBitVec_shiftRight]
  show (BitVec.sshiftRight (Int64.ofInt x).toBitVec (((Int32.ofInt (n : Int)).toInt64 &&& 63).toBitVec.smod 64).toNat).getLsbD b = _
  rw [mask63 n hn, BitVec.getLsbD_sshiftRight, if_pos h]
  simp; omega
theorem lb_one : ∀ n : Nat, n < 64 → ∀ b : Nat, b < 64 → lb (lshl 1 (n : Int)) b = decide (b = n) := by decide +kernel
theorem lb_1 {b : Nat} (h : b < 64) : lb 1 b = decide (b = 0) := by
  have := lb_one 0 (by decide) b h
  have e : lshl 1 ((0 : Nat) : Int) = 1 := by decide
  rw [e] at this; exact this
/-- one bit asked for -/
theorem l_bit {x : Int} {n : Nat} (hn : n < 64) : (land (lshr x (n : Int)) 1 = 0) ↔ lb x n = false := by
  rw [l_zero (land_L _ _)]
  constructor
  · intro h
    have := h 0 (by decide)
    rw [lb_and, lb_shr hn (by omega), lb_1 (by decide)] at this
    simpa using this
  · intro h b hb
    rw [lb_and, lb_1 hb]
    by_cases e : b = 0
    · subst e
      rw [lb_shr hn (by omega), Nat.add_zero, h]; rfl
    · rw [decide_eq_false e]; simp
theorem l_bitc {x : Int} {n : Nat} (hn : n < 64) : (lcmp (land (lshr x (n : Int)) 1) 0 = 0) ↔ lb x n = false := by rw [lcmp_0]; exact l_bit hn
/-! ===== a shape, facts, what a text means ===== -/
abbrev SH : Type := (Int → Int) × Int × (Int → Int) × (Int → Int)
def SH.sz (S : SH) : Int → Int := S.1
def SH.nr (S : SH) : Int := S.2.1
def SH.k1 (S : SH) : Int → Int := S.2.2.1
def SH.k2 (S : SH) : Int → Int := S.2.2.2
def SH.zv (S : SH) (k : Int) : Int := if k = -1 then 1 else S.sz k
def SH.st (S : SH) : Nat → Int
  | 0 => 0
  | r + 1 => SH.st S r + S.zv (S.k1 r) * S.zv (S.k2 r)
def SH.nf (S : SH) : Int := S.st S.nr.toNat
/-- a shape that can be -/
def SH.ok (S : SH) : Prop := (∀ k : Int, 0 ≤ k → k < 3 → 1 ≤ S.sz k ∧ S.sz k ≤ 3) ∧ (0 ≤ S.nr ∧ S.nr ≤ 4) ∧ ∀ r : Int, 0 ≤ r → r < S.nr → (0 ≤ S.k1 r ∧ S.k1 r ≤ 2) ∧ (-1 ≤ S.k2 r ∧ S.k2 r ≤ 2)
def SH.col (S : SH) (r j : Int) : Int := if S.k2 r = -1 then 0 else j
abbrev SH.inr (S : SH) (r i j : Int) : Prop := (0 ≤ i ∧ i < S.zv (S.k1 r)) ∧ (0 ≤ S.col r j ∧ S.col r j < S.zv (S.k2 r))
def SH.at' (S : SH) (r i j : Int) : Int := S.st r.toNat + S.zv (S.k2 r) * i + S.col r j
/-- whether a fact is so -/
def SH.fa (S : SH) (φ : Int → Bool) (r i j : Int) : Bool := if S.inr r i j then φ (S.at' r i j) else false
section
variable {S : SH}
theorem SH.ok.zv (h : S.ok) {k : Int} (hk : -1 ≤ k ∧ k ≤ 2) : 1 ≤ S.zv k ∧ S.zv k ≤ 3 := by
  unfold SH.zv
  split
  · decide
  · exact h.1 k (by omega) (by omega)
theorem SH.ok.step (h : S.ok) {r : Nat} (hr : (r : Int) < S.nr) : S.st r + 1 ≤ S.st (r + 1) ∧ S.st (r + 1) ≤ S.st r + 9 := by
  have k := h.2.2 r (by omega) hr
  have a := h.zv (k := S.k1 r) (by omega)
  have b := h.zv (k := S.k2 r) k.2
  have p := mul_b (x := S.zv (S.k1 r)) (y := S.zv (S.k2 r)) (a := 3) (b := 3) (by omega) (by omega) (by omega) (by omega)
  have q : 1 * 1 ≤ S.zv (S.k1 r) * S.zv (S.k2 r) := Int.mul_le_mul (by omega) (by omega) (by decide) (by omega)
  show S.st r + 1 ≤ S.st r + S.zv (S.k1 r) * S.zv (S.k2 r) ∧ S.st r + S.zv (S.k1 r) * S.zv (S.k2 r) ≤ S.st r + 9
  omega
theorem SH.ok.mono (h : S.ok) {a : Nat} : ∀ d : Nat, ((a + d : Nat) : Int) ≤ S.nr → S.st a ≤ S.st (a + d) ∧ S.st (a + d) ≤ S.st a + 9 * (d : Int) := by
  intro d
  induction d with
  | zero => intro _; exact ⟨Int.le_refl _, by show S.st a ≤ S.st a + 0; omega⟩
  | succ d ih =>
    intro hd
    have i := ih (by omega)
    have s := h.step (r := a + d) (by omega)
    rw [show a + (d + 1) = a + d + 1 by omega]
    omega
theorem SH.ok.st (h : S.ok) {r : Nat} (hr : (r : Int) ≤ S.nr) : 0 ≤ S.st r ∧ S.st r ≤ 9 * (r : Int) := by
  have := h.mono (a := 0) r (by omega)
  rw [Nat.zero_add] at this
  have e : S.st 0 = 0 := rfl
  omega
theorem SH.ok.nf (h : S.ok) : 0 ≤ S.nf ∧ S.nf ≤ 36 := by
  have := h.2.1
  have := h.st (r := S.nr.toNat) (by omega)
  unfold SH.nf
  omega
/-- where a fact stands -/
theorem SH.ok.pos (h : S.ok) {r i j : Int} (h0 : 0 ≤ r) (h1 : r < S.nr) (hi : S.inr r i j) : S.st r.toNat ≤ S.at' r i j ∧ S.at' r i j < S.st (r.toNat + 1) ∧ S.st (r.toNat + 1) ≤ S.nf := by
  have k := h.2.2 r h0 h1
  have a := h.zv (k := S.k1 r) (by omega)
  have b := h.zv (k := S.k2 r) k.2
  obtain ⟨i0, j0⟩ := hi
  have er : ((r.toNat : Nat) : Int) = r := by omega
  have m := h.mono (a := r.toNat + 1) (S.nr.toNat - (r.toNat + 1)) (by omega)
  rw [show r.toNat + 1 + (S.nr.toNat - (r.toNat + 1)) = S.nr.toNat by omega] at m
  have e : S.st (r.toNat + 1) = S.st r.toNat + S.zv (S.k1 r) * S.zv (S.k2 r) := by
    show S.st r.toNat + S.zv (S.k1 (r.toNat : Int)) * S.zv (S.k2 (r.toNat : Int)) = _
    rw [er]
  have p1 : 0 ≤ S.zv (S.k2 r) * i := Int.mul_nonneg (by omega) i0.1
  have p2 : S.zv (S.k2 r) * (i + 1) ≤ S.zv (S.k2 r) * S.zv (S.k1 r) := Int.mul_le_mul_of_nonneg_left (by omega) (by omega)
  rw [Int.mul_add, Int.mul_one, Int.mul_comm (S.zv (S.k2 r)) (S.zv (S.k1 r))] at p2
  unfold SH.at' SH.nf
  rw [e] at m ⊢
  omega
theorem SH.fa_in {φ : Int → Bool} {r i j : Int} (h : S.inr r i j) : S.fa φ r i j = φ (S.at' r i j) := by
  unfold SH.fa; exact if_pos h
theorem SH.fa_out {φ : Int → Bool} {r i j : Int} (h : ¬ S.inr r i j) : S.fa φ r i j = false := by
  unfold SH.fa; exact if_neg h
end
/-- what is reached -/
def wst (A : Int → Int → Bool) (k i j : Int) : Bool := A i j || (A i k && A k j)
def wsn (A : Int → Int → Bool) : Nat → Int → Int → Bool
  | 0 => A
  | n + 1 => wst (wsn A n) (n : Int)
def clo (A : Int → Int → Bool) : Int → Int → Bool := wsn A 3
def trow (A : Int → Int → Bool) (i : Int) : Bool := !(A i 0 && A i 1) && !(A i 0 && A i 2) && !(A i 1 && A i 2) && !clo A i i
def treeA (A : Int → Int → Bool) : Bool := trow A 0 && trow A 1 && trow A 2
def evu (e : Int → Int) (v k : Int) : Int → Int := fun x => if x = v then k else e x
def leafT (A : Int → Int → Int → Bool) (r : Row) (e : Int → Int) : Bool :=
  if r.r0 = 8 then decide (e r.r1 = e r.r2) else if r.r0 = 9 then clo (A r.r1) (e r.r2) (e r.r3) else if r.r0 = 10 then treeA (A r.r1) else if r.r0 = 11 then A r.r1 (e r.r2) 0 else A r.r1 (e r.r2) (e r.r3)
def cnt (g : Int → Bool) : Nat → Int
  | 0 => 0
  | n + 1 => cnt g n + (if g (n : Int) = true then 1 else 0)
def bindT (S : SH) (r : Row) (f : (Int → Int) → Bool) (e : Int → Int) : Bool :=
  let m := cnt (fun k => f (evu e r.r1 k)) (S.sz r.r2).toNat
  if r.r0 = 0 then decide (m = S.sz r.r2) else if r.r0 = 1 then decide (0 < m) else if r.r0 = 2 then decide (r.r3 ≤ m) else decide (m ≤ r.r3)
def joinT (a : Int) (p q : Bool) : Bool := if a = 5 then p && q else if a = 6 then p || q else !p || q
def stp (S : SH) (A : Int → Int → Int → Bool) (r : Row) (L : List ((Int → Int) → Bool)) : List ((Int → Int) → Bool) :=
  if r.c0 ≤ 3 then (match L with
    | f :: L' => bindT S r f :: L'
    | [] => [])
  else if r.c0 = 4 then (match L with
    | f :: L' => (fun e => !f e) :: L'
    | [] => [])
  else if r.c0 ≤ 7 then (match L with
    | f :: g :: L' => (fun e => joinT r.c0 (f e) (g e)) :: L'
    | _ => [])
  else leafT A r :: L
/-- the truth of each part that begins rows -/
def sm (S : SH) (A : Int → Int → Int → Bool) : List Row → List ((Int → Int) → Bool)
  | [] => []
  | r :: rs => stp S A r (sm S A rs)
def hd (L : List ((Int → Int) → Bool)) (e : Int → Int) : Bool := match L with
  | f :: _ => f e
  | [] => false
section
variable {S : SH} {A : Int → Int → Int → Bool} {nr : Int} {k1 k2 : Int → Int}
theorem kids_len (r : Row) (x : Int × Int) : (kids r x).length = ari r.c0 := by
  unfold kids ari
  by_cases h3 : r.c0 ≤ 3
  · rw [if_pos h3, if_pos (by omega)]; rfl
  · rw [if_neg h3]
    by_cases h4 : r.c0 = 4
    · rw [if_pos h4, if_pos (by omega)]; rfl
    · rw [if_neg h4, if_neg (show ¬ r.c0 ≤ 4 by omega)]
      by_cases h7 : r.c0 ≤ 7
      · rw [if_pos h7, if_pos h7]; rfl
      · rw [if_neg h7, if_neg h7]; rfl
theorem stp_len {r : Row} {L : List ((Int → Int) → Bool)} (h : ari r.c0 ≤ L.length) : (stp S A r L).length + ari r.c0 = L.length + 1 ∧ ∀ n : Nat, (stp S A r L).drop (n + 1) = L.drop (n + ari r.c0) := by
  unfold stp ari at *
  by_cases h3 : r.c0 ≤ 3
  · rw [if_pos (show r.c0 ≤ 4 by omega)] at h ⊢
    rw [if_pos h3]
    cases L with
    | nil => exact absurd h (by decide)
    | cons f L => exact ⟨rfl, fun n => rfl⟩
  · rw [if_neg h3]
    by_cases h4 : r.c0 = 4
    · rw [if_pos (show r.c0 ≤ 4 by omega)] at h ⊢
      rw [if_pos h4]
      cases L with
      | nil => exact absurd h (by decide)
      | cons f L => exact ⟨rfl, fun n => rfl⟩
    · rw [if_neg h4, if_neg (show ¬ r.c0 ≤ 4 by omega)]
      rw [if_neg (show ¬ r.c0 ≤ 4 by omega)] at h
      by_cases h7 : r.c0 ≤ 7
      · rw [if_pos h7] at h ⊢
        rw [if_pos h7]
        cases L with
        | nil => exact absurd h (by decide)
        | cons f L =>
          cases L with
          | nil => exact absurd h (by simp)
          | cons g L => exact ⟨rfl, fun n => rfl⟩
      · rw [if_neg h7, if_neg h7]
        exact ⟨rfl, fun n => rfl⟩
theorem sm_len : ∀ (rs : List Row) (ws : List (Int × Int)), ty nr k1 k2 ws rs → (sm S A rs).length = ws.length := by
  intro rs
  induction rs with
  | nil =>
    intro ws h
    cases ws with
    | nil => rfl
    | cons x ws => cases h
  | cons r rs ih =>
    intro ws h
    cases ws with
    | nil => exact absurd h id
    | cons x ws =>
      have i := ih _ h.2
      rw [List.length_append, kids_len] at i
      have := (stp_len (S := S) (A := A) (r := r) (L := sm S A rs) (by omega)).1
      show (stp S A r (sm S A rs)).length = ws.length + 1
      omega
theorem ty_skp : ∀ (rs : List Row) (ws : List (Int × Int)) (n : Nat), ty nr k1 k2 ws rs → n ≤ ws.length → ty nr k1 k2 (ws.drop n) (skp n rs) ∧ sm S A (skp n rs) = (sm S A rs).drop n := by
  intro rs
  induction rs with
  | nil =>
    intro ws n h hn
    cases ws with
    | cons x ws => cases h
    | nil =>
      rw [skp_nil]
      cases n with
      | zero => exact ⟨rfl, rfl⟩
      | succ n => exact absurd hn (by simp)
  | cons r rs ih =>
    intro ws n h hn
    cases n with
    | zero => exact ⟨h, rfl⟩
    | succ n =>
      cases ws with
      | nil => exact absurd h id
      | cons x ws =>
        have hn : n ≤ ws.length := by rw [List.length_cons] at hn; omega
        obtain ⟨a, b⟩ := ih (kids r x ++ ws) (n + ari r.c0) h.2 (by rw [List.length_append, kids_len]; omega)
        have l := sm_len (S := S) (A := A) rs _ h.2
        rw [List.length_append, kids_len] at l
        refine ⟨?_, ?_⟩
        · show ty nr k1 k2 (ws.drop n) (skp (n + ari r.c0) rs)
          have e : (kids r x ++ ws).drop (n + ari r.c0) = ws.drop n := by
            rw [Nat.add_comm n, ← List.drop_drop, List.drop_left' (kids_len r x)]
          rw [← e]; exact a
        · show sm S A (skp (n + ari r.c0) rs) = (stp S A r (sm S A rs)).drop (n + 1)
          rw [b, (stp_len (by omega)).2]
end
