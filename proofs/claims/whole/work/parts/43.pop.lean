/-! ===== PURE: how many bits ===== -/
def pc (n m : Nat) : Nat := cn (fun i => m.testBit i) n
def bc1 (m : Nat) : Nat := m - ((m >>> 1) &&& 1431655765)
def bc2 (m : Nat) : Nat := (m &&& 858993459) + ((m >>> 2) &&& 858993459)
def bc3 (m : Nat) : Nat := (m + (m >>> 4)) &&& 252645135
def bc4 (m : Nat) : Nat := m + (m >>> 8)
def bc5 (m : Nat) : Nat := m + (m >>> 16)
def bcN (m : Nat) : Nat := bc5 (bc4 (bc3 (bc2 (bc1 m)))) &&& 63
theorem bc_ush_s : ∀ s, s < 32 → (((nI s).toUInt32 &&& Int32.toUInt32 31).toBitVec % 32#32) = BitVec.ofNat 32 s := by decide +kernel
theorem bc_ush (m s : Nat) (hm : m < 2 ^ 31) (hs : s < 32) : ((nI m).toUInt32 >>> ((nI s).toUInt32 &&& Int32.toUInt32 31)).toInt32 = nI (m >>> s) := by
  apply Int32.toBitVec_inj.mp
  show (nI m).toBitVec >>> (((nI s).toUInt32 &&& Int32.toUInt32 31).toBitVec % 32#32) = (nI (m >>> s)).toBitVec
  rw [bc_ush_s s hs]
  apply BitVec.eq_of_toNat_eq
  have h2 : m >>> s ≤ m := Nat.shiftRight_le m s
  rw [BitVec.ushiftRight_eq', BitVec.toNat_ushiftRight, p_toNat hm, p_toNat (by omega), BitVec.toNat_ofNat, Nat.mod_eq_of_lt (by omega : s < 2 ^ 32)]
theorem bc_dec0 : ∀ a, a < 8 → ∀ b, b < 256 → bcN (256 * (8 * 0 + a) + b) = pc 16 (256 * (8 * 0 + a) + b) := by decide +kernel
theorem bc_dec1 : ∀ a, a < 8 → ∀ b, b < 256 → bcN (256 * (8 * 1 + a) + b) = pc 16 (256 * (8 * 1 + a) + b) := by decide +kernel
theorem bc_dec2 : ∀ a, a < 8 → ∀ b, b < 256 → bcN (256 * (8 * 2 + a) + b) = pc 16 (256 * (8 * 2 + a) + b) := by decide +kernel
theorem bc_dec3 : ∀ a, a < 8 → ∀ b, b < 256 → bcN (256 * (8 * 3 + a) + b) = pc 16 (256 * (8 * 3 + a) + b) := by decide +kernel
theorem bc_dec4 : ∀ a, a < 8 → ∀ b, b < 256 → bcN (256 * (8 * 4 + a) + b) = pc 16 (256 * (8 * 4 + a) + b) := by decide +kernel
theorem bc_dec5 : ∀ a, a < 8 → ∀ b, b < 256 → bcN (256 * (8 * 5 + a) + b) = pc 16 (256 * (8 * 5 + a) + b) := by decide +kernel
theorem bc_dec6 : ∀ a, a < 8 → ∀ b, b < 256 → bcN (256 * (8 * 6 + a) + b) = pc 16 (256 * (8 * 6 + a) + b) := by decide +kernel
theorem bc_dec7 : ∀ a, a < 8 → ∀ b, b < 256 → bcN (256 * (8 * 7 + a) + b) = pc 16 (256 * (8 * 7 + a) + b) := by decide +kernel
theorem bc_dec8 : ∀ a, a < 8 → ∀ b, b < 256 → bcN (256 * (8 * 8 + a) + b) = pc 16 (256 * (8 * 8 + a) + b) := by decide +kernel
theorem bc_dec9 : ∀ a, a < 8 → ∀ b, b < 256 → bcN (256 * (8 * 9 + a) + b) = pc 16 (256 * (8 * 9 + a) + b) := by decide +kernel
theorem bc_dec10 : ∀ a, a < 8 → ∀ b, b < 256 → bcN (256 * (8 * 10 + a) + b) = pc 16 (256 * (8 * 10 + a) + b) := by decide +kernel
theorem bc_dec11 : ∀ a, a < 8 → ∀ b, b < 256 → bcN (256 * (8 * 11 + a) + b) = pc 16 (256 * (8 * 11 + a) + b) := by decide +kernel
theorem bc_dec12 : ∀ a, a < 8 → ∀ b, b < 256 → bcN (256 * (8 * 12 + a) + b) = pc 16 (256 * (8 * 12 + a) + b) := by decide +kernel
theorem bc_dec13 : ∀ a, a < 8 → ∀ b, b < 256 → bcN (256 * (8 * 13 + a) + b) = pc 16 (256 * (8 * 13 + a) + b) := by decide +kernel
theorem bc_dec14 : ∀ a, a < 8 → ∀ b, b < 256 → bcN (256 * (8 * 14 + a) + b) = pc 16 (256 * (8 * 14 + a) + b) := by decide +kernel
theorem bc_dec15 : ∀ a, a < 8 → ∀ b, b < 256 → bcN (256 * (8 * 15 + a) + b) = pc 16 (256 * (8 * 15 + a) + b) := by decide +kernel
theorem bc_dec16 : ∀ a, a < 8 → ∀ b, b < 256 → bcN (256 * (8 * 16 + a) + b) = pc 16 (256 * (8 * 16 + a) + b) := by decide +kernel
theorem bc_dec17 : ∀ a, a < 8 → ∀ b, b < 256 → bcN (256 * (8 * 17 + a) + b) = pc 16 (256 * (8 * 17 + a) + b) := by decide +kernel
theorem bc_dec18 : ∀ a, a < 8 → ∀ b, b < 256 → bcN (256 * (8 * 18 + a) + b) = pc 16 (256 * (8 * 18 + a) + b) := by decide +kernel
theorem bc_dec19 : ∀ a, a < 8 → ∀ b, b < 256 → bcN (256 * (8 * 19 + a) + b) = pc 16 (256 * (8 * 19 + a) + b) := by decide +kernel
theorem bc_dec20 : ∀ a, a < 8 → ∀ b, b < 256 → bcN (256 * (8 * 20 + a) + b) = pc 16 (256 * (8 * 20 + a) + b) := by decide +kernel
theorem bc_dec21 : ∀ a, a < 8 → ∀ b, b < 256 → bcN (256 * (8 * 21 + a) + b) = pc 16 (256 * (8 * 21 + a) + b) := by decide +kernel
theorem bc_dec22 : ∀ a, a < 8 → ∀ b, b < 256 → bcN (256 * (8 * 22 + a) + b) = pc 16 (256 * (8 * 22 + a) + b) := by decide +kernel
theorem bc_dec23 : ∀ a, a < 8 → ∀ b, b < 256 → bcN (256 * (8 * 23 + a) + b) = pc 16 (256 * (8 * 23 + a) + b) := by decide +kernel
theorem bc_dec24 : ∀ a, a < 8 → ∀ b, b < 256 → bcN (256 * (8 * 24 + a) + b) = pc 16 (256 * (8 * 24 + a) + b) := by decide +kernel
theorem bc_dec25 : ∀ a, a < 8 → ∀ b, b < 256 → bcN (256 * (8 * 25 + a) + b) = pc 16 (256 * (8 * 25 + a) + b) := by decide +kernel
theorem bc_dec26 : ∀ a, a < 8 → ∀ b, b < 256 → bcN (256 * (8 * 26 + a) + b) = pc 16 (256 * (8 * 26 + a) + b) := by decide +kernel
theorem bc_dec27 : ∀ a, a < 8 → ∀ b, b < 256 → bcN (256 * (8 * 27 + a) + b) = pc 16 (256 * (8 * 27 + a) + b) := by decide +kernel
theorem bc_dec28 : ∀ a, a < 8 → ∀ b, b < 256 → bcN (256 * (8 * 28 + a) + b) = pc 16 (256 * (8 * 28 + a) + b) := by decide +kernel
theorem bc_dec29 : ∀ a, a < 8 → ∀ b, b < 256 → bcN (256 * (8 * 29 + a) + b) = pc 16 (256 * (8 * 29 + a) + b) := by decide +kernel
theorem bc_dec30 : ∀ a, a < 8 → ∀ b, b < 256 → bcN (256 * (8 * 30 + a) + b) = pc 16 (256 * (8 * 30 + a) + b) := by decide +kernel
theorem bc_dec31 : ∀ a, a < 8 → ∀ b, b < 256 → bcN (256 * (8 * 31 + a) + b) = pc 16 (256 * (8 * 31 + a) + b) := by decide +kernel
theorem bc_dec (a b : Nat) (ha : a < 256) (hb : b < 256) : bcN (256 * a + b) = pc 16 (256 * a + b) := by
  have h1 : a / 8 < 32 := by omega
  have h2 := Nat.div_add_mod a 8
  have h3 : a % 8 < 8 := Nat.mod_lt _ (by decide)
  generalize a / 8 = q at h1 h2
  generalize a % 8 = r at h2 h3
  subst h2
  match q, h1 with
  | 0, _ => exact bc_dec0 r h3 b hb
  | 1, _ => exact bc_dec1 r h3 b hb
  | 2, _ => exact bc_dec2 r h3 b hb
  | 3, _ => exact bc_dec3 r h3 b hb
  | 4, _ => exact bc_dec4 r h3 b hb
  | 5, _ => exact bc_dec5 r h3 b hb
  | 6, _ => exact bc_dec6 r h3 b hb
  | 7, _ => exact bc_dec7 r h3 b hb
  | 8, _ => exact bc_dec8 r h3 b hb
  | 9, _ => exact bc_dec9 r h3 b hb
  | 10, _ => exact bc_dec10 r h3 b hb
  | 11, _ => exact bc_dec11 r h3 b hb
  | 12, _ => exact bc_dec12 r h3 b hb
  | 13, _ => exact bc_dec13 r h3 b hb
  | 14, _ => exact bc_dec14 r h3 b hb
  | 15, _ => exact bc_dec15 r h3 b hb
  | 16, _ => exact bc_dec16 r h3 b hb
  | 17, _ => exact bc_dec17 r h3 b hb
  | 18, _ => exact bc_dec18 r h3 b hb
  | 19, _ => exact bc_dec19 r h3 b hb
  | 20, _ => exact bc_dec20 r h3 b hb
  | 21, _ => exact bc_dec21 r h3 b hb
  | 22, _ => exact bc_dec22 r h3 b hb
  | 23, _ => exact bc_dec23 r h3 b hb
  | 24, _ => exact bc_dec24 r h3 b hb
  | 25, _ => exact bc_dec25 r h3 b hb
  | 26, _ => exact bc_dec26 r h3 b hb
  | 27, _ => exact bc_dec27 r h3 b hb
  | 28, _ => exact bc_dec28 r h3 b hb
  | 29, _ => exact bc_dec29 r h3 b hb
  | 30, _ => exact bc_dec30 r h3 b hb
  | 31, _ => exact bc_dec31 r h3 b hb
  | n + 32, h => exact absurd h (by omega)
theorem bc_eq {m : Nat} (hm : m < 2 ^ 16) : bcN m = pc 16 m := by
  have h := bc_dec (m / 256) (m % 256) (by omega) (Nat.mod_lt _ (by decide))
  rw [Nat.div_add_mod] at h
  exact h
theorem c_bitCount {m : Nat} (hm : m < 2 ^ 16) : F_J_bitCount (nI m) = some (nI (pc 16 m)) := by
  rw [← bc_eq hm]
  unfold F_J_bitCount bcN
  have h1 : m >>> 1 ≤ m := Nat.shiftRight_le m 1
  have h2 : (m >>> 1) &&& 1431655765 ≤ m >>> 1 := Nat.and_le_left
  have e1 : nI m - (((nI m).toUInt32 >>> ((nI 1).toUInt32 &&& Int32.toUInt32 31)).toInt32 &&& nI 1431655765) = nI (bc1 m) := by
    rw [bc_ush m 1 (by omega) (by decide), p_and, p_sub (by omega)]
    rfl
  have l1 : bc1 m < 2 ^ 31 := by unfold bc1; omega
  have e2 : ((nI (bc1 m)) &&& nI 858993459) + (((nI (bc1 m)).toUInt32 >>> ((nI 2).toUInt32 &&& Int32.toUInt32 31)).toInt32 &&& nI 858993459) = nI (bc2 (bc1 m)) := by
    rw [bc_ush _ 2 l1 (by decide), p_and, p_and, nI_add]
    rfl
  have l2 : bc2 (bc1 m) < 2 ^ 31 := by
    unfold bc2
    have a1 : bc1 m &&& 858993459 ≤ 858993459 := Nat.and_le_right
    have a2 : (bc1 m >>> 2) &&& 858993459 ≤ 858993459 := Nat.and_le_right
    omega
  have e3 : ((nI (bc2 (bc1 m))) + ((nI (bc2 (bc1 m))).toUInt32 >>> ((nI 4).toUInt32 &&& Int32.toUInt32 31)).toInt32) &&& nI 252645135 = nI (bc3 (bc2 (bc1 m))) := by
    rw [bc_ush _ 4 l2 (by decide), nI_add, p_and]
    rfl
  have l3 : bc3 (bc2 (bc1 m)) ≤ 252645135 := Nat.and_le_right
  have e4 : nI (bc3 (bc2 (bc1 m))) + ((nI (bc3 (bc2 (bc1 m)))).toUInt32 >>> ((nI 8).toUInt32 &&& Int32.toUInt32 31)).toInt32 = nI (bc4 (bc3 (bc2 (bc1 m)))) := by
    rw [bc_ush _ 8 (by omega) (by decide), nI_add]
    rfl
  have l4 : bc4 (bc3 (bc2 (bc1 m))) < 2 ^ 31 := by
    unfold bc4
    have := Nat.shiftRight_le (bc3 (bc2 (bc1 m))) 8
    omega
  have e5 : nI (bc4 (bc3 (bc2 (bc1 m)))) + ((nI (bc4 (bc3 (bc2 (bc1 m))))).toUInt32 >>> ((nI 16).toUInt32 &&& Int32.toUInt32 31)).toInt32 = nI (bc5 (bc4 (bc3 (bc2 (bc1 m))))) := by
    rw [bc_ush _ 16 l4 (by decide), nI_add]
    rfl
  rw [e1, e2, e3, e4, e5, p_and]
