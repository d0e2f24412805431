/-! numbers: nI under shifts, masks, bits -/
theorem s_l : ∀ n, n < 32 → ((nI n &&& 31).toBitVec.smod 32).toNat = n := by decide +kernel
theorem nx_and (a b : Nat) : nI a &&& nI b = nI (a &&& b) := by
  apply Int32.toBitVec_inj.1
  show BitVec.ofNat 32 a &&& BitVec.ofNat 32 b = BitVec.ofNat 32 (a &&& b)
  apply BitVec.eq_of_getLsbD_eq
  intro i hi
  simp [hi]
theorem nx_xor (a b : Nat) : nI a ^^^ nI b = nI (a ^^^ b) := by
  apply Int32.toBitVec_inj.1
  show BitVec.ofNat 32 a ^^^ BitVec.ofNat 32 b = BitVec.ofNat 32 (a ^^^ b)
  apply BitVec.eq_of_getLsbD_eq
  intro i hi
  simp [hi]
theorem nx_or (a b : Nat) : nI a ||| nI b = nI (a ||| b) := by
  apply Int32.toBitVec_inj.1
  show BitVec.ofNat 32 a ||| BitVec.ofNat 32 b = BitVec.ofNat 32 (a ||| b)
  apply BitVec.eq_of_getLsbD_eq
  intro i hi
  simp [hi]
def bit (g p : Nat) : Nat := g / 2 ^ p % 2
theorem bit_lt (g p : Nat) : bit g p < 2 := Nat.mod_lt _ (by decide)
theorem bit_tb (g p : Nat) : bit g p = (g.testBit p).toNat := by rw [Nat.toNat_testBit]; rfl
theorem bit_01 (g p : Nat) : bit g p = 0 ∨ bit g p = 1 := by have := bit_lt g p; omega
theorem nb_shr {n p : Nat} (hn : n < 2 ^ 31) (hp : p < 32) : nI n >>> (nI p &&& 31) = nI (n / 2 ^ p) := pk_shrN hn _ p (s_l p hp)
theorem nb_bit {n p : Nat} (hn : n < 2 ^ 31) (hp : p < 32) : (nI n >>> (nI p &&& 31)) &&& (1 : Int32) = nI (bit n p) := by
  rw [nb_shr hn hp]
  exact pk_andN (Nat.lt_of_le_of_lt (Nat.div_le_self _ _) (by omega)) 1 (by decide)
theorem nb_one : ∀ p, p < 31 → (1 : Int32) <<< (nI p &&& 31) = nI (2 ^ p) := by decide +kernel
theorem nI_inj {a b : Nat} (ha : a < 2 ^ 31) (hb : b < 2 ^ 31) (h : nI a = nI b) : a = b := (nI_eq ha hb).mp h
/-- how many of the first p bits are set -/
def cnt (g : Nat) : Nat → Nat
  | 0 => 0
  | p + 1 => cnt g p + bit g p
theorem cnt_le (g p : Nat) : cnt g p ≤ p := by
  induction p with
  | zero => exact Nat.le_refl 0
  | succ p ih => have := bit_lt g p; simp only [cnt]; omega
/-- the number of a pair -/
def pix (a b : Nat) : Nat := if a < b then b * (b - 1) / 2 + a else a * (a - 1) / 2 + b
theorem pix_lt : ∀ a, a < 6 → ∀ b, b < 6 → a ≠ b → pix a b < 15 := by decide +kernel
theorem pix_lt' : ∀ a, a < 6 → ∀ b, b < 6 → pix a b < 32 := by decide +kernel
theorem pix_eq1 : ∀ a, a < 6 → ∀ b, b < 6 → ((nI a * (nI a - (1 : Int32))) / (2 : Int32)) + nI b = nI (a * (a - 1) / 2 + b) := by decide +kernel
theorem among_eq : ∀ a, a < 7 → (nI a * (nI a - (1 : Int32))) / (2 : Int32) = nI (a * (a - 1) / 2) := by decide +kernel
theorem two_ne : ¬ (2 : Int32) = 0 := by decide
theorem s_pairOf {a b : Nat} (ha : a < 6) (hb : b < 6) {post : Int32 → Prop} (h : post (nI (pix a b))) : wp_X7_pairOf (nI a) (nI b) post := by
  refine ⟨fun c => ⟨two_ne, ?_⟩, fun c => ⟨two_ne, ?_⟩⟩
  · rw [pix_eq1 a ha b hb]
    rw [nI_leI (by omega) (by omega)] at c
    rw [pix, if_neg (by omega)] at h
    exact h
  · rw [pix_eq1 b hb a ha]
    rw [nI_leI (by omega) (by omega)] at c
    rw [pix, if_pos (by omega)] at h
    exact h
/-- whether a, b is an edge of g: 1 or 0 -/
def hs (g a b : Nat) : Nat := if a = b then 0 else bit g (pix a b)
theorem hs_01 (g a b : Nat) : hs g a b = 0 ∨ hs g a b = 1 := by unfold hs; split; exact Or.inl rfl; exact bit_01 _ _
theorem s_has {g a b : Nat} (hg : g < 2 ^ 31) (ha : a < 6) (hb : b < 6) {post : Int32 → Prop} (h : post (nI (hs g a b))) : wp_X7_has (nI g) (nI a) (nI b) post := by
  refine ⟨fun c => ?_, fun c => s_pairOf ha hb ?_⟩
  · rw [nI_eq (by omega) (by omega)] at c
    rw [hs, if_pos c] at h
    exact h
  · rw [nI_eq (by omega) (by omega)] at c
    rw [hs, if_neg c] at h
    rw [nb_bit hg (pix_lt' a ha b hb)]
    rcases bit_01 g (pix a b) with e | e <;> rw [e] at h ⊢
    · exact ⟨fun c => absurd c (by decide), fun _ => h⟩
    · exact ⟨fun _ => h, fun c => absurd rfl c⟩
theorem s_edgesOf {P g : Nat} (hP : P ≤ 15) (hg : g < 2 ^ 31) {post : Int32 → Prop} (h : post (nI (cnt g P))) : wp_X7_edgesOf (nI g) (nI P) post := by
  have H : ∀ k i, i + k = P → b_X7_edgesOf_4 (nI P) post (k + 1) (nI g) (nI (cnt g i)) (nI i) := by
    intro k
    induction k with
    | zero =>
      intro i hi
      obtain rfl : i = P := by omega
      exact ⟨fun _ => h, fun c => absurd (nI_le (Nat.le_refl _) (by omega)) c⟩
    | succ k ih =>
      intro i hi
      refine ⟨fun c => absurd c (nI_ge (by omega) (by omega)), fun _ z hz => ?_⟩
      rw [nb_bit hg (by omega), nI_add] at hz
      rw [hz, nI_1]
      exact ih (i + 1) (by omega)
  exact ⟨P + 1, H P 0 (by omega)⟩
