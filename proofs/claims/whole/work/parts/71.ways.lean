/-! the reference's orders -/
def dgt (n c a : Nat) : Nat := c / n ^ a % n
/-- the images as a set -/
def sn (x : Nat → Nat) : Nat → Nat
  | 0 => 0
  | a + 1 => sn x a ||| 2 ^ x a
theorem sn_lt {x : Nat → Nat} : ∀ k, (∀ a, a < k → x a < 6) → sn x k < 64 := by
  intro k
  induction k with
  | zero => intro _; exact (by decide : 0 < 64)
  | succ k ih => intro h; exact or_lt64 (ih (fun a ha => h a (by omega))) (pow_lt64 _ (h k (by omega)))
theorem sn_bit (x : Nat → Nat) (v : Nat) : ∀ k, bit (sn x k) v = 1 ↔ ∃ a, a < k ∧ x a = v := by
  intro k
  induction k with
  | zero => exact ⟨fun z => by simp [sn, bit] at z, fun ⟨a, a1, _⟩ => by omega⟩
  | succ k ih =>
    simp only [sn]
    rw [bit_or, bit_pow]
    constructor
    · intro z
      by_cases c : v = x k
      · exact ⟨k, by omega, c.symm⟩
      · rw [if_neg c] at z
        have z2 : bit (sn x k) v = 1 := by
          apply Classical.byContradiction
          intro zz; rw [if_neg (by omega)] at z; omega
        obtain ⟨a, a1, a2⟩ := ih.mp z2
        exact ⟨a, by omega, a2⟩
    · intro ⟨a, a1, a2⟩
      by_cases c : a = k
      · subst c; rw [if_pos (Or.inr (if_pos a2.symm))]
      · rw [if_pos (Or.inl (ih.mpr ⟨a, by omega, a2⟩))]
theorem full_bit : ∀ n, n < 7 → ∀ v, v < 6 → bit (2 ^ n - 1) v = if v < n then 1 else 0 := by decide +kernel
theorem full_lt : ∀ n, n < 7 → 2 ^ n - 1 < 64 := by decide +kernel
theorem full_n : ∀ n, n < 7 → ((1 : Int32) <<< (nI n &&& 31)) - (1 : Int32) = nI (2 ^ n - 1) := by decide +kernel
theorem sn_full {n : Nat} {x : Nat → Nat} (hn : n ≤ 6) (hx : ∀ a, a < n → x a < n) : sn x n = 2 ^ n - 1 ↔ ∀ v, v < n → ∃ a, a < n ∧ x a = v := by
  constructor
  · intro h v hv
    refine (sn_bit x v n).mp ?_
    rw [h, full_bit n (by omega) v (by omega), if_pos hv]
  · intro h
    refine mask_ext (sn_lt n (fun a ha => by have := hx a ha; omega)) (full_lt n (by omega)) (fun v hv => ?_)
    rw [full_bit n (by omega) v hv]
    by_cases c : v < n
    · rw [if_pos c]; exact (sn_bit x v n).mpr (h v c)
    · rw [if_neg c]
      have b := bit_01 (sn x n) v
      rcases b with e | e
      · exact e
      · obtain ⟨a, a1, a2⟩ := (sn_bit x v n).mp e
        have := hx a a1
        omega
theorem dgt_suc {n c a : Nat} : c / n ^ a / n = c / n ^ (a + 1) := by rw [Nat.div_div_eq_div_mul, Nat.pow_succ]
theorem s_isOrder {n c : Nat} {f_yo : Nat → Int32} {post : Int32 → (Nat → Int32) → Prop} (hn1 : 1 ≤ n) (hn : n ≤ 6) (hc : c < 2 ^ 30) (h : ∀ f', (∀ a, a < n → f' a = nI (dgt n c a)) → post (nI (if sn (dgt n c) n = 2 ^ n - 1 then 1 else 0)) f') : wp_X7_isOrder (nI c) (nI n) f_yo post := by
  have nz : ¬ nI n = 0 := fun q => by
    have := (nI_eq (a := n) (b := 0) (by omega) (by omega)).mp q
    omega
  have dl : ∀ a, dgt n c a < n := fun a => Nat.mod_lt _ (by omega)
  have e0 : nI c = nI (c / n ^ 0) := by rw [Nat.pow_zero, Nat.div_one]
  unfold wp_X7_isOrder
  rw [e0]
  refine pk_loop (σ := Nat → Int32) (fun k a f => b_X7_isOrder_7 (nI n) post k (nI (c / n ^ a)) (nI (sn (dgt n c) a)) (nI a) f) (fun a f => ∀ j, j < a → f j = nI (dgt n c j)) n 0 f_yo (by omega) (fun j hj => by omega) ?_ ?_
  · intro k f hI
    refine c_le (by omega) (by omega) (fun _ => ?_) (fun q => by omega)
    rw [full_n n (by omega)]
    have b1 := sn_lt (x := dgt n c) n (fun a _ => by have := dl a; omega)
    have b2 := full_lt n (by omega)
    have := h f hI
    refine c_eq (by omega) (by omega) (fun e => ?_) (fun e => ?_)
    · rw [if_pos e] at this; exact this
    · rw [if_neg e] at this; exact this
  · intro k a f ha hI ih
    have cl : c / n ^ a ≤ c := Nat.div_le_self _ _
    have d6 := dl a
    refine c_le (by omega) (by omega) (fun q => by omega) (fun _ => ⟨nz, vp_in_nI (by omega) (by omega), nz, vp_in_nI (by omega) (by omega), fun z hz => ?_⟩)
    rw [nI_clamp (by omega), pk_us] at hz
    rw [nI_clamp (by omega)]
    rw [pk_rem (by omega) (by omega) (by omega)] at hz ⊢
    rw [pk_div (by omega) (by omega) (by omega), dgt_suc, nI_1]
    rw [show c / n ^ a % n = dgt n c a from rfl] at hz ⊢
    rw [nb_one _ (by omega), nx_or] at hz
    rw [hz]
    refine ih _ (fun j hj => ?_)
    by_cases e : j = a
    · subst e; rw [pk_us]
    · rw [pk_un e]; exact hI j (by omega)
/-- the moved graph -/
def mi (g : Nat) (x : Nat → Nat) (b acc : Nat) : Nat → Nat
  | 0 => acc
  | a + 1 => if hs g a b = 1 then mi g x b acc a ||| 2 ^ pix (x a) (x b) else mi g x b acc a
def mo (g : Nat) (x : Nat → Nat) : Nat → Nat
  | 0 => 0
  | b + 1 => mi g x b (mo g x b) b
theorem mi_bit (g : Nat) (x : Nat → Nat) (b acc q : Nat) : ∀ k, bit (mi g x b acc k) q = 1 ↔ bit acc q = 1 ∨ ∃ a, a < k ∧ hs g a b = 1 ∧ pix (x a) (x b) = q := by
  intro k
  induction k with
  | zero => exact ⟨fun z => Or.inl z, fun z => by rcases z with z | ⟨a, a1, _⟩; exact z; omega⟩
  | succ k ih =>
    simp only [mi]
    by_cases c : hs g k b = 1
    · rw [if_pos c, bit_or, bit_pow]
      constructor
      · intro z
        by_cases cq : q = pix (x k) (x b)
        · exact Or.inr ⟨k, by omega, c, cq.symm⟩
        · rw [if_neg cq] at z
          have z2 : bit (mi g x b acc k) q = 1 := by
            apply Classical.byContradiction
            intro zz; rw [if_neg (by omega)] at z; omega
          rcases ih.mp z2 with y | ⟨a, a1, a2⟩
          · exact Or.inl y
          · exact Or.inr ⟨a, by omega, a2⟩
      · intro z
        rcases z with y | ⟨a, a1, a2, a3⟩
        · rw [if_pos (Or.inl (ih.mpr (Or.inl y)))]
        · by_cases ca : a = k
          · subst ca; rw [if_pos (Or.inr (if_pos a3.symm))]
          · rw [if_pos (Or.inl (ih.mpr (Or.inr ⟨a, by omega, a2, a3⟩)))]
    · rw [if_neg c, ih]
      constructor
      · intro z
        rcases z with y | ⟨a, a1, a2⟩
        · exact Or.inl y
        · exact Or.inr ⟨a, by omega, a2⟩
      · intro z
        rcases z with y | ⟨a, a1, a2, a3⟩
        · exact Or.inl y
        · by_cases ca : a = k
          · subst ca; exact absurd a2 c
          · exact Or.inr ⟨a, by omega, a2, a3⟩
theorem mo_bit (g : Nat) (x : Nat → Nat) (q : Nat) : ∀ k, bit (mo g x k) q = 1 ↔ ∃ b, b < k ∧ ∃ a, a < b ∧ hs g a b = 1 ∧ pix (x a) (x b) = q := by
  intro k
  induction k with
  | zero => exact ⟨fun z => by simp [mo, bit] at z, fun ⟨a, a1, _⟩ => by omega⟩
  | succ k ih =>
    simp only [mo]
    rw [mi_bit, ih]
    constructor
    · intro z
      rcases z with ⟨b, b1, b2⟩ | y
      · exact ⟨b, by omega, b2⟩
      · exact ⟨k, by omega, y⟩
    · intro ⟨b, b1, b2⟩
      by_cases c : b = k
      · subst c; exact Or.inr b2
      · exact Or.inl ⟨b, by omega, b2⟩
theorem mi_lt {g : Nat} {x : Nat → Nat} {b acc : Nat} (ha : acc < 65536) (hxb : x b < 6) : ∀ k, (∀ a, a < k → x a < 6) → mi g x b acc k < 65536 := by
  intro k
  induction k with
  | zero => intro _; exact ha
  | succ k ih =>
    intro h
    have i := ih (fun a ha => h a (by omega))
    simp only [mi]
    split
    · have := pow15 (pix31 (x k) (h k (by omega)) (x b) hxb)
      exact Nat.or_lt_two_pow (n := 16) i this
    · exact i
theorem mo_lt {g : Nat} {x : Nat → Nat} : ∀ k, (∀ a, a < k → x a < 6) → mo g x k < 65536 := by
  intro k
  induction k with
  | zero => intro _; exact (by decide : 0 < 65536)
  | succ k ih => intro h; exact mi_lt (ih (fun a ha => h a (by omega))) (h k (by omega)) k (fun a ha => h a (by omega))
theorem s_moved {n g : Nat} {x : Nat → Nat} {f_yo : Nat → Int32} {post : Int32 → Prop} (hn1 : 1 ≤ n) (hn : n ≤ 6) (hg : g < 32768) (hx : ∀ a, a < n → x a < 6) (hf : ∀ a, a < n → f_yo a = nI (x a)) (h : post (nI (mo g x n))) : wp_X7_moved (nI g) (nI n) f_yo post := by
  refine lp0 (fun k b => b_X7_moved_4 (nI n) f_yo post k (nI g) (nI (mo g x b)) (nI b)) 1 n hn1 (fun k => c_le (by omega) (by omega) (fun _ => h) (fun q => by omega)) (fun k b h1 hb ih => c_le (by omega) (by omega) (fun q => by omega) (fun _ => ?_))
  refine lp0 (fun k' a => b_X7_moved_15 (nI n) f_yo post (b_X7_moved_4 (nI n) f_yo post k) k' (nI g) (nI (mi g x b (mo g x b) a)) (nI b) (nI a)) 0 b (by omega) (fun k' => c_le (by omega) (by omega) (fun _ => ?_) (fun q => by omega)) (fun k' a _ ha iha => c_le (by omega) (by omega) (fun q => by omega) (fun _ => s_has (by omega) (by omega) (by omega) (c01 (hs_01 g a b) (fun e => ?_) (fun e => ⟨vp_in_nI (by omega) (by omega), vp_in_nI (by omega) (by omega), ?_⟩))))
  · rw [nI_1]; exact ih
  · show b_X7_moved_15 (nI n) f_yo post _ k' (nI g) (nI _ ||| nI 0) (nI b) (nI a + 1)
    rw [nx_or, nI_1, Nat.or_zero]
    simp only [mi] at iha
    rw [if_neg (by omega)] at iha
    exact iha
  · rw [nI_clamp (by omega), nI_clamp (by omega), hf a (by omega), hf b (by omega)]
    refine s_pairOf (hx a (by omega)) (hx b (by omega)) ?_
    have := pix31 (x a) (hx a (by omega)) (x b) (hx b (by omega))
    show b_X7_moved_15 (nI n) f_yo post _ k' (nI g) (nI _ ||| ((1 : Int32) <<< _)) (nI b) (nI a + 1)
    rw [nb_one _ (by omega), nx_or, nI_1]
    simp only [mi] at iha
    rw [if_pos e] at iha
    exact iha
def Qr (n F t : Nat) (x : Nat → Nat) : Nat := if sn x n = 2 ^ n - 1 ∧ mo F x n = t then 1 else 0
theorem nn_le : ∀ n, n < 7 → n ^ n ≤ 46656 := by decide +kernel
theorem s_waysTo {n F t : Nat} {f_yo : Nat → Int32} {post : Int32 → (Nat → Int32) → Prop} (hn1 : 1 ≤ n) (hn : n ≤ 6) (hF : F < 32768) (ht : t < 32768) (h : ∀ f', post (nI (sm (fun c => Qr n F t (dgt n c)) (n ^ n))) f') : wp_X7_waysTo (nI F) (nI t) (nI n) f_yo post := by
  unfold wp_X7_waysTo
  rw [nI_l (by omega)]
  refine s_power7 (by omega) ?_
  rw [lN_i]
  have nn := nn_le n (by omega)
  refine pk_loop (σ := Nat → Int32) (fun k c f => b_X7_waysTo_20 (nI n) post k (nI F) (nI t) (nI (n ^ n)) (nI (sm (fun c => Qr n F t (dgt n c)) c)) (nI c) f) (fun _ _ => True) (n ^ n) 0 f_yo (Nat.zero_le _) trivial ?_ ?_
  · intro k f _
    exact c_le (by omega) (by omega) (fun _ => h f) (fun q => by omega)
  · intro k c f hc _ ih
    have fin : ∀ v f', Qr n F t (dgt n c) = v → b_X7_waysTo_51 (nI n) post (b_X7_waysTo_20 (nI n) post k) (nI F) (nI t) (nI (n ^ n)) (nI c) (nI v) (nI (sm (fun c => Qr n F t (dgt n c)) c)) f' := by
      intro v f' hv
      subst hv
      show b_X7_waysTo_20 (nI n) post k (nI F) (nI t) (nI (n ^ n)) (nI _ + nI _) (nI c + 1) f'
      rw [nI_add, nI_1]
      exact ih f' trivial
    refine c_le (by omega) (by omega) (fun q => by omega) (fun _ => s_isOrder hn1 hn (by omega) (fun f' hf' => ?_))
    by_cases c1 : sn (dgt n c) n = 2 ^ n - 1
    · rw [if_pos c1]
      refine c01 (v := 1) (Or.inr rfl) (fun e => by omega) (fun _ => ?_)
      have dl : ∀ a, dgt n c a < 6 := fun a => by
        have : dgt n c a < n := Nat.mod_lt _ (by omega)
        omega
      have ml := mo_lt (g := F) (x := dgt n c) n (fun a _ => dl a)
      refine s_moved hn1 hn hF (fun a _ => dl a) hf' (c_eq (by omega) (by omega) (fun e => fin 1 f' ?_) (fun e => fin 0 f' ?_))
      · unfold Qr; rw [if_pos ⟨c1, e⟩]
      · unfold Qr; rw [if_neg (fun z => e z.2)]
    · rw [if_neg c1]
      refine c01 (v := 0) (Or.inl rfl) (fun _ => fin 0 f' ?_) (fun e => by omega)
      unfold Qr; rw [if_neg (fun z => c1 z.1)]
