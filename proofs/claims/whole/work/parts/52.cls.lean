/-! the class's leaves, in numbers -/
theorem u_shr {n : Nat} (hn : n < 2 ^ 31) (s : Int32) (k : Nat) (hs : ((s.toUInt32 &&& Int32.toUInt32 31).toBitVec % 32).toNat = k) : ((nI n).toUInt32 >>> (s.toUInt32 &&& Int32.toUInt32 31)).toInt32 = nI (n / 2 ^ k) := pk_ushrN (by omega) s k hs
theorem s_bitCount0 {x : Nat} (hx : x < 32768) {post : Int32 → Prop} (h : post (nI (nbc x))) : wp_J6_bitCount_0f7a4 (nI x) post := by
  intro z1 e1 z2 e2 z3 e3 z4 e4 z5 e5
  have b1 : (x / 2 &&& 1431655765) ≤ x / 2 := Nat.and_le_left
  rw [u_shr (by omega) 1 1 (by decide), show (1431655765 : Int32) = nI 1431655765 from rfl, nx_and, show x / 2 ^ 1 = x / 2 from rfl, pk_sub (by omega)] at e1
  obtain ⟨y1, hy1⟩ : ∃ y, y = nb1 x := ⟨_, rfl⟩
  have e1 : z1 = nI y1 := by rw [hy1]; exact e1
  have l1 : y1 < 32768 := by unfold nb1 at hy1; omega
  subst e1
  have b2 : (y1 &&& 858993459) ≤ y1 := Nat.and_le_left
  have b3 : (y1 / 4 &&& 858993459) ≤ y1 / 4 := Nat.and_le_left
  rw [u_shr (by omega) 2 2 (by decide), show (858993459 : Int32) = nI 858993459 from rfl, nx_and, nx_and, nI_add] at e2
  obtain ⟨y2, hy2⟩ : ∃ y, y = nb2 y1 := ⟨_, rfl⟩
  have e2 : z2 = nI y2 := by rw [hy2]; exact e2
  have l2 : y2 < 65536 := by unfold nb2 at hy2; omega
  subst e2
  have b4 : ((y2 + y2 / 16) &&& 252645135) ≤ y2 + y2 / 16 := Nat.and_le_left
  rw [u_shr (by omega) 4 4 (by decide), nI_add, show (252645135 : Int32) = nI 252645135 from rfl, nx_and] at e3
  obtain ⟨y3, hy3⟩ : ∃ y, y = nb3 y2 := ⟨_, rfl⟩
  have e3 : z3 = nI y3 := by rw [hy3]; exact e3
  have l3 : y3 < 131072 := by unfold nb3 at hy3; omega
  subst e3
  rw [u_shr (by omega) 8 8 (by decide), nI_add] at e4
  obtain ⟨y4, hy4⟩ : ∃ y, y = nb4 y3 := ⟨_, rfl⟩
  have e4 : z4 = nI y4 := by rw [hy4]; exact e4
  have l4 : y4 < 262144 := by unfold nb4 at hy4; omega
  subst e4
  rw [u_shr (by omega) 16 16 (by decide), nI_add] at e5
  rw [e5, show (63 : Int32) = nI 63 from rfl, nx_and]
  have q : nbc x = nb5 y4 := by rw [hy4, hy3, hy2, hy1]; rfl
  rw [q] at h
  exact h
theorem s_bitCount {x : Nat} (hx : x < 32768) {post : Int32 → Prop} (h : post (nI (cnt x 15))) : wp_J6_bitCount_0f7a4 (nI x) post := by
  refine s_bitCount0 hx ?_
  have e := nbc_cnt (x / 256) (by omega) (x % 256) (by omega)
  rw [show 256 * (x / 256) + x % 256 = x by omega] at e
  rw [e]
  exact h
def lo (p : Nat) : Nat := [0, 0, 1, 0, 1, 2, 0, 1, 2, 3, 0, 1, 2, 3, 4].getD p 0
def hi (p : Nat) : Nat := [1, 2, 2, 3, 3, 3, 4, 4, 4, 4, 5, 5, 5, 5, 5].getD p 0
def star (v : Nat) : Nat := [1099, 2197, 4390, 8760, 17344, 31744].getD v 0
theorem lohi : ∀ p, p < 15 → lo p < hi p ∧ hi p < 6 ∧ pix (lo p) (hi p) = p := by decide +kernel
theorem bit_and (g m p : Nat) : bit (g &&& m) p = bit g p * bit m p := by
  rw [bit_tb, bit_tb, bit_tb, Nat.testBit_and]
  cases g.testBit p <;> cases m.testBit p <;> rfl
theorem cnt_sm (g k : Nat) : cnt g k = sm (bit g) k := by
  induction k with
  | zero => rfl
  | succ k ih => simp only [cnt, sm, ih]
theorem deg_star (g : Nat) : ∀ v, v < 6 → cnt (g &&& star v) 15 = dgr 6 g v := by
  intro v hv
  rw [cnt_sm, sm_congr (fun i _ => bit_and g (star v) i)]
  rcases (show v = 0 ∨ v = 1 ∨ v = 2 ∨ v = 3 ∨ v = 4 ∨ v = 5 by omega) with rfl | rfl | rfl | rfl | rfl | rfl <;>
    simp [sm, dgr, hs, pix, star, bit] <;> omega
section CLS
variable {f_lo f_hi f_st : Nat → Int32} {post : Int32 → Prop}
theorem s_low {p : Nat} (hf : ∀ p, p < 15 → f_lo p = nI (lo p)) (hp : p < 15) (h : post (nI (lo p))) : wp_X1_low (nI p) f_lo post := by
  refine c_lt (b := 0) (by omega) (by omega) (fun q => by omega) (fun _ => c_le (a := 15) (by omega) (by omega) (fun q => by omega) (fun _ => ⟨vp_in_nI hp (by omega), ?_⟩))
  rw [nI_clamp (by omega), hf p hp]
  exact h
theorem s_high {p : Nat} (hf : ∀ p, p < 15 → f_hi p = nI (hi p)) (hp : p < 15) (h : post (nI (hi p))) : wp_X1_high (nI p) f_hi post := by
  refine c_lt (b := 0) (by omega) (by omega) (fun q => by omega) (fun _ => c_le (a := 15) (by omega) (by omega) (fun q => by omega) (fun _ => ⟨vp_in_nI hp (by omega), ?_⟩))
  rw [nI_clamp (by omega), hf p hp]
  exact h
theorem star_lt : ∀ v, v < 6 → star v < 32768 := by decide +kernel
theorem s_degree {g v : Nat} (hf : ∀ v, v < 6 → f_st v = nI (star v)) (hv : v < 6) (h : post (nI (dgr 6 g v))) : wp_X1_degree (nI g) (nI v) f_st post := by
  refine c_lt (b := 0) (by omega) (by omega) (fun q => by omega) (fun _ => c_le (a := 6) (by omega) (by omega) (fun q => by omega) (fun _ => ⟨vp_in_nI hv (by omega), ?_⟩))
  rw [nI_clamp (by omega), hf v hv, nx_and]
  have l : (g &&& star v) ≤ star v := Nat.and_le_right
  have := star_lt v hv
  refine s_bitCount (by omega) ?_
  rw [deg_star g v hv]
  exact h
theorem s_among {n : Nat} (hn : n < 7) (h : post (nI (n * (n - 1) / 2))) : wp_X1_among (nI n) post := by
  refine ⟨two_ne, ?_⟩
  rw [among_eq n hn]
  exact h
theorem s_indexOf {a b : Nat} (ha : a < 6) (hb : b < 6) (h : post (nI (pix a b))) : wp_X1_indexOf (nI a) (nI b) post := by
  unfold pix at h
  refine c_le (by omega) (by omega) (fun q => s_among (by omega) ?_) (fun q => s_among (by omega) ?_)
  · rw [nI_add]; rw [if_neg (by omega)] at h; exact h
  · rw [nI_add]; rw [if_pos (by omega)] at h; exact h
end CLS
