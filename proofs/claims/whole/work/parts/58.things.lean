/-! the things of a graph, packed -/
theorem sm_mono {f h : Nat → Nat} {n : Nat} (H : ∀ i, i < n → f i ≤ h i) : sm f n ≤ sm h n := by
  induction n with
  | zero => exact Nat.le_refl _
  | succ n ih => simp only [sm]; have := ih (fun i hi => H i (by omega)); have := H n (by omega); omega
theorem mul01 {a b : Nat} (ha : a ≤ 1) (hb : b ≤ 1) : a * b ≤ 1 := by
  rcases (show a = 0 ∨ a = 1 by omega) with rfl | rfl
  · omega
  · omega
theorem tri_lt (g : Nat) : tri 6 g ≤ 20 := by
  have h3 : ∀ c b, tri3 g c b ≤ b := fun c b => by
    have := sm_le (f := fun a => hs g b c * (hs g a b * hs g a c)) (n := b) (m := 1) (fun a => mul01 (hs_le _ _ _) (mul01 (hs_le _ _ _) (hs_le _ _ _)))
    unfold tri3; omega
  have h2 : ∀ c, tri2 g c ≤ sm (fun b => b) c := fun c => sm_mono (fun b _ => h3 c b)
  have h1 : tri 6 g ≤ sm (fun c => sm (fun b => b) c) 6 := sm_mono (fun c _ => h2 c)
  exact Nat.le_trans h1 (by decide)
theorem sq_lt (g : Nat) : sq 6 g ≤ 45 := by
  have h1 : ∀ a b d c, sq1 g a b d c ≤ if a < c ∧ c ≠ b ∧ c ≠ d then 1 else 0 := fun a b d c => by
    unfold sq1
    split
    · exact mul01 (hs_le _ _ _) (mul01 (hs_le _ _ _) (mul01 (hs_le _ _ _) (hs_le _ _ _)))
    · exact Nat.le_refl _
  have h2 : ∀ a b d, sq2 6 g a b d ≤ if b < d then sm (fun c => if a < c ∧ c ≠ b ∧ c ≠ d then 1 else 0) 6 else 0 := fun a b d => by
    unfold sq2
    split
    · exact sm_mono (fun c _ => h1 a b d c)
    · exact Nat.le_refl _
  have h3 : ∀ a b, sq3 6 g a b ≤ if a < b then sm (fun d => if b < d then sm (fun c => if a < c ∧ c ≠ b ∧ c ≠ d then 1 else 0) 6 else 0) 6 else 0 := fun a b => by
    unfold sq3
    split
    · exact sm_mono (fun d _ => h2 a b d)
    · exact Nat.le_refl _
  have h4 : sq 6 g ≤ sm (fun a => sm (fun b => if a < b then sm (fun d => if b < d then sm (fun c => if a < c ∧ c ≠ b ∧ c ≠ d then 1 else 0) 6 else 0) 6 else 0) 6) 6 := sm_mono (fun a _ => sm_mono (fun b _ => h3 a b))
  exact Nat.le_trans h4 (by decide +kernel)
theorem wed_lt (g : Nat) : wed 6 g 6 ≤ 60 := by
  have : ∀ d, d < 6 → d * (d - 1) / 2 ≤ 10 := by decide
  have h : wed 6 g 6 ≤ sm (fun _ => 10) 6 := sm_mono (fun v hv => this _ (by have := dgr6_le (g := g) hv; omega))
  exact Nat.le_trans h (by decide)
theorem jn_lt (g : Nat) : jn g 15 ≤ 6 := by
  have := fx_jn (n := 6) (g := g) 15 (Nat.le_refl _) (fun q hq _ => (lohi q hq).2.1)
  omega
theorem non_lt (g : Nat) : non g ≤ 6 := by
  have h : non g ≤ sm (fun _ => 1) 6 := sm_mono (fun v _ => by split <;> omega)
  exact Nat.le_trans h (by decide)
theorem mxd_lt (g : Nat) : mxd (dgr 6 g) 6 ≤ 5 := mxd_lub 6 (fun v hv => dgr6_le hv)
def enc (g : Nat) : Nat := cnt g 15 + 16 * tri 6 g + 512 * wed 6 g 6 + 32768 * jn g 15 + 262144 * mxd (dgr 6 g) 6 + 2097152 * sq 6 g + 134217728 * non g
theorem enc_f (g : Nat) : enc g < 2 ^ 30 ∧ enc g / 2 ^ 4 % 2 ^ 5 = tri 6 g ∧ enc g / 2 ^ 9 % 2 ^ 6 = wed 6 g 6 ∧ enc g / 2 ^ 15 % 2 ^ 3 = jn g 15 ∧ enc g / 2 ^ 18 % 2 ^ 3 = mxd (dgr 6 g) 6 ∧ enc g / 2 ^ 21 % 2 ^ 6 = sq 6 g ∧ enc g / 2 ^ 27 % 2 ^ 3 = non g := by
  have h0 := cnt_le g 15
  have h1 := tri_lt g
  have h2 := wed_lt g
  have h3 := jn_lt g
  have h4 := mxd_lt g
  have h5 := sq_lt g
  have h6 := non_lt g
  unfold enc
  generalize cnt g 15 = x0 at *
  generalize tri 6 g = x1 at *
  generalize wed 6 g 6 = x2 at *
  generalize jn g 15 = x3 at *
  generalize mxd (dgr 6 g) 6 = x4 at *
  generalize sq 6 g = x5 at *
  generalize non g = x6 at *
  refine ⟨by omega, by omega, by omega, by omega, by omega, by omega, by omega⟩
def shf (w : Nat) : Nat := [0, 4, 9, 15, 18, 21, 27].getD w 0
def mbs (w : Nat) : Nat := [4, 5, 6, 3, 3, 6, 3].getD w 0
theorem cSH_n : ∀ w, w < 7 → cSH w = nI (shf w) ∧ shf w < 32 := by decide +kernel
theorem cMA_n : ∀ w, w < 7 → (cMA w).toBitVec.toNat = 2 ^ mbs w - 1 := by decide +kernel
theorem s_unpack {e w : Nat} {post : Int32 → Prop} (hw : w < 7) (he : e < 2 ^ 30) (h : post (nI (e / 2 ^ shf w % 2 ^ mbs w))) : wp_X3_unpack (nI w) (nI e) post := by
  refine c_lt (b := 0) (by omega) (by omega) (fun q => by omega) (fun _ => c_le (a := 7) (by omega) (by omega) (fun q => by omega) (fun _ => ⟨vp_in_nI hw (by omega), vp_in_nI hw (by omega), ?_⟩))
  rw [nI_clamp (by omega), (cSH_n w hw).1, nb_shr (by omega) (cSH_n w hw).2, pk_andN (Nat.lt_of_le_of_lt (Nat.div_le_self _ _) (by omega)) (mbs w) (cMA_n w hw)]
  exact h
/-- a thing of g, by the class -/
def thg (n msk g w : Nat) : Nat := if w = 0 then cnt g 15 else if w = 1 then tri 6 g else if w = 2 then wed 6 g 6 else if w = 3 then n - jn g 15 else if w = 4 then mxd (dgr 6 g) 6 else if w = 5 then sq 6 g else if w = 6 then n - non g else cnt (g &&& msk) 15
theorem jn_le {n g : Nat} (hn : n ≤ 6) (hg : gr n g) : jn g 15 ≤ n := by
  have := fx_jn (n := n) (g := g) 15 (Nat.le_refl _) (fun q _ hb => (gr_hi hn hg q hb).1)
  omega
theorem dgr_big {n g v : Nat} (hn : n ≤ 6) (hg : gr n g) (hv : v < 6) (h : n ≤ v) : dgr 6 g v = 0 := sm_zero (fun w hw => hs_big hn hg hv hw (Or.inl h))
theorem non_le {n g : Nat} (hn : n ≤ 6) (hg : gr n g) : non g ≤ n := by
  unfold non
  rw [sm_ext hn (fun v h1 h2 => by rw [if_pos (dgr_big hn hg h2 h1)])]
  have := sm_le (f := fun v => if dgr 6 g v = 0 then 0 else 1) (n := n) (m := 1) (fun v => by split <;> omega)
  omega
theorem s_read {w n g pk msk : Nat} {post : Int32 → Prop} (hw : w < 8) (hn : n ≤ 6) (hg : gr n g) (hm : msk < 32768) (hp : w ≠ 0 → w ≠ 7 → pk = enc g) (h : post (nI (thg n msk g w))) : wp_X3_read (nI w) (nI pk) (nI g) (nI n) (nI msk) post := by
  have hgl := gr_lt hn hg
  obtain ⟨f0, f1, f2, f3, f4, f5, f6⟩ := enc_f g
  unfold thg at h
  rcases (show w = 0 ∨ w = 1 ∨ w = 2 ∨ w = 3 ∨ w = 4 ∨ w = 5 ∨ w = 6 ∨ w = 7 by omega) with rfl | rfl | rfl | rfl | rfl | rfl | rfl | rfl
  · exact c_eq (a := 0) (b := 0) (by omega) (by omega) (fun _ => s_bitCount hgl h) (fun q => absurd rfl q)
  · rw [hp (by omega) (by omega)]
    exact c_eq (a := 1) (b := 0) (by omega) (by omega) (fun q => by omega) (fun _ => c_eq (a := 1) (b := 1) (by omega) (by omega) (fun _ => s_unpack (w := 1) (by omega) f0 (by rw [show shf 1 = 4 from rfl, show mbs 1 = 5 from rfl, f1]; exact h)) (fun q => absurd rfl q))
  · rw [hp (by omega) (by omega)]
    exact c_eq (a := 2) (b := 0) (by omega) (by omega) (fun q => by omega) (fun _ => c_eq (a := 2) (b := 1) (by omega) (by omega) (fun q => by omega) (fun _ => c_eq (a := 2) (b := 2) (by omega) (by omega) (fun _ => s_unpack (w := 2) (by omega) f0 (by rw [show shf 2 = 9 from rfl, show mbs 2 = 6 from rfl, f2]; exact h)) (fun q => absurd rfl q)))
  · rw [hp (by omega) (by omega)]
    exact c_eq (a := 3) (b := 0) (by omega) (by omega) (fun q => by omega) (fun _ => c_eq (a := 3) (b := 1) (by omega) (by omega) (fun q => by omega) (fun _ => c_eq (a := 3) (b := 2) (by omega) (by omega) (fun q => by omega) (fun _ => c_eq (a := 3) (b := 3) (by omega) (by omega) (fun _ => s_unpack (w := 3) (by omega) f0 (by rw [show shf 3 = 15 from rfl, show mbs 3 = 3 from rfl, f3, pk_sub (jn_le hn hg)]; exact h)) (fun q => absurd rfl q))))
  · rw [hp (by omega) (by omega)]
    exact c_eq (a := 4) (b := 0) (by omega) (by omega) (fun q => by omega) (fun _ => c_eq (a := 4) (b := 1) (by omega) (by omega) (fun q => by omega) (fun _ => c_eq (a := 4) (b := 2) (by omega) (by omega) (fun q => by omega) (fun _ => c_eq (a := 4) (b := 3) (by omega) (by omega) (fun q => by omega) (fun _ => c_eq (a := 4) (b := 4) (by omega) (by omega) (fun _ => s_unpack (w := 4) (by omega) f0 (by rw [show shf 4 = 18 from rfl, show mbs 4 = 3 from rfl, f4]; exact h)) (fun q => absurd rfl q)))))
  · rw [hp (by omega) (by omega)]
    exact c_eq (a := 5) (b := 0) (by omega) (by omega) (fun q => by omega) (fun _ => c_eq (a := 5) (b := 1) (by omega) (by omega) (fun q => by omega) (fun _ => c_eq (a := 5) (b := 2) (by omega) (by omega) (fun q => by omega) (fun _ => c_eq (a := 5) (b := 3) (by omega) (by omega) (fun q => by omega) (fun _ => c_eq (a := 5) (b := 4) (by omega) (by omega) (fun q => by omega) (fun _ => c_eq (a := 5) (b := 5) (by omega) (by omega) (fun _ => s_unpack (w := 5) (by omega) f0 (by rw [show shf 5 = 21 from rfl, show mbs 5 = 6 from rfl, f5]; exact h)) (fun q => absurd rfl q))))))
  · rw [hp (by omega) (by omega)]
    exact c_eq (a := 6) (b := 0) (by omega) (by omega) (fun q => by omega) (fun _ => c_eq (a := 6) (b := 1) (by omega) (by omega) (fun q => by omega) (fun _ => c_eq (a := 6) (b := 2) (by omega) (by omega) (fun q => by omega) (fun _ => c_eq (a := 6) (b := 3) (by omega) (by omega) (fun q => by omega) (fun _ => c_eq (a := 6) (b := 4) (by omega) (by omega) (fun q => by omega) (fun _ => c_eq (a := 6) (b := 5) (by omega) (by omega) (fun q => by omega) (fun _ => c_eq (a := 6) (b := 6) (by omega) (by omega) (fun _ => s_unpack (w := 6) (by omega) f0 (by rw [show shf 6 = 27 from rfl, show mbs 6 = 3 from rfl, f6, pk_sub (non_le hn hg)]; exact h)) (fun q => absurd rfl q)))))))
  · refine c_eq (a := 7) (b := 0) (by omega) (by omega) (fun q => by omega) (fun _ => c_eq (a := 7) (b := 1) (by omega) (by omega) (fun q => by omega) (fun _ => c_eq (a := 7) (b := 2) (by omega) (by omega) (fun q => by omega) (fun _ => c_eq (a := 7) (b := 3) (by omega) (by omega) (fun q => by omega) (fun _ => c_eq (a := 7) (b := 4) (by omega) (by omega) (fun q => by omega) (fun _ => c_eq (a := 7) (b := 5) (by omega) (by omega) (fun q => by omega) (fun _ => c_eq (a := 7) (b := 6) (by omega) (by omega) (fun q => by omega) (fun _ => c_eq (a := 7) (b := 7) (by omega) (by omega) (fun _ => ?_) (fun q => absurd rfl q))))))))
    rw [nx_and]
    have l : (g &&& msk) ≤ msk := Nat.and_le_right
    exact s_bitCount (by omega) h
theorem s_countWhole {g start len N : Nat} {f : Nat → Int32} {m : Nat → Nat} {post : Int32 → Prop} (hN : start + len ≤ N) (hN2 : N < 2 ^ 30) (hf : ∀ k, k < len → f (start + k) = nI (m k)) (hm : ∀ k, k < len → m k < 2 ^ 31)
    (h : post (nI (sm (fun k => if g &&& m k = m k then 1 else 0) len))) : wp_X3_countWhole (nI g) (nI start) (nI len) N f post := by
  refine lp0 (fun n k => b_X3_countWhole_6 N f post n (nI g) (nI start) (nI len) (nI (sm (fun k => if g &&& m k = m k then 1 else 0) k)) (nI (start + k))) 0 len (by omega) (fun n => ?_) (fun n k _ hk ih => ?_)
  · show (nI start + nI len ≤ _ → _) ∧ _
    rw [nI_add]
    exact c_le (by omega) (by omega) (fun _ => h) (fun q => by omega)
  · show (nI start + nI len ≤ _ → _) ∧ _
    rw [nI_add]
    refine c_le (by omega) (by omega) (fun q => by omega) (fun _ => c_le (a := N) (by omega) (by omega) (fun q => by omega) (fun _ => ⟨vp_in_nI (by omega) (by omega), vp_in_nI (by omega) (by omega), ?_⟩))
    rw [nI_clamp (by omega), hf k hk, nx_and]
    have l : (g &&& m k) ≤ m k := Nat.and_le_right
    have lm := hm k hk
    refine c_eq (by omega) (by omega) (fun q => ?_) (fun q => ?_)
    · show b_X3_countWhole_6 N f post n (nI g) (nI start) (nI len) (nI _ + 1) (nI (start + k) + 1)
      rw [nI_1, nI_1]
      simp only [sm] at ih
      rw [if_pos q] at ih
      exact ih
    · show b_X3_countWhole_6 N f post n (nI g) (nI start) (nI len) (nI _) (nI (start + k) + 1)
      rw [nI_1]
      simp only [sm] at ih
      rw [if_neg q] at ih
      exact ih
theorem and_sub {g m : Nat} : g &&& m = m ↔ ∀ i, m.testBit i = true → g.testBit i = true := by
  constructor
  · intro h i hi
    have : (g &&& m).testBit i = true := by rw [h]; exact hi
    rw [Nat.testBit_and] at this
    simp at this
    exact this.1
  · intro h
    apply Nat.eq_of_testBit_eq
    intro i
    rw [Nat.testBit_and]
    cases e : m.testBit i
    · simp
    · rw [h i e]; rfl
theorem bit1 {g p : Nat} : bit g p = 1 ↔ g.testBit p = true := by
  rw [bit_tb]
  cases g.testBit p <;> simp
theorem ind2 (g x y : Nat) : (if g &&& (2 ^ x ||| 2 ^ y) = (2 ^ x ||| 2 ^ y) then 1 else 0) = bit g x * bit g y := by
  have iff : g &&& (2 ^ x ||| 2 ^ y) = (2 ^ x ||| 2 ^ y) ↔ bit g x = 1 ∧ bit g y = 1 := by
    rw [and_sub, bit1, bit1]
    constructor
    · intro h
      exact ⟨h x (by simp [Nat.testBit_or, Nat.testBit_two_pow]), h y (by simp [Nat.testBit_or, Nat.testBit_two_pow])⟩
    · intro ⟨h1, h2⟩ i hi
      simp only [Nat.testBit_or, Nat.testBit_two_pow, Bool.or_eq_true, decide_eq_true_eq] at hi
      rcases hi with rfl | rfl
      · exact h1
      · exact h2
  rcases bit_01 g x with e1 | e1 <;> rcases bit_01 g y with e2 | e2 <;> simp only [iff, e1, e2] <;> simp
theorem ind3 (g x y z : Nat) : (if g &&& ((2 ^ x ||| 2 ^ y) ||| 2 ^ z) = ((2 ^ x ||| 2 ^ y) ||| 2 ^ z) then 1 else 0) = bit g x * (bit g y * bit g z) := by
  have iff : g &&& ((2 ^ x ||| 2 ^ y) ||| 2 ^ z) = ((2 ^ x ||| 2 ^ y) ||| 2 ^ z) ↔ bit g x = 1 ∧ bit g y = 1 ∧ bit g z = 1 := by
    rw [and_sub, bit1, bit1, bit1]
    constructor
    · intro h
      exact ⟨h x (by simp [Nat.testBit_or, Nat.testBit_two_pow]), h y (by simp [Nat.testBit_or, Nat.testBit_two_pow]), h z (by simp [Nat.testBit_or, Nat.testBit_two_pow])⟩
    · intro ⟨h1, h2, h3⟩ i hi
      simp only [Nat.testBit_or, Nat.testBit_two_pow, Bool.or_eq_true, decide_eq_true_eq] at hi
      rcases hi with (rfl | rfl) | rfl
      · exact h1
      · exact h2
      · exact h3
  rcases bit_01 g x with e1 | e1 <;> rcases bit_01 g y with e2 | e2 <;> rcases bit_01 g z with e3 | e3 <;> simp only [iff, e1, e2, e3] <;> simp
theorem pix15 : ∀ a, a < 6 → ∀ b, b < 6 → 2 ^ pix a b < 2 ^ 30 := by decide +kernel
theorem hs_ne {g a b : Nat} (h : a ≠ b) : hs g a b = bit g (pix a b) := by unfold hs; rw [if_neg h]
theorem s_over1 {g p : Nat} {tw : Nat → Int32} {post : Int32 → Prop} (hp : p < 15) (ht : T2 15 tw) (h : post (nI (ov1 p g))) : wp_X3_countWhole (nI g) (nI p * (4 : Int32)) (4 : Int32) 60 tw post := by
  rw [show nI p * (4 : Int32) = nI (4 * p) by rw [show (4 : Int32) = nI 4 from rfl, pk_mul, Nat.mul_comm]]
  have hl := lohi p hp
  refine s_countWhole (len := 4) (m := fun k => m2 (lo p) (hi p) (oth p k)) (by omega) (by omega) (fun k hk => ?_) (fun k hk => ?_) ?_
  · obtain ⟨o1, o2, o3, o4⟩ := oth_ok p hp k hk
    have := ht p hp (oth p k) o1 o2 o3
    rw [o4] at this
    exact this
  · obtain ⟨o1, o2, o3, o4⟩ := oth_ok p hp k hk
    exact Nat.lt_trans (Nat.or_lt_two_pow (pix15 _ (by omega) _ o1) (pix15 _ o1 _ (by omega))) (by decide)
  · rw [sm_congr (f' := fun k => hs g (lo p) (oth p k) * hs g (oth p k) (hi p)) (fun k hk => ?_)]
    · exact h
    · obtain ⟨o1, o2, o3, o4⟩ := oth_ok p hp k hk
      refine (ind2 g _ _).trans ?_
      rw [hs_ne (Ne.symm o2), hs_ne o3]
theorem s_over2 {g p : Nat} {tr : Nat → Int32} {post : Int32 → Prop} (hp : p < 15) (ht : T3 15 tr) (h : post (nI (ov2 p g))) : wp_X3_countWhole (nI g) (nI p * (12 : Int32)) (12 : Int32) 180 tr post := by
  rw [show nI p * (12 : Int32) = nI (12 * p) by rw [show (12 : Int32) = nI 12 from rfl, pk_mul, Nat.mul_comm]]
  have hl := lohi p hp
  have nest : ∀ F : Nat → Nat, sm F 12 = sm (fun k => sm (fun j => F (3 * k + j)) 3) 4 := by
    intro F
    simp [sm]
    try omega
  refine s_countWhole (len := 12) (m := fun k => m3 (lo p) (hi p) (oth p (k / 3)) (ot3 p (oth p (k / 3)) (k % 3))) (by omega) (by omega) (fun k hk => ?_) (fun k hk => ?_) ?_
  · obtain ⟨o1, o2, o3, o4⟩ := oth_ok p hp (k / 3) (by omega)
    obtain ⟨t1, t2, t3, t4, t5⟩ := ot3_ok p hp (k / 3) (by omega) (k % 3) (by omega)
    have := ht p hp (oth p (k / 3)) o1 o2 o3 _ t1 t2 t3 t4
    rw [o4, t5, show 12 * p + 3 * (k / 3) + k % 3 = 12 * p + k by omega] at this
    exact this
  · obtain ⟨o1, o2, o3, o4⟩ := oth_ok p hp (k / 3) (by omega)
    obtain ⟨t1, t2, t3, t4, t5⟩ := ot3_ok p hp (k / 3) (by omega) (k % 3) (by omega)
    exact Nat.lt_trans (Nat.or_lt_two_pow (Nat.or_lt_two_pow (pix15 _ (by omega) _ o1) (pix15 _ o1 _ t1)) (pix15 _ t1 _ (by omega))) (by decide)
  · rw [nest, sm_congr (f' := fun k => sm (fun j => hs g (lo p) (oth p k) * (hs g (oth p k) (ot3 p (oth p k) j) * hs g (ot3 p (oth p k) j) (hi p))) 3) (fun k hk => sm_congr (fun j hj => ?_))]
    · exact h
    · obtain ⟨o1, o2, o3, o4⟩ := oth_ok p hp k hk
      obtain ⟨t1, t2, t3, t4, t5⟩ := ot3_ok p hp k hk j hj
      show (if g &&& m3 (lo p) (hi p) (oth p ((3 * k + j) / 3)) (ot3 p (oth p ((3 * k + j) / 3)) ((3 * k + j) % 3)) = m3 (lo p) (hi p) (oth p ((3 * k + j) / 3)) (ot3 p (oth p ((3 * k + j) / 3)) ((3 * k + j) % 3)) then 1 else 0) = _
      rw [show (3 * k + j) / 3 = k by omega, show (3 * k + j) % 3 = j by omega]
      refine (ind3 g _ _ _).trans ?_
      rw [hs_ne (Ne.symm o2), hs_ne (Ne.symm t4), hs_ne t3]
