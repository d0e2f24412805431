/-! swaps of both sides -/
def clr (g p : Nat) : Nat := g &&& (4294967295 - 2 ^ p)
theorem not_pow : ∀ p, p < 31 → nI (2 ^ p) ^^^ (-1 : Int32) = nI (4294967295 - 2 ^ p) := by decide +kernel
theorem nb_clr {g p : Nat} (hp : p < 31) : nI g &&& (nI (2 ^ p) ^^^ (-1 : Int32)) = nI (clr g p) := by
  rw [not_pow p hp, nx_and]; rfl
theorem clr_le (g p : Nat) : clr g p ≤ g := Nat.and_le_left
theorem clr_b0 : ∀ p, p < 15 → ∀ q, q < 15 → bit (4294967295 - 2 ^ p) q = if q = p then 0 else 1 := by decide +kernel
theorem bit_clr {g p q : Nat} (hp : p < 15) (hq : q < 15) : bit (clr g p) q = if q = p then 0 else bit g q := by
  unfold clr
  rw [bit_and, clr_b0 p hp q hq]
  split
  · rw [Nat.mul_zero]
  · rw [Nat.mul_one]
theorem bit_xp (g p q : Nat) : bit (g ^^^ 2 ^ p) q = if q = p then 1 - bit g q else bit g q := by
  rw [bit_tb, bit_tb, Nat.testBit_xor, Nat.testBit_two_pow]
  by_cases c : q = p
  · subst c; rw [if_pos rfl]; cases g.testBit q <;> simp
  · rw [if_neg c]; simp [Ne.symm c]
theorem ext15 {g h : Nat} (hg : g < 32768) (hh : h < 32768) (e : ∀ q, q < 15 → bit g q = bit h q) : g = h := by
  apply Nat.eq_of_testBit_eq
  intro i
  by_cases c : i < 15
  · have := e i c
    rw [bit_tb, bit_tb] at this
    cases a : g.testBit i <;> cases b : h.testBit i <;> simp [a, b] at this ⊢
  · have p : 32768 ≤ 2 ^ i := by
      have := Nat.pow_le_pow_right (n := 2) (by decide) (show 15 ≤ i by omega)
      omega
    rw [Nat.testBit_lt_two_pow (by omega), Nat.testBit_lt_two_pow (by omega)]
/-- bits from p on, f of them -/
def cf (g : Nat) : Nat → Nat → Nat
  | 0, _ => 0
  | f + 1, p => bit g p + cf g f (p + 1)
theorem cf_cnt (g : Nat) : cf g 15 0 = cnt g 15 := by simp [cf, cnt]; omega
/-- the edge that has k edges before it -/
def ea (g : Nat) : Nat → Nat → Nat → Nat
  | _, 0, p => p
  | k, f + 1, p => if k ≠ 0 ∨ bit g p = 0 then ea g (k - bit g p) f (p + 1) else p
theorem ea_ok {g : Nat} : ∀ f k p, k < cf g f p → bit g (ea g k f p) = 1 ∧ ea g k f p < p + f := by
  intro f
  induction f with
  | zero => intro k p h; simp [cf] at h
  | succ f ih =>
    intro k p h
    simp only [cf] at h
    simp only [ea]
    have b := bit_01 g p
    split
    · rename_i c
      have := ih (k - bit g p) (p + 1) (by rcases b with e | e <;> rw [e] at h ⊢ <;> omega)
      exact ⟨this.1, by omega⟩
    · rename_i c
      exact ⟨by omega, by omega⟩
theorem s_edgeAt6 {g k : Nat} {post : Int32 → Prop} (hg : g < 32768) (hk : k < cnt g 15) (h : post (nI (ea g k 15 0))) : wp_X6_edgeAt (nI k) (nI g) post := by
  have cl := cnt_le g 15
  have H : ∀ f s p, p + f = 15 → s ≤ k → k - s < cf g f p → ea g (k - s) f p = ea g k 15 0 → b_X6_edgeAt_4 (nI g) post (f + 1) (nI k) (nI s) (nI p) := by
    intro f
    induction f with
    | zero => intro s p hp hs hc; simp [cf] at hc
    | succ f ih =>
      intro s p hp hs hc he
      simp only [cf] at hc
      simp only [ea] at he
      refine c_le (a := 15) (by omega) (by omega) (fun q => by omega) (fun _ => ?_)
      rw [nb_bit (by omega) (by omega)]
      refine c01 (bit_01 g p) (fun e => ?_) (fun e => c_eq (by omega) (by omega) (fun q => ?_) (fun q => ?_))
      · show b_X6_edgeAt_4 (nI g) post (f + 1) (nI k) (nI s) (nI p + 1)
        rw [nI_1]
        rw [e] at hc he
        rw [if_pos (Or.inr rfl)] at he
        exact ih s (p + 1) (by omega) hs (by omega) he
      · rw [if_neg (by omega)] at he
        rw [he]
        exact h
      · show b_X6_edgeAt_4 (nI g) post (f + 1) (nI k) (nI s + 1) (nI p + 1)
        rw [nI_1, nI_1]
        rw [e] at hc he
        rw [if_pos (Or.inl (by omega)), Nat.sub_sub] at he
        exact ih (s + 1) (p + 1) (by omega) (by omega) (by omega) he
  exact ⟨16, H 15 0 0 rfl (by omega) (by rw [cf_cnt]; omega) rfl⟩
theorem s_edgeAt7 {g k : Nat} {post : Int32 → Prop} (hg : g < 32768) (hk : k < cnt g 15) (h : post (nI (ea g k 15 0))) : wp_X7_edgeAt (nI k) (nI g) post := by
  have cl := cnt_le g 15
  have H : ∀ f j p, p + f = 15 → j < 16 → j < cf g f p → ea g j f p = ea g k 15 0 → b_X7_edgeAt_4 (nI g) post (f + 1) (nI j) (nI p) := by
    intro f
    induction f with
    | zero => intro j p hp hs hc; simp [cf] at hc
    | succ f ih =>
      intro j p hp hj hc he
      simp only [cf] at hc
      simp only [ea] at he
      have b := bit_01 g p
      have go : j ≠ 0 ∨ bit g p = 0 → b_X7_edgeAt_19 (nI g) post (b_X7_edgeAt_4 (nI g) post (f + 1)) (nI j) (nI p) := by
        intro c z hz
        rw [nb_bit (by omega) (by omega), pk_sub (by omega)] at hz
        rw [hz, nI_1]
        rw [if_pos c] at he
        exact ih _ _ (by omega) (by omega) (by omega) he
      refine c_lt (a := 0) (by omega) (by omega) (fun q => go (Or.inl (by omega))) (fun q => ?_)
      rw [nb_bit (by omega) (by omega)]
      refine c01 b (fun e => go (Or.inr e)) (fun e => ?_)
      rw [if_neg (by omega)] at he
      rw [he]
      exact h
  exact ⟨16, H 15 k 0 rfl (by omega) (by rw [cf_cnt]; omega) rfl⟩
theorem up_lt : ∀ p, p < 15 → ∀ b, b < hi p → (b + 1) * b / 2 ≤ p := by decide +kernel
theorem up_eq : ∀ p, p < 15 → p < (hi p + 1) * hi p / 2 ∧ hi p * (hi p - 1) / 2 + lo p = p ∧ 1 ≤ hi p := by decide +kernel
theorem up_n : ∀ b, b < 6 → ((nI b + (1 : Int32)) * nI b) / (2 : Int32) = nI ((b + 1) * b / 2) := by decide +kernel
theorem up_b : ∀ b, b < 6 → (b + 1) * b / 2 < 100 := by decide +kernel
theorem s_upper {p : Nat} {post : Int32 → Prop} (hp : p < 15) (h : post (nI (hi p))) : wp_X7_upper (nI p) post := by
  obtain ⟨u1, u2, u3⟩ := up_eq p hp
  obtain ⟨l1, l2, l3⟩ := lohi p hp
  refine lp0 (fun k b => b_X7_upper_2 post k (nI p) (nI b)) 1 (hi p) u3 (fun k => ⟨two_ne, ?_⟩) (fun k b _ hb ih => ⟨two_ne, ?_⟩)
  · rw [up_n _ (by omega)]
    have := up_b (hi p) (by omega)
    exact c_lt (by omega) (by omega) (fun _ => h) (fun q => by omega)
  · rw [up_n _ (by omega)]
    have := up_b b (by omega)
    have := up_lt p hp b hb
    refine c_lt (by omega) (by omega) (fun q => by omega) (fun _ => ?_)
    rw [nI_1]
    exact ih
theorem low_eq : ∀ p, p < 15 → nI p - ((nI (hi p) * (nI (hi p) - (1 : Int32))) / (2 : Int32)) = nI (lo p) := by decide +kernel
/-- what a swap makes: whether it is done, and the graph -/
def swo (cr p q : Nat) : Nat := if cr = 1 then pix (lo p) (hi q) else pix (lo p) (lo q)
def swt (cr p q : Nat) : Nat := if cr = 1 then pix (lo q) (hi p) else pix (hi p) (hi q)
abbrev swok (cr g p q : Nat) : Prop := lo p ≠ lo q ∧ lo p ≠ hi q ∧ hi p ≠ lo q ∧ hi p ≠ hi q ∧ bit g (swo cr p q) = 0 ∧ bit g (swt cr p q) = 0
def swg (cr g p q : Nat) : Nat := ((clr (clr g p) q) ||| 2 ^ swo cr p q) ||| 2 ^ swt cr p q
theorem pow15 {p k : Nat} (h : p < k) : 2 ^ p < 2 ^ k := Nat.pow_lt_pow_right (by decide) h
theorem pix_up' : ∀ n, n < 7 → ∀ a, a < n → ∀ b, b < n → a = b ∨ pix a b < n * (n - 1) / 2 := by decide +kernel
theorem pix_up {n a b : Nat} (hn : n ≤ 6) (ha : a < n) (hb : b < n) (h : a ≠ b) : pix a b < n * (n - 1) / 2 := by
  rcases pix_up' n (by omega) a ha b hb with e | e
  · exact absurd e h
  · exact e
theorem sw_nn {n g p q cr : Nat} (hn : n ≤ 6) (hg : gr n g) (hp : bit g p = 1) (hq : bit g q = 1) (ok : swok cr g p q) : swo cr p q < n * (n - 1) / 2 ∧ swt cr p q < n * (n - 1) / 2 := by
  obtain ⟨p1, p2⟩ := gr_hi hn hg p hp
  obtain ⟨q1, q2⟩ := gr_hi hn hg q hq
  obtain ⟨l1, l2, l3⟩ := lohi p p2
  obtain ⟨m1, m2, m3⟩ := lohi q q2
  obtain ⟨o1, o2, o3, o4, o5, o6⟩ := ok
  unfold swo swt
  split
  · exact ⟨pix_up hn (by omega) (by omega) o2, pix_up hn (by omega) (by omega) (Ne.symm o3)⟩
  · exact ⟨pix_up hn (by omega) (by omega) o1, pix_up hn (by omega) (by omega) o4⟩
theorem swg_gr {n g p q cr : Nat} (hn : n ≤ 6) (hg : gr n g) (hp : bit g p = 1) (hq : bit g q = 1) (ok : swok cr g p q) : gr n (swg cr g p q) := by
  obtain ⟨a, b⟩ := sw_nn hn hg hp hq ok
  unfold gr swg
  have := clr_le (clr g p) q
  have := clr_le g p
  unfold gr at hg
  exact Nat.or_lt_two_pow (Nat.or_lt_two_pow (by omega) (pow15 a)) (pow15 b)
theorem or_pow0 {g a b : Nat} (hg : g < 32768) (ha : a < 15) (hb : b < 15) : nI g &&& (nI (2 ^ a) ||| nI (2 ^ b)) = 0 ↔ bit g a = 0 ∧ bit g b = 0 := by
  rw [nx_or, nx_and]
  have l : g &&& (2 ^ a ||| 2 ^ b) ≤ g := Nat.and_le_left
  constructor
  · intro h
    have e : g &&& (2 ^ a ||| 2 ^ b) = 0 := nI_inj (by omega) (by omega) h
    have ea : bit (g &&& (2 ^ a ||| 2 ^ b)) a = 0 := by rw [e]; simp [bit]
    have eb : bit (g &&& (2 ^ a ||| 2 ^ b)) b = 0 := by rw [e]; simp [bit]
    rw [bit_and, bit_or, bit_pow, bit_pow] at ea eb
    simp at ea eb
    exact ⟨ea, eb⟩
  · intro ⟨e1, e2⟩
    have : g &&& (2 ^ a ||| 2 ^ b) = 0 := by
      refine ext15 (by omega) (by omega) (fun q hq => ?_)
      rw [bit_and, bit_or, bit_pow, bit_pow]
      by_cases c1 : q = a
      · subst c1; rw [e1, Nat.zero_mul]; simp [bit]
      · by_cases c2 : q = b
        · subst c2; rw [e2, Nat.zero_mul]; simp [bit]
        · rw [if_neg c1, if_neg c2, if_neg (by omega), Nat.mul_zero]; simp [bit]
    rw [this]; rfl
