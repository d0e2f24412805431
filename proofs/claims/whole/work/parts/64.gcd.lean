/-! fractions in lowest terms -/
theorem s_told {a b w : Nat} {post : Int64 → Prop} (ha : a < 2 ^ 63) (hb : b < 2 ^ 63) (hb0 : 0 < b) (hw : w < 2) (h : post (lN ((if w = 0 then a else b) / Nat.gcd a b))) : wp_X7_told (lN a) (lN b) (nI w) post := by
  have hd : 0 < Nat.gcd a b := Nat.gcd_pos_of_pos_right a hb0
  have hd2 : Nat.gcd a b < 2 ^ 63 := Nat.lt_of_le_of_lt (Nat.gcd_le_right a hb0) hb
  have H : ∀ y x, x < 2 ^ 63 → y < 2 ^ 63 → Nat.gcd x y = Nat.gcd a b → ∃ n, b_X7_told_6 post n (lN a) (lN b) (nI w) (lN x) (lN y) := by
    intro y
    induction y using Nat.strongRecOn with
    | ind y ih =>
      intro x hx hy he
      by_cases y0 : y = 0
      · subst y0
        rw [Nat.gcd_zero_right] at he
        subst he
        have ne : ¬ lN (Nat.gcd a b) = 0 := fun q => by
          have := (pk_lEQ (a := Nat.gcd a b) (b := 0) hd2 (by omega)).mp q
          omega
        refine ⟨1, ⟨fun _ => c_eq (b := 0) (by omega) (by omega) (fun q => ⟨ne, ?_⟩) (fun q => ⟨ne, ?_⟩), fun c => absurd ((lg00 (by omega)).mpr rfl) c⟩⟩
        · rw [pk_lDiv ha hd hd2]; rw [if_pos q] at h; exact h
        · rw [pk_lDiv hb hd hd2]; rw [if_neg q] at h; exact h
      · have ym : x % y < y := Nat.mod_lt _ (by omega)
        obtain ⟨n, hn⟩ := ih (x % y) ym y hy (by omega) (by rw [← he, Nat.gcd_comm y, ← Nat.gcd_rec, Nat.gcd_comm])
        refine ⟨n + 1, ⟨fun c => absurd ((lg00 hy).mp c) y0, fun _ => ⟨fun q => ?_, ?_⟩⟩⟩
        · have := (pk_lEQ (a := y) (b := 0) hy (by omega)).mp q
          omega
        · rw [pk_lRem hx (by omega) hy]
          exact hn
  exact H b a ha hb rfl
theorem s_commonDivisor {a b : Nat} {post : Int64 → Prop} (ha : a < 2 ^ 63) (hb : b < 2 ^ 63) (h : post (lN (Nat.gcd a b))) : wp_X6_commonDivisor (lN a) (lN b) post := by
  have H : ∀ k i x y, y < 2 ^ k → i + 2 * k < 199 → x < 2 ^ 63 → y < 2 ^ 63 → Nat.gcd x y = Nat.gcd a b → ∃ n, b_X6_commonDivisor_9 post n (lN x) (lN y) (nI i) := by
    intro k
    induction k with
    | zero =>
      intro i x y hy hi hx hy2 he
      have y0 : y = 0 := by simpa using hy
      subst y0
      rw [Nat.gcd_zero_right] at he
      subst he
      exact ⟨1, c_le (a := 200) (by omega) (by omega) (fun q => by omega) (fun _ => ⟨fun _ => h, fun c => absurd ((lg00 (by omega)).mpr rfl) c⟩)⟩
    | succ k ih =>
      intro i x y hy hi hx hy2 he
      have stop : ∀ x i, i < 199 → Nat.gcd x 0 = Nat.gcd a b → b_X6_commonDivisor_9 post 1 (lN x) (lN 0) (nI i) := by
        intro x i hi he
        rw [Nat.gcd_zero_right] at he
        subst he
        exact c_le (a := 200) (by omega) (by omega) (fun q => by omega) (fun _ => ⟨fun _ => h, fun c => absurd ((lg00 (by omega)).mpr rfl) c⟩)
      have step : ∀ x y i n, i < 199 → x < 2 ^ 63 → y < 2 ^ 63 → y ≠ 0 → b_X6_commonDivisor_9 post n (lN y) (lN (x % y)) (nI (i + 1)) → b_X6_commonDivisor_9 post (n + 1) (lN x) (lN y) (nI i) := by
        intro x y i n hi hx hy y0 hn
        refine c_le (a := 200) (by omega) (by omega) (fun q => by omega) (fun _ => ⟨fun c => absurd ((lg00 hy).mp c) y0, fun _ => ⟨fun q => ?_, ?_⟩⟩)
        · have := (pk_lEQ (a := y) (b := 0) hy (by omega)).mp q
          omega
        · rw [pk_lRem hx (by omega) hy, nI_1]
          exact hn
      by_cases y0 : y = 0
      · subst y0; exact ⟨1, stop x i (by omega) he⟩
      · have e1 : Nat.gcd y (x % y) = Nat.gcd a b := by rw [← he, Nat.gcd_comm y, ← Nat.gcd_rec, Nat.gcd_comm]
        have rm : x % y < y := Nat.mod_lt _ (by omega)
        by_cases r0 : x % y = 0
        · refine ⟨2, step x y i 1 (by omega) hx hy2 y0 ?_⟩
          rw [r0] at e1 ⊢
          exact stop y (i + 1) (by omega) e1
        · have rm2 : y % (x % y) < x % y := Nat.mod_lt _ (by omega)
          have half : y % (x % y) < 2 ^ k := by
            have : y % (x % y) + x % y ≤ y := by
              have := Nat.div_add_mod y (x % y)
              have q1 : 1 ≤ y / (x % y) := (Nat.one_le_div_iff (by omega)).mpr (by omega)
              have q2 : x % y * 1 ≤ x % y * (y / (x % y)) := Nat.mul_le_mul_left _ q1
              omega
            rw [Nat.pow_succ] at hy
            omega
          obtain ⟨n, hn⟩ := ih (i + 2) (x % y) (y % (x % y)) half (by omega) (by omega) (by omega) (by rw [← e1, Nat.gcd_comm (x % y), ← Nat.gcd_rec, Nat.gcd_comm])
          exact ⟨n + 2, step x y i (n + 1) (by omega) hx hy2 y0 (step y (x % y) (i + 1) n (by omega) hy2 (by omega) r0 hn)⟩
  exact H 63 0 a b hb (by omega) ha hb rfl
theorem s_tell {a b w : Nat} {post : Int64 → Prop} (ha : a < 2 ^ 63) (hb : b < 2 ^ 63) (hb0 : 0 < b) (hw : w < 2) (h : post (lN ((if w = 0 then a else b) / Nat.gcd a b))) : wp_X6_tell (lN a) (lN b) (nI w) post := by
  have hd : 0 < Nat.gcd a b := Nat.gcd_pos_of_pos_right a hb0
  have hd2 : Nat.gcd a b < 2 ^ 63 := Nat.lt_of_le_of_lt (Nat.gcd_le_right a hb0) hb
  have ne : ¬ lN (Nat.gcd a b) = 0 := fun q => by
    have := (pk_lEQ (a := Nat.gcd a b) (b := 0) hd2 (by omega)).mp q
    omega
  have ge : 0 ≤ lg_cmp (lN (Nat.gcd a b)) (1 : Int64) := (lg_cmp_ge _ _).mpr ((pk_lLE (a := 1) (by omega) hd2).mpr (by omega))
  refine s_commonDivisor ha hb ⟨fun _ => c_eq (b := 0) (by omega) (by omega) (fun q => ⟨ne, ?_⟩) (fun q => ⟨ne, ?_⟩), fun c => absurd ge c⟩
  · rw [pk_lDiv ha hd hd2]; rw [if_pos q] at h; exact h
  · rw [pk_lDiv hb hd hd2]; rw [if_neg q] at h; exact h
/-! sums over all graphs -/
theorem sm_split (f : Nat → Nat) (a b : Nat) : sm f (a + b) = sm f a + sm (fun i => f (a + i)) b := by
  induction b with
  | zero => rfl
  | succ b ih =>
    show sm f (a + b) + f (a + b) = sm f a + (sm (fun i => f (a + i)) b + f (a + b))
    rw [ih, Nat.add_assoc]
theorem sm_mul (c : Nat) (f : Nat → Nat) (n : Nat) : sm (fun i => c * f i) n = c * sm f n := by
  induction n with
  | zero => rfl
  | succ n ih => simp only [sm]; rw [ih, Nat.mul_add]
theorem sm_ge {f : Nat → Nat} : ∀ n i, i < n → f i ≤ sm f n := by
  intro n
  induction n with
  | zero => intro i hi; omega
  | succ n ih =>
    intro i hi
    simp only [sm]
    by_cases e : i = n
    · subst e; omega
    · have := ih i (by omega); omega
theorem cnt_low {g k : Nat} (hg : g < 2 ^ k) (hk : k ≤ 15) : cnt g 15 = cnt g k := by
  rw [cnt_sm, cnt_sm]
  exact sm_ext hk (fun i h1 _ => bit_big hg h1)
theorem binom (x y : Nat) : ∀ k, k ≤ 15 → sm (fun g => x ^ cnt g 15 * y ^ (k - cnt g 15)) (2 ^ k) = (x + y) ^ k := by
  intro k
  induction k with
  | zero => intro _; show 0 + x ^ cnt 0 15 * y ^ (0 - cnt 0 15) = 1; rw [show cnt 0 15 = 0 by decide]; simp
  | succ k ih =>
    intro hk
    rw [show 2 ^ (k + 1) = 2 ^ k + 2 ^ k by rw [Nat.pow_succ]; omega, sm_split]
    have l1 : sm (fun g => x ^ cnt g 15 * y ^ (k + 1 - cnt g 15)) (2 ^ k) = y * (x + y) ^ k := by
      rw [← ih (by omega), ← sm_mul]
      refine sm_congr (fun g hg => ?_)
      have c := cnt_low hg (by omega)
      have := cnt_le g k
      rw [show k + 1 - cnt g 15 = (k - cnt g 15) + 1 by omega, Nat.pow_succ]
      rw [← Nat.mul_assoc, Nat.mul_comm _ y]
    have l2 : sm (fun i => x ^ cnt (2 ^ k + i) 15 * y ^ (k + 1 - cnt (2 ^ k + i) 15)) (2 ^ k) = x * (x + y) ^ k := by
      rw [← ih (by omega), ← sm_mul]
      refine sm_congr (fun g hg => ?_)
      have c := cnt_add (g := g) (p := k) (by omega) hg
      rw [Nat.add_comm (2 ^ k) g, c, show k + 1 - (cnt g 15 + 1) = k - cnt g 15 by omega, Nat.pow_succ, Nat.mul_comm (x ^ cnt g 15) x, Nat.mul_assoc]
    rw [l1, l2, Nat.pow_succ, ← Nat.add_mul, Nat.mul_comm, Nat.add_comm y x]
def MQ1 (v s t : Nat) : Prop := 1 ≤ v ∧ 1 ≤ s ∧ 1 ≤ t
theorem tot_lt {M u v s t n G : Nat} (h : MP M u v s t n G) : sm (wtf M u v s t n G) (2 ^ (n * (n - 1) / 2)) ≤ 2 ^ 50 := by
  obtain ⟨h1, h2, h3, h4, h5, h6, h7⟩ := h
  have hP := np15 h6
  have ht2 := two_lt h6
  by_cases e0 : M = 0
  · have : sm (wtf M u v s t n G) (2 ^ (n * (n - 1) / 2)) = (u + (v - u)) ^ (n * (n - 1) / 2) := by
      rw [← binom u (v - u) _ hP]
      refine sm_congr (fun g hg => ?_)
      unfold wtf bew
      rw [if_neg (by omega), if_neg (by omega), if_pos e0]
    rw [this]
    calc (u + (v - u)) ^ (n * (n - 1) / 2) ≤ 10 ^ (n * (n - 1) / 2) := Nat.pow_le_pow_left (by omega) _
      _ ≤ 10 ^ 15 := Nat.pow_le_pow_right (by decide) hP
      _ ≤ 2 ^ 50 := by decide
  · by_cases e3 : M = 3
    · have : sm (wtf M u v s t n G) (2 ^ (n * (n - 1) / 2)) ≤ sm (fun g => 2 ^ 20 * (s ^ cnt g 15 * 1 ^ (n * (n - 1) / 2 - cnt g 15))) (2 ^ (n * (n - 1) / 2)) := by
        refine sm_mono (fun g _ => ?_)
        have tl := tri_lt g
        unfold wtf
        rw [if_pos e3, Nat.one_pow, Nat.mul_one, Nat.mul_comm]
        exact Nat.mul_le_mul (Nat.le_trans (Nat.pow_le_pow_left h5 _) (Nat.pow_le_pow_right (by decide) tl)) (Nat.le_refl _)
      rw [sm_mul, binom s 1 _ hP] at this
      refine Nat.le_trans this ?_
      calc 2 ^ 20 * (s + 1) ^ (n * (n - 1) / 2) ≤ 2 ^ 20 * 4 ^ 15 := Nat.mul_le_mul_left _ (Nat.le_trans (Nat.pow_le_pow_left (by omega) _) (Nat.pow_le_pow_right (by decide) hP))
        _ ≤ 2 ^ 50 := by decide
    · have : sm (wtf M u v s t n G) (2 ^ (n * (n - 1) / 2)) ≤ sm (fun _ => 1) (2 ^ (n * (n - 1) / 2)) := by
        refine sm_mono (fun g _ => ?_)
        unfold wtf bew
        rw [if_neg e3, if_neg e0, if_neg e3]
        repeat' split
        all_goals omega
      rw [sm_const, Nat.mul_one] at this
      omega
theorem own_pos {M u v s t n G : Nat} (h : MP M u v s t n G) (h' : MQ1 v s t) (e0 : M ≠ 0) : 1 ≤ wtf M u v s t n G G := by
  obtain ⟨h1, h2, h3, h4, h5, h6, h7⟩ := h
  obtain ⟨q1, q2, q3⟩ := h'
  unfold wtf bew
  split
  · exact Nat.mul_pos (Nat.pow_pos q2) (Nat.pow_pos q3)
  · rename_i e3
    split
    · rw [if_pos ⟨rfl, fun _ _ => rfl⟩]; exact Nat.le_refl _
    · first | (rw [if_neg e0, if_neg e3, if_pos rfl]; exact Nat.le_refl _) | (rw [if_pos rfl]; exact Nat.le_refl _)
theorem tot_pos {M u v s t n G : Nat} (h : MP M u v s t n G) (h' : MQ1 v s t) : 1 ≤ sm (wtf M u v s t n G) (2 ^ (n * (n - 1) / 2)) := by
  by_cases e0 : M = 0
  · obtain ⟨h1, h2, h3, h4, h5, h6, h7⟩ := h
    have hP := np15 h6
    have : sm (wtf M u v s t n G) (2 ^ (n * (n - 1) / 2)) = (u + (v - u)) ^ (n * (n - 1) / 2) := by
      rw [← binom u (v - u) _ hP]
      refine sm_congr (fun g hg => ?_)
      unfold wtf bew
      rw [if_neg (by omega), if_neg (by omega), if_pos e0]
    rw [this]
    exact Nat.pow_pos (by have := h'.1; omega)
  · exact Nat.le_trans (own_pos h h' e0) (sm_ge _ G h.2.2.2.2.2.2)
