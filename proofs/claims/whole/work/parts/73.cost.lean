/-! what a way into blocks costs, of both sides -/
def ch (r h : Nat) : Nat := ff r / (ff h * ff (r - h))
theorem ch_c : ∀ r, r < 16 → ∀ j, j < r → (nI (ch r j) * (nI r - nI j)) / (nI j + (1 : Int32)) = nI (ch r (j + 1)) := by decide +kernel
theorem ch_r : ∀ r, r < 16 → ∀ h, h < r + 1 → ∀ j, j < h → (nI (ch (r - h + j) j) * ((nI r - nI h) + nI (j + 1))) / nI (j + 1) = nI (ch (r - h + (j + 1)) (j + 1)) := by decide +kernel
theorem ch_b : ∀ r, r < 16 → ∀ h, h < r + 1 → 1 ≤ ch r h ∧ ch r h ≤ 2 ^ r ∧ ch r 0 = 1 := by decide +kernel
theorem s_choices4 {r h : Nat} {post : Int32 → Prop} (hr : r < 16) (hh : h ≤ r) (hp : post (nI (ch r h))) : wp_X4_choices (nI r) (nI h) post := by
  have b := (ch_b r hr 0 (by omega)).2.2
  have := lp0 (fun k j => b_X4_choices_4 post k (nI r) (nI h) (nI (ch r j)) (nI j)) 0 h (by omega) (fun k => c_le (by omega) (by omega) (fun _ => hp) (fun q => by omega)) (fun k j h2 hj ih => c_le (by omega) (by omega) (fun q => by omega) (fun _ => ⟨?_, fun z hz => ?_⟩))
  · rw [b] at this; exact this
  · rw [nI_1]; exact nI_ne0 (by omega) (by omega)
  · rw [ch_c r hr j (by omega)] at hz
    rw [hz, nI_1]; exact ih
theorem s_choices7 {r h : Nat} {post : Int32 → Prop} (hr : r < 16) (hh : h ≤ r) (hp : post (nI (ch r h))) : wp_X7_choices (nI r) (nI h) post := by
  have b := (ch_b (r - h) (by omega) 0 (by omega)).2.2
  have := lp0 (fun k j => b_X7_choices_4 post k (nI r) (nI h) (nI (ch (r - h + (j - 1)) (j - 1))) (nI j)) 1 (h + 1) (by omega) (fun k => c_lt (by omega) (by omega) (fun _ => ?_) (fun q => by omega)) (fun k j h2 hj ih => c_lt (by omega) (by omega) (fun q => by omega) (fun _ => ⟨nI_ne0 (by omega) (by omega), ?_⟩))
  · rw [show r - h + (1 - 1) = r - h by omega, show (1 - 1 : Nat) = 0 from rfl, b] at this; exact this
  · rw [Nat.add_sub_cancel, Nat.sub_add_cancel hh]; exact hp
  · obtain ⟨i, rfl⟩ : ∃ i, j = i + 1 := ⟨j - 1, by omega⟩
    rw [Nat.add_sub_cancel] at ih ⊢
    rw [ch_r r hr h (by omega) i (by omega), nI_1]
    exact ih
/-- a product -/
def pr (f : Nat → Nat) : Nat → Nat
  | 0 => 1
  | n + 1 => pr f n * f n
theorem pr_ext {f : Nat → Nat} {k : Nat} : ∀ m, (∀ i, k ≤ i → i < k + m → f i = 1) → pr f (k + m) = pr f k := by
  intro m
  induction m with
  | zero => intro _; rfl
  | succ m ih =>
    intro h
    show pr f (k + m) * f (k + m) = pr f k
    rw [ih (fun i h1 h2 => h i h1 (by omega)), h (k + m) (by omega) (by omega), Nat.mul_one]
theorem pr_congr {f h : Nat → Nat} : ∀ n, (∀ i, i < n → f i = h i) → pr f n = pr h n := by
  intro n
  induction n with
  | zero => intro _; rfl
  | succ n ih =>
    intro H
    show pr f n * f n = pr h n * h n
    rw [ih (fun i hi => H i (by omega)), H n (by omega)]
theorem pr_app (f : Nat → Nat) (a : Nat) : ∀ m, pr f (a + m) = pr f a * pr (fun i => f (a + i)) m := by
  intro m
  induction m with
  | zero => exact (Nat.mul_one _).symm
  | succ m ih =>
    show pr f (a + m) * f (a + m) = pr f a * (pr (fun i => f (a + i)) m * f (a + m))
    rw [ih, Nat.mul_assoc]
theorem pr_mulN (f : Nat → Nat) (b : Nat) : ∀ a, pr f (a * b) = pr (fun x => pr (fun y => f (x * b + y)) b) a := by
  intro a
  induction a with
  | zero => rw [Nat.zero_mul]; rfl
  | succ a ih =>
    rw [Nat.succ_mul, pr_app, ih]
    rfl
theorem pr_pos {f : Nat → Nat} : ∀ n, (∀ i, i < n → 1 ≤ f i) → 1 ≤ pr f n := by
  intro n
  induction n with
  | zero => intro _; exact Nat.le_refl 1
  | succ n ih => intro h; exact Nat.mul_pos (ih (fun i hi => h i (by omega))) (h n (by omega))
theorem pr_le {f r : Nat → Nat} : ∀ n, (∀ i, i < n → f i ≤ 2 ^ r i) → pr f n ≤ 2 ^ sm r n := by
  intro n
  induction n with
  | zero => intro _; exact Nat.le_refl 1
  | succ n ih =>
    intro h
    show pr f n * f n ≤ 2 ^ (sm r n + r n)
    rw [Nat.pow_add]
    exact Nat.mul_le_mul (ih (fun i hi => h i (by omega))) (h n (by omega))
/-- the cell of a pair -/
def cel (x : Nat → Nat) (p : Nat) : Nat := (if x (hi p) < x (lo p) then x (hi p) else x (lo p)) * 6 + (if x (lo p) < x (hi p) then x (hi p) else x (lo p))
theorem cel_in {n : Nat} {x : Nat → Nat} (hn : n ≤ 6) (hx : ∀ a, a < n → x a < 6) {p : Nat} (hp : p < n * (n - 1) / 2) : cel x p < 36 ∧ lo p < n ∧ hi p < n ∧ p < 15 := by
  obtain ⟨a, b⟩ := hi_lt n (by omega) p hp
  obtain ⟨c, d, e⟩ := lohi p b
  have h1 := hx (lo p) (by omega)
  have h2 := hx (hi p) a
  refine ⟨?_, by omega, a, b⟩
  unfold cel
  split <;> split <;> omega
def ro (x : Nat → Nat) (c P : Nat) : Nat := sm (fun p => if cel x p = c then 1 else 0) P
def he (g : Nat) (x : Nat → Nat) (c P : Nat) : Nat := sm (fun p => if cel x p = c then bit g p else 0) P
theorem he_ro (g : Nat) (x : Nat → Nat) (c P : Nat) : he g x c P ≤ ro x c P := sm_mono (fun p _ => by
  have := bit_lt g p
  show (if cel x p = c then bit g p else 0) ≤ (if cel x p = c then 1 else 0)
  split <;> omega)
theorem ro_le (x : Nat → Nat) (c P : Nat) : ro x c P ≤ P := by
  have := sm_le (f := fun p => if cel x p = c then 1 else 0) (n := P) (m := 1) (fun p => by show (if cel x p = c then 1 else 0) ≤ 1; split <;> omega)
  unfold ro; omega
theorem s_cntP {n g : Nat} {x : Nat → Nat} {f_ti f_lo f_hi f_ro f_he : Nat → Int32} {post : (Nat → Int32) → (Nat → Int32) → Prop} (hn : n ≤ 6) (hg : g < 32768) (hlo : ∀ p, p < 15 → f_lo p = nI (lo p)) (hhi : ∀ p, p < 15 → f_hi p = nI (hi p)) (hti : ∀ a, a < n → f_ti a = nI (x a)) (hx : ∀ a, a < n → x a < 6)
    (h : ∀ fr fh : Nat → Int32, (∀ c, c < 36 → fr c = nI (ro x c (n * (n - 1) / 2)) ∧ fh c = nI (he g x c (n * (n - 1) / 2))) → post fr fh) : wp_X4_countPairs (nI g) (nI n) f_ti f_lo f_hi f_ro f_he post := by
  have P15 := np15 hn
  have H2 := lp0 (fun k j => ∀ fr fh : Nat → Int32, (∀ c, c < 36 → fr c = nI (ro x c j) ∧ fh c = nI (he g x c j)) → b_X4_countPairs_41 (nI g) (nI n) f_ti f_lo f_hi post k (nI (n * (n - 1) / 2)) (nI j) fr fh) 0 (n * (n - 1) / 2) (by omega) (fun k fr fh hh => c_le (by omega) (by omega) (fun _ => h fr fh hh) (fun q => by omega)) (fun k j h2 hj ih fr fh hh => c_le (by omega) (by omega) (fun q => by omega) (fun _ => s_low hlo (by omega) ?_))
  · have H1 := lp0 (fun k j => ∀ fr fh : Nat → Int32, (∀ c, c < j → fr c = nI 0 ∧ fh c = nI 0) → b_X4_countPairs_2 (nI g) (nI n) f_ti f_lo f_hi post k (nI j) fr fh) 0 36 (by omega) (fun k fr fh hh => c_le (a := 36) (by omega) (by omega) (fun _ => s_among (by omega) ?_) (fun q => by omega)) (fun k j h2 hj ih fr fh hh => c_le (a := 36) (by omega) (by omega) (fun q => by omega) (fun _ => ⟨vp_in_nI (by omega) (by omega), vp_in_nI (by omega) (by omega), ?_⟩))
    · obtain ⟨k, H⟩ := H1
      exact ⟨k, H f_ro f_he (fun c hc => by omega)⟩
    · obtain ⟨k2, H⟩ := H2
      exact ⟨k2, H fr fh (fun c hc => hh c hc)⟩
    · rw [nI_1]
      refine ih _ _ (fun c hc => ?_)
      rw [nI_clamp (by omega)]
      by_cases e : c = j
      · subst e; rw [pk_us, pk_us]; exact ⟨rfl, rfl⟩
      · rw [pk_un e, pk_un e]; exact hh c (by omega)
  · obtain ⟨c1, c2, c3, c4⟩ := cel_in hn hx hj
    refine ⟨vp_in_nI (by omega) (by omega), s_high hhi c4 ⟨vp_in_nI (by omega) (by omega), fun z hz => ?_⟩⟩
    rw [nI_clamp (by omega), nI_clamp (by omega), hti _ c2, hti _ c3] at hz
    have x1 := hx _ c2
    have x2 := hx _ c3
    have hz2 : z = nI (cel x j) := by
      rw [hz]
      unfold cel
      rw [show (6 : Int32) = nI 6 from rfl]
      have e1 : (if nI (x (hi j)) < nI (x (lo j)) then nI (x (hi j)) else nI (x (lo j))) = nI (if x (hi j) < x (lo j) then x (hi j) else x (lo j)) := by
        by_cases q : x (hi j) < x (lo j)
        · rw [if_pos q, if_pos ((nI_ltI (by omega) (by omega)).mpr q)]
        · rw [if_neg q, if_neg (fun w => q ((nI_ltI (by omega) (by omega)).mp w))]
      have e2 : (if nI (x (lo j)) < nI (x (hi j)) then nI (x (hi j)) else nI (x (lo j))) = nI (if x (lo j) < x (hi j) then x (hi j) else x (lo j)) := by
        by_cases q : x (lo j) < x (hi j)
        · rw [if_pos q, if_pos ((nI_ltI (by omega) (by omega)).mpr q)]
        · rw [if_neg q, if_neg (fun w => q ((nI_ltI (by omega) (by omega)).mp w))]
      rw [e1, e2, pk_mul, nI_add]
    have vi : vp_in z 36 := by rw [hz2]; exact vp_in_nI c1 (by omega)
    refine ⟨vi, vi, vi, vi, ?_⟩
    rw [nI_1, hz2, nI_clamp (by omega), nb_bit (by omega) (by omega)]
    refine ih _ _ (fun c hc => ?_)
    by_cases e : c = cel x j
    · subst e
      rw [pk_us, pk_us, (hh _ c1).1, (hh _ c1).2, nI_1, nI_add]
      refine ⟨congrArg nI ?_, congrArg nI ?_⟩
      · simp only [ro, sm]; rw [if_pos trivial]
      · simp only [he, sm]; rw [if_pos trivial]
    · rw [pk_un e, pk_un e, (hh _ hc).1, (hh _ hc).2]
      refine ⟨congrArg nI ?_, congrArg nI ?_⟩
      · simp only [ro, sm]; rw [if_neg (fun q => e q.symm)]; rfl
      · simp only [he, sm]; rw [if_neg (fun q => e q.symm)]; rfl
/-- the cost of a cell -/
def wv (n g : Nat) (x : Nat → Nat) (c : Nat) : Nat := ch (ro x c (n * (n - 1) / 2)) (he g x c (n * (n - 1) / 2))
/-- the cost of a way -/
def wc (n g : Nat) (x : Nat → Nat) : Nat := pr (wv n g x) 36
theorem s_cost4 {n g : Nat} {x : Nat → Nat} {f_ti f_lo f_hi f_ro f_he : Nat → Int32} {post : Int32 → (Nat → Int32) → (Nat → Int32) → Prop} (hn : n ≤ 6) (hg : g < 32768) (hlo : ∀ p, p < 15 → f_lo p = nI (lo p)) (hhi : ∀ p, p < 15 → f_hi p = nI (hi p)) (hti : ∀ a, a < n → f_ti a = nI (x a)) (hx : ∀ a, a < n → x a < 6)
    (h : ∀ fr fh : Nat → Int32, post (nI (wc n g x)) fr fh) : wp_X4_costOfTrial (nI g) (nI n) f_ti f_lo f_hi f_ro f_he post := by
  have P15 := np15 hn
  refine s_cntP hn hg hlo hhi hti hx (fun fr fh hh => ?_)
  refine lp0 (fun k j => b_X4_costOfTrial_8 (nI g) (nI n) f_ti f_lo f_hi post k (nI (pr (wv n g x) j)) (nI j) fr fh) 0 36 (by omega) (fun k => c_le (a := 36) (by omega) (by omega) (fun _ => h fr fh) (fun q => by omega)) (fun k j h2 hj ih => c_le (a := 36) (by omega) (by omega) (fun q => by omega) (fun _ => ⟨vp_in_nI (by omega) (by omega), vp_in_nI (by omega) (by omega), ?_⟩))
  rw [nI_clamp (by omega), (hh j hj).1, (hh j hj).2]
  have r1 := ro_le x j (n * (n - 1) / 2)
  have r2 := he_ro g x j (n * (n - 1) / 2)
  refine s_choices4 (by omega) r2 ?_
  rw [pk_mul, nI_1]
  exact ih
theorem wc_b {n g : Nat} {x : Nat → Nat} (hn : n ≤ 6) : 1 ≤ wc n g x ∧ wc n g x ≤ 32768 := by
  have P15 := np15 hn
  have H : ∀ c, 1 ≤ wv n g x c ∧ wv n g x c ≤ 2 ^ ro x c (n * (n - 1) / 2) := by
    intro c
    have r1 := ro_le x c (n * (n - 1) / 2)
    have r2 := he_ro g x c (n * (n - 1) / 2)
    have := ch_b (ro x c (n * (n - 1) / 2)) (by omega) (he g x c (n * (n - 1) / 2)) (by omega)
    exact ⟨this.1, this.2.1⟩
  refine ⟨pr_pos 36 (fun c _ => (H c).1), Nat.le_trans (pr_le 36 (fun c _ => (H c).2)) ?_⟩
  have : sm (fun c => ro x c (n * (n - 1) / 2)) 36 ≤ 15 := by
    unfold ro
    rw [sm_swap]
    have := sm_le (f := fun p => sm (fun c => if cel x p = c then 1 else 0) 36) (n := n * (n - 1) / 2) (m := 1) (fun p => by
      show sm (fun c => if cel x p = c then 1 else 0) 36 ≤ 1
      have := sm_ind (cel x p) 36
      rw [sm_congr (f' := fun c => if c = cel x p then 1 else 0) (fun c _ => by
        show (if cel x p = c then 1 else 0) = (if c = cel x p then 1 else 0)
        by_cases e : c = cel x p
        · rw [if_pos e, if_pos e.symm]
        · rw [if_neg e, if_neg (fun q => e q.symm)]), this]
      split <;> omega)
    omega
  exact Nat.le_trans (Nat.pow_le_pow_right (by omega) this) (by decide)
/-! the reference's -/
def mtc (x : Nat → Nat) (X Y a b : Nat) : Nat := if (x a = X ∧ x b = Y) ∨ (x a = Y ∧ x b = X) then 1 else 0
theorem sm_pairs (F : Nat → Nat → Nat) : ∀ n, n ≤ 6 → sm (fun p => F (lo p) (hi p)) (n * (n - 1) / 2) = sm (fun b => sm (fun a => F a b) b) n := by
  intro n
  induction n with
  | zero => intro _; rfl
  | succ n ih =>
    intro hn
    rw [← tri_step n (by omega), sm_append, ih (by omega)]
    show _ = sm (fun b => sm (fun a => F a b) b) n + sm (fun a => F a n) n
    congr 1
    refine sm_congr (fun a ha => ?_)
    obtain ⟨q1, q2, _⟩ := lo_pix n (by omega) a ha
    rw [q1, q2]
theorem mtc_cel {n : Nat} {x : Nat → Nat} (hn : n ≤ 6) (hx : ∀ a, a < n → x a < 6) {X Y : Nat} (hXY : X ≤ Y) (hY : Y < 6) {p : Nat} (hp : p < n * (n - 1) / 2) : mtc x X Y (lo p) (hi p) = if cel x p = X * 6 + Y then 1 else 0 := by
  obtain ⟨c1, c2, c3, c4⟩ := cel_in hn hx hp
  have x1 := hx _ c2
  have x2 := hx _ c3
  have : cel x p = X * 6 + Y ↔ ((x (lo p) = X ∧ x (hi p) = Y) ∨ (x (lo p) = Y ∧ x (hi p) = X)) := by
    unfold cel
    generalize x (lo p) = u at *
    generalize x (hi p) = v at *
    split <;> split <;> omega
  unfold mtc
  by_cases q : cel x p = X * 6 + Y
  · rw [if_pos q, if_pos (this.mp q)]
  · rw [if_neg q, if_neg (fun w => q (this.mpr w))]
def oF (x : Nat → Nat) (X Y b a : Nat) : Nat := sm (fun b => sm (fun a => mtc x X Y a b) b) b + sm (fun a => mtc x X Y a b) a
def mF (g : Nat) (x : Nat → Nat) (X Y b a : Nat) : Nat := sm (fun b => sm (fun a => mtc x X Y a b * hs g a b) b) b + sm (fun a => mtc x X Y a b * hs g a b) a
theorem oF_ro {n : Nat} {x : Nat → Nat} (hn : n ≤ 6) (hx : ∀ a, a < n → x a < 6) {X Y : Nat} (hXY : X ≤ Y) (hY : Y < 6) : oF x X Y n 0 = ro x (X * 6 + Y) (n * (n - 1) / 2) := by
  show sm (fun b => sm (fun a => mtc x X Y a b) b) n = _
  rw [← sm_pairs (fun a b => mtc x X Y a b) n hn]
  exact sm_congr (fun p hp => mtc_cel hn hx hXY hY hp)
theorem mF_he {n g : Nat} {x : Nat → Nat} (hn : n ≤ 6) (hx : ∀ a, a < n → x a < 6) {X Y : Nat} (hXY : X ≤ Y) (hY : Y < 6) : mF g x X Y n 0 = he g x (X * 6 + Y) (n * (n - 1) / 2) := by
  show sm (fun b => sm (fun a => mtc x X Y a b * hs g a b) b) n = _
  rw [← sm_pairs (fun a b => mtc x X Y a b * hs g a b) n hn]
  refine sm_congr (fun p hp => ?_)
  obtain ⟨c1, c2, c3, c4⟩ := cel_in hn hx hp
  obtain ⟨l1, l2, l3⟩ := lohi p c4
  rw [mtc_cel hn hx hXY hY hp, hs_ne (by omega), l3]
  by_cases q : cel x p = X * 6 + Y
  · rw [if_pos q, if_pos q, Nat.one_mul]
  · rw [if_neg q, if_neg q, Nat.zero_mul]
theorem wv_one {n g k : Nat} {x : Nat → Nat} (hn : n ≤ 6) (hk : k ≤ 6) (hx : ∀ a, a < n → x a < k) {X Y : Nat} (hY : Y < 6) (h : k ≤ X ∨ k ≤ Y ∨ Y < X) : wv n g x (X * 6 + Y) = 1 := by
  have hx6 : ∀ a, a < n → x a < 6 := fun a ha => by have := hx a ha; omega
  have z : ro x (X * 6 + Y) (n * (n - 1) / 2) = 0 := sm_zero (fun p hp => by
    obtain ⟨c1, c2, c3, c4⟩ := cel_in hn hx6 hp
    have x1 := hx _ c2
    have x2 := hx _ c3
    refine if_neg ?_
    unfold cel
    generalize x (lo p) = u at *
    generalize x (hi p) = v at *
    split <;> split <;> omega)
  have := he_ro g x (X * 6 + Y) (n * (n - 1) / 2)
  unfold wv
  rw [z, show he g x (X * 6 + Y) (n * (n - 1) / 2) = 0 by omega]
  rfl
theorem wc_eq {n g k : Nat} {x : Nat → Nat} (hn : n ≤ 6) (hk : k ≤ 6) (hx : ∀ a, a < n → x a < k) : pr (fun X => pr (fun Y => wv n g x (X * 6 + Y)) k) k = wc n g x := by
  have e1 : ∀ X, pr (fun Y => wv n g x (X * 6 + Y)) 6 = pr (fun Y => wv n g x (X * 6 + Y)) k := fun X => by
    have := pr_ext (f := fun Y => wv n g x (X * 6 + Y)) (k := k) (6 - k) (fun Y h1 h2 => wv_one hn hk hx (by omega) (Or.inr (Or.inl h1)))
    rw [← this, show k + (6 - k) = 6 by omega]
  unfold wc
  rw [show (36 : Nat) = 6 * 6 from rfl, pr_mulN]
  rw [pr_congr 6 (fun X _ => e1 X)]
  have := pr_ext (f := fun X => pr (fun Y => wv n g x (X * 6 + Y)) k) (k := k) (6 - k) (fun X h1 h2 => by
    show pr (fun Y => wv n g x (X * 6 + Y)) k = 1
    have := pr_ext (f := fun Y => wv n g x (X * 6 + Y)) (k := 0) k (fun Y _ h2 => wv_one hn hk hx (by omega) (Or.inl h1))
    rw [Nat.zero_add] at this
    exact this)
  rw [← this, show k + (6 - k) = 6 by omega]
section
variable {mN : Int32} {f_yy : Nat → Int32} {post : Int32 → Prop} {k4 : Int32 → Int32 → Int32 → Prop} {k12 : Int32 → Int32 → Int32 → Int32 → Prop} {k27 : Int32 → Int32 → Int32 → Int32 → Int32 → Int32 → Int32 → Prop} {k39 : Int32 → Int32 → Int32 → Int32 → Int32 → Int32 → Int32 → Int32 → Prop} {x1 x2 x3 x4 : Int32}
theorem s97_0 {g o w b a : Nat} (h : k39 x1 x2 x3 x4 (nI (o + 0)) (nI (w + 0)) (nI b) (nI (a + 1))) : b_X7_costOf_96 mN (nI g) f_yy post k4 k12 k27 k39 x1 x2 x3 x4 (nI o) (nI w) (nI b) (nI a) := by
  refine ⟨fun _ => ⟨fun _ => ?_, fun q => absurd rfl q⟩, fun q => absurd rfl q⟩
  show k39 x1 x2 x3 x4 (nI o + nI 0) (nI w + nI 0) (nI b) (nI a + 1)
  rw [nI_add, nI_add, nI_1]
  exact h
theorem s97_1 {g o w b a : Nat} (hg : g < 2 ^ 31) (ha : a < 6) (hb : b < 6) (h : k39 x1 x2 x3 x4 (nI (o + 1)) (nI (w + hs g a b)) (nI b) (nI (a + 1))) : b_X7_costOf_92 mN (nI g) f_yy post k4 k12 k27 k39 x1 x2 x3 x4 (nI o) (nI w) (nI b) (nI a) := by
  refine ⟨fun q => absurd q (by decide), fun _ => ⟨fun q => absurd q (by decide), fun _ => s_has hg ha hb ?_⟩⟩
  rcases hs_01 g a b with e | e <;> rw [e] at h ⊢
  · refine ⟨fun _ => ?_, fun q => absurd rfl q⟩
    show k39 x1 x2 x3 x4 (nI o + nI 1) (nI w + nI 0) (nI b) (nI a + 1)
    rw [nI_add, nI_add, nI_1]
    exact h
  · refine ⟨fun q => absurd q (by decide), fun _ => ?_⟩
    show k39 x1 x2 x3 x4 (nI o + nI 1) (nI w + nI 1) (nI b) (nI a + 1)
    rw [nI_add, nI_add, nI_1]
    exact h
theorem s39 {n g : Nat} {x : Nat → Nat} {X Y b : Nat} (hn : n ≤ 6) (hg : g < 2 ^ 31) (hx : ∀ a, a < n → x a < 6) (hy : ∀ a, a < n → f_yy a = nI (x a)) (hX : X < 6) (hY : Y < 6) (hb : b < n)
    (h : k27 x1 x2 (nI X) (nI Y) (nI (oF x X Y (b + 1) 0)) (nI (mF g x X Y (b + 1) 0)) (nI (b + 1))) : ∃ k, b_X7_costOf_39 mN (nI g) f_yy post k4 k12 k27 k x1 x2 (nI X) (nI Y) (nI (oF x X Y b 0)) (nI (mF g x X Y b 0)) (nI b) (nI 0) := by
  refine lp0 (fun k a => b_X7_costOf_39 mN (nI g) f_yy post k4 k12 k27 k x1 x2 (nI X) (nI Y) (nI (oF x X Y b a)) (nI (mF g x X Y b a)) (nI b) (nI a)) 0 b (by omega) (fun k => c_le (by omega) (by omega) (fun _ => ?_) (fun q => by omega)) (fun k a h2 ha ih => c_le (by omega) (by omega) (fun q => by omega) (fun _ => ⟨vp_in_nI (by omega) (by omega), ?_⟩))
  · rw [nI_1]; exact h
  · have xa := hx a (by omega)
    have xb := hx b hb
    have eo : oF x X Y b (a + 1) = oF x X Y b a + mtc x X Y a b := (Nat.add_assoc _ _ _).symm
    have em : mF g x X Y b (a + 1) = mF g x X Y b a + mtc x X Y a b * hs g a b := (Nat.add_assoc _ _ _).symm
    have va : vp_in (nI a) 6 := vp_in_nI (by omega) (by omega)
    have vb : vp_in (nI b) 6 := vp_in_nI (by omega) (by omega)
    rw [eo, em] at ih
    have yes : mtc x X Y a b = 1 → b_X7_costOf_92 mN (nI g) f_yy post k4 k12 k27 (b_X7_costOf_39 mN (nI g) f_yy post k4 k12 k27 k) x1 x2 (nI X) (nI Y) (nI (oF x X Y b a)) (nI (mF g x X Y b a)) (nI b) (nI a) := fun e => by
      rw [e, Nat.one_mul] at ih
      exact s97_1 hg (by omega) (by omega) ih
    have no : mtc x X Y a b = 0 → b_X7_costOf_96 mN (nI g) f_yy post k4 k12 k27 (b_X7_costOf_39 mN (nI g) f_yy post k4 k12 k27 k) x1 x2 (nI X) (nI Y) (nI (oF x X Y b a)) (nI (mF g x X Y b a)) (nI b) (nI a) := fun e => by
      rw [e, Nat.zero_mul] at ih
      exact s97_0 ih
    have s69 : ¬ (x a = X ∧ x b = Y) → b_X7_costOf_69 mN (nI g) f_yy post k4 k12 k27 (b_X7_costOf_39 mN (nI g) f_yy post k4 k12 k27 k) x1 x2 (nI X) (nI Y) (nI (oF x X Y b a)) (nI (mF g x X Y b a)) (nI b) (nI a) := fun e => by
      refine ⟨va, ?_⟩
      rw [nI_clamp (by omega), hy a (by omega)]
      refine c_eq (by omega) (by omega) (fun q1 => ⟨vb, ?_⟩) (fun q1 => no (if_neg (by omega)))
      rw [nI_clamp (by omega), hy b hb]
      exact c_eq (by omega) (by omega) (fun q2 => yes (if_pos (by omega))) (fun q2 => no (if_neg (by omega)))
    rw [nI_clamp (by omega), hy a (by omega)]
    refine c_eq (by omega) (by omega) (fun q1 => ⟨vb, ?_⟩) (fun q1 => s69 (by omega))
    rw [nI_clamp (by omega), hy b hb]
    exact c_eq (by omega) (by omega) (fun q2 => yes (if_pos (by omega))) (fun q2 => s69 (by omega))
end
theorem s_cost7 {n g k : Nat} {x : Nat → Nat} {f_yy : Nat → Int32} {post : Int32 → Prop} (hn1 : 1 ≤ n) (hn : n ≤ 6) (hg : g < 32768) (hk : k ≤ 6) (hx : ∀ a, a < n → x a < k) (hy : ∀ a, a < n → f_yy a = nI (x a)) (h : post (nI (wc n g x))) : wp_X7_costOf (nI k) (nI n) (nI g) f_yy post := by
  have P15 := np15 hn
  have hx6 : ∀ a, a < n → x a < 6 := fun a ha => by have := hx a ha; omega
  have st : ∀ X, X < k → pr (fun Y => wv n g x (X * 6 + Y)) X = 1 := fun X hX => by
    have := pr_ext (f := fun Y => wv n g x (X * 6 + Y)) (k := 0) X (fun Y _ h2 => wv_one hn hk hx (by omega) (by omega))
    rw [Nat.zero_add] at this
    exact this
  refine lp0 (fun j X => b_X7_costOf_4 (nI n) (nI g) f_yy post j (nI k) (nI (pr (fun X => pr (fun Y => wv n g x (X * 6 + Y)) k) X)) (nI X)) 0 k (by omega) (fun j => c_le (by omega) (by omega) (fun _ => ?_) (fun q => by omega)) (fun j X h2 hX ih => c_le (by omega) (by omega) (fun q => by omega) (fun _ => ?_))
  · rw [wc_eq hn hk hx]; exact h
  · have := lp0 (fun l Y => b_X7_costOf_12 (nI n) (nI g) f_yy post (b_X7_costOf_4 (nI n) (nI g) f_yy post j) l (nI k) (nI (pr (fun X => pr (fun Y => wv n g x (X * 6 + Y)) k) X * pr (fun Y => wv n g x (X * 6 + Y)) Y)) (nI X) (nI Y)) X k (by omega) (fun l => c_le (by omega) (by omega) (fun _ => ?_) (fun q => by omega)) (fun l Y h2 hY ih2 => c_le (by omega) (by omega) (fun q => by omega) (fun _ => ?_))
    · rw [st X hX, Nat.mul_one] at this; exact this
    · rw [nI_1]; exact ih
    · refine lp0 (fun m b => b_X7_costOf_27 (nI n) (nI g) f_yy post (b_X7_costOf_4 (nI n) (nI g) f_yy post j) (b_X7_costOf_12 (nI n) (nI g) f_yy post (b_X7_costOf_4 (nI n) (nI g) f_yy post j) l) m (nI k) (nI (pr (fun X => pr (fun Y => wv n g x (X * 6 + Y)) k) X * pr (fun Y => wv n g x (X * 6 + Y)) Y)) (nI X) (nI Y) (nI (oF x X Y b 0)) (nI (mF g x X Y b 0)) (nI b)) 1 n (by omega) (fun m => c_le (by omega) (by omega) (fun _ => ?_) (fun q => by omega)) (fun m b h3 hb ih3 => c_le (by omega) (by omega) (fun q => by omega) (fun _ => s39 hn (by omega) hx6 hy (by omega) (by omega) hb ih3))
      rw [oF_ro hn hx6 (by omega) (by omega), mF_he hn hx6 (by omega) (by omega)]
      have r1 := ro_le x (X * 6 + Y) (n * (n - 1) / 2)
      have r2 := he_ro g x (X * 6 + Y) (n * (n - 1) / 2)
      refine s_choices7 (by omega) r2 ?_
      rw [pk_mul, Nat.mul_assoc, nI_1]
      exact ih2
