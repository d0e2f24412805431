/-! what an edge more changes -/
theorem bit_add {g p : Nat} (hg : g < 2 ^ p) (q : Nat) : bit (g + 2 ^ p) q = if q = p then 1 else bit g q := by
  have e2 := Nat.two_pow_add_eq_or_of_lt hg 1
  rw [Nat.mul_one] at e2
  rw [Nat.add_comm, e2, bit_or, bit_pow]
  by_cases h : q = p
  · simp [h]
  · rw [if_neg h, if_neg h]
    rcases bit_01 g q with e | e <;> rw [e] <;> simp
theorem sm_ext {f : Nat → Nat} {n m : Nat} (h : n ≤ m) (hz : ∀ i, n ≤ i → i < m → f i = 0) : sm f m = sm f n := by
  obtain ⟨k, rfl⟩ := Nat.exists_eq_add_of_le h
  clear h
  induction k with
  | zero => rfl
  | succ k ih =>
    show sm f (n + k) + f (n + k) = sm f n
    rw [ih (fun i h1 h2 => hz i h1 (by omega)), hz (n + k) (by omega) (by omega)]
    rfl
theorem pix_ge' : ∀ n, n < 7 → ∀ a, a < 6 → ∀ b, b < 6 → (a != b && (Nat.ble n a || Nat.ble n b)) = true → n * (n - 1) / 2 ≤ pix a b := by decide +kernel
theorem pix_ge (n : Nat) (hn : n < 7) (a : Nat) (ha : a < 6) (b : Nat) (hb : b < 6) (h1 : a ≠ b) (h2 : n ≤ a ∨ n ≤ b) : n * (n - 1) / 2 ≤ pix a b := by
  refine pix_ge' n hn a ha b hb ?_
  rcases h2 with h2 | h2
  · simp [h1, h2]
  · simp [h1, h2]
theorem hs_big {n g a b : Nat} (hn : n ≤ 6) (hg : gr n g) (ha : a < 6) (hb : b < 6) (h : n ≤ a ∨ n ≤ b) : hs g a b = 0 := by
  unfold hs
  split
  · rfl
  · rename_i e; exact bit_big hg (pix_ge n (by omega) a ha b hb e h)
theorem hs_add {g p a b : Nat} (hg : g < 2 ^ p) : hs (g + 2 ^ p) a b = hs g a b + (if a ≠ b ∧ pix a b = p then 1 else 0) := by
  unfold hs
  by_cases e : a = b
  · rw [if_pos e, if_pos e, if_neg (fun q => q.1 e)]
  · rw [if_neg e, if_neg e, bit_add hg]
    by_cases q : pix a b = p
    · rw [if_pos q, if_pos ⟨e, q⟩, q, bit_big hg (Nat.le_refl _)]
    · rw [if_neg q, if_neg (fun z => q z.2)]; rfl
theorem dgr_ind : ∀ p, p < 15 → ∀ v, v < 6 → sm (fun w => if v ≠ w ∧ pix v w = p then 1 else 0) 6 = if v = lo p ∨ v = hi p then 1 else 0 := by decide +kernel
theorem dgr_add {g p v : Nat} (hp : p < 15) (hg : g < 2 ^ p) (hv : v < 6) : dgr 6 (g + 2 ^ p) v = dgr 6 g v + (if v = lo p ∨ v = hi p then 1 else 0) := by
  unfold dgr
  rw [sm_congr (fun w _ => hs_add (a := v) (b := w) hg), ← sm_add, dgr_ind p hp v hv]
theorem cnt_add {g p : Nat} (hp : p < 15) (hg : g < 2 ^ p) : cnt (g + 2 ^ p) 15 = cnt g 15 + 1 := by
  rw [cnt_sm, cnt_sm, ← show sm (fun v => if v = p then 1 else 0) 15 = 1 by rw [sm_ind, if_pos hp], sm_add]
  refine sm_congr (fun q _ => ?_)
  rw [bit_add hg]
  by_cases e : q = p
  · rw [if_pos e, if_pos e, e, bit_big hg (Nat.le_refl _)]
  · rw [if_neg e, if_neg e]; rfl
theorem c2_suc : ∀ d, d < 6 → (d + 1) * (d + 1 - 1) / 2 = d * (d - 1) / 2 + d := by decide +kernel
theorem dgr6_le {g v : Nat} (hv : v < 6) : dgr 6 g v ≤ 5 := by
  have z : hs g v v = 0 := by unfold hs; rw [if_pos rfl]
  have h0 := hs_le g v 0; have h1 := hs_le g v 1; have h2 := hs_le g v 2; have h3 := hs_le g v 3; have h4 := hs_le g v 4; have h5 := hs_le g v 5
  simp only [dgr, sm]
  rcases (show v = 0 ∨ v = 1 ∨ v = 2 ∨ v = 3 ∨ v = 4 ∨ v = 5 by omega) with rfl | rfl | rfl | rfl | rfl | rfl <;> omega
theorem dg5 {g p : Nat} (hp : p < 15) (hg : g < 2 ^ p) : dgr 6 g (lo p) ≤ 4 ∧ dgr 6 g (hi p) ≤ 4 := by
  have hl := lohi p hp
  have h1 := dgr_add hp hg (v := lo p) (by omega)
  have h2 := dgr_add hp hg (v := hi p) (by omega)
  rw [if_pos (Or.inl rfl)] at h1
  rw [if_pos (Or.inr rfl)] at h2
  have := dgr6_le (g := g + 2 ^ p) (v := lo p) (by omega)
  have := dgr6_le (g := g + 2 ^ p) (v := hi p) (by omega)
  omega
theorem sm_two (x : Nat → Nat) (a b n : Nat) (ha : a < n) (hb : b < n) (hab : a ≠ b) : sm (fun v => if v = a ∨ v = b then x v else 0) n = x a + x b := by
  have e : ∀ v, (if v = a ∨ v = b then x v else 0) = (if v = a then x a else 0) + (if v = b then x b else 0) := by
    intro v
    by_cases h1 : v = a
    · subst h1; rw [if_pos (Or.inl rfl), if_pos rfl, if_neg hab]; rfl
    · by_cases h2 : v = b
      · subst h2; rw [if_pos (Or.inr rfl), if_neg h1, if_pos rfl, Nat.zero_add]
      · rw [if_neg (by omega), if_neg h1, if_neg h2]
  have one : ∀ (c y m : Nat), c < m → sm (fun v => if v = c then y else 0) m = y := by
    intro c y m hc
    induction m with
    | zero => omega
    | succ m ih =>
      simp only [sm]
      by_cases h : m = c
      · subst h
        rw [if_pos rfl, sm_zero (fun i hi => by rw [if_neg (by omega)]), Nat.zero_add]
      · rw [if_neg h, ih (by omega)]; rfl
  rw [sm_congr (fun v _ => e v), ← sm_add, one a (x a) n ha, one b (x b) n hb]
theorem wed_add {g p : Nat} (hp : p < 15) (hg : g < 2 ^ p) : wed 6 (g + 2 ^ p) 6 = wed 6 g 6 + (dgr 6 g (lo p) + dgr 6 g (hi p)) := by
  have hl := lohi p hp
  unfold wed
  rw [← sm_two (dgr 6 g) (lo p) (hi p) 6 (by omega) (by omega) (by omega), sm_add]
  refine sm_congr (fun v hv => ?_)
  have h := dgr6_le (g := g) hv
  rw [dgr_add hp hg hv]
  by_cases e : v = lo p ∨ v = hi p
  · rw [if_pos e, if_pos e, c2_suc _ (by omega)]
  · rw [if_neg e, if_neg e]; rfl
def non (g : Nat) : Nat := sm (fun v => if dgr 6 g v = 0 then 0 else 1) 6
theorem non_add {g p : Nat} (hp : p < 15) (hg : g < 2 ^ p) : non (g + 2 ^ p) = non g + ((if dgr 6 g (lo p) = 0 then 1 else 0) + (if dgr 6 g (hi p) = 0 then 1 else 0)) := by
  have hl := lohi p hp
  unfold non
  rw [← sm_two (fun v => if dgr 6 g v = 0 then 1 else 0) (lo p) (hi p) 6 (by omega) (by omega) (by omega), sm_add]
  refine sm_congr (fun v hv => ?_)
  rw [dgr_add hp hg hv]
  by_cases e : v = lo p ∨ v = hi p
  · rw [if_pos e, if_pos e, if_neg (by omega)]
    by_cases z : dgr 6 g v = 0
    · rw [if_pos z, if_pos z]
    · rw [if_neg z, if_neg z]
  · rw [if_neg e, if_neg e]; rfl
theorem mxd_s (f : Nat → Nat) (n : Nat) : mxd f (n + 1) = max (mxd f n) (f n) := by
  simp only [mxd]
  split <;> omega
theorem mxd6 (f : Nat → Nat) : mxd f 6 = max (max (max (max (max (f 0) (f 1)) (f 2)) (f 3)) (f 4)) (f 5) := by
  rw [mxd_s, mxd_s, mxd_s, mxd_s, mxd_s, mxd_s]
  show max (max (max (max (max (max 0 (f 0)) (f 1)) (f 2)) (f 3)) (f 4)) (f 5) = _
  rw [Nat.zero_max]
theorem mxd_ge {f : Nat → Nat} : ∀ n v, v < n → f v ≤ mxd f n := by
  intro n
  induction n with
  | zero => intro v hv; omega
  | succ n ih =>
    intro v hv
    rw [mxd_s]
    by_cases e : v = n
    · subst e; omega
    · have := ih v (by omega); omega
theorem mxd_lub {f : Nat → Nat} {m : Nat} : ∀ n, (∀ v, v < n → f v ≤ m) → mxd f n ≤ m := by
  intro n
  induction n with
  | zero => intro _; exact Nat.zero_le _
  | succ n ih =>
    intro h
    rw [mxd_s]
    have := ih (fun v hv => h v (by omega))
    have := h n (by omega)
    omega
theorem mxd_add {g p : Nat} (hp : p < 15) (hg : g < 2 ^ p) : mxd (dgr 6 (g + 2 ^ p)) 6 = max (mxd (dgr 6 g) 6) (max (dgr 6 g (lo p)) (dgr 6 g (hi p)) + 1) := by
  have hl := lohi p hp
  apply Nat.le_antisymm
  · refine mxd_lub 6 (fun v hv => ?_)
    have h1 := mxd_ge (f := dgr 6 g) 6 v hv
    rw [dgr_add hp hg hv]
    split
    · rename_i e
      rcases e with rfl | rfl <;> omega
    · omega
  · have h1 : mxd (dgr 6 g) 6 ≤ mxd (dgr 6 (g + 2 ^ p)) 6 := mxd_lub 6 (fun v hv => by
      have h2 := mxd_ge (f := dgr 6 (g + 2 ^ p)) 6 v hv
      rw [dgr_add hp hg hv] at h2
      omega)
    have h2 := mxd_ge (f := dgr 6 (g + 2 ^ p)) 6 (lo p) (by omega)
    have h3 := mxd_ge (f := dgr 6 (g + 2 ^ p)) 6 (hi p) (by omega)
    rw [dgr_add hp hg (by omega), if_pos (Or.inl rfl)] at h2
    rw [dgr_add hp hg (by omega), if_pos (Or.inr rfl)] at h3
    omega
/-- the other nodes -/
def oth (p k : Nat) : Nat := if k < lo p then k else if k + 1 < hi p then k + 1 else k + 2
def ot3 (p c k : Nat) : Nat := ((List.range 6).filter (fun d => d != lo p && d != hi p && d != c)).getD k 0
theorem oth_ok : ∀ p, p < 15 → ∀ k, k < 4 → oth p k < 6 ∧ oth p k ≠ lo p ∧ oth p k ≠ hi p ∧ cb (lo p) (hi p) (oth p k) = k := by decide +kernel
theorem ot3_ok : ∀ p, p < 15 → ∀ k, k < 4 → ∀ j, j < 3 → ot3 p (oth p k) j < 6 ∧ ot3 p (oth p k) j ≠ lo p ∧ ot3 p (oth p k) j ≠ hi p ∧ ot3 p (oth p k) j ≠ oth p k ∧ cd (lo p) (hi p) (oth p k) (ot3 p (oth p k) j) = j := by decide +kernel
def ov1 (p g : Nat) : Nat := sm (fun k => hs g (lo p) (oth p k) * hs g (oth p k) (hi p)) 4
def ov2 (p g : Nat) : Nat := sm (fun k => sm (fun j => hs g (lo p) (oth p k) * (hs g (oth p k) (ot3 p (oth p k) j) * hs g (ot3 p (oth p k) j) (hi p))) 3) 4
