/-! parts of a graph: the least node that hangs together with one -/
def rp (g : Nat) : Nat → Nat → Nat
  | 0, v => v
  | p + 1, v => if bit g p = 1 then (if rp g p v = max (rp g p (lo p)) (rp g p (hi p)) then min (rp g p (lo p)) (rp g p (hi p)) else rp g p v) else rp g p v
theorem rp_s (g p v : Nat) : rp g (p + 1) v = if bit g p = 1 then (if rp g p v = max (rp g p (lo p)) (rp g p (hi p)) then min (rp g p (lo p)) (rp g p (hi p)) else rp g p v) else rp g p v := rfl
theorem rp_le (g p v : Nat) : rp g p v ≤ v := by
  induction p generalizing v with
  | zero => exact Nat.le_refl v
  | succ p ih =>
    have h := ih v
    rw [rp_s]
    split
    · split
      · omega
      · exact h
    · exact h
theorem rp_id (g p v : Nat) : rp g p (rp g p v) = rp g p v := by
  induction p generalizing v with
  | zero => rfl
  | succ p ih =>
    have hx := ih (lo p)
    have hy := ih (hi p)
    have hv := ih v
    by_cases hb : bit g p = 1
    · have hm : rp g p (min (rp g p (lo p)) (rp g p (hi p))) = min (rp g p (lo p)) (rp g p (hi p)) := by
        rcases Nat.le_total (rp g p (lo p)) (rp g p (hi p)) with q | q
        · rw [Nat.min_eq_left q]; exact hx
        · rw [Nat.min_eq_right q]; exact hy
      by_cases hM : rp g p v = max (rp g p (lo p)) (rp g p (hi p))
      · have e : rp g (p + 1) v = min (rp g p (lo p)) (rp g p (hi p)) := by rw [rp_s, if_pos hb, if_pos hM]
        rw [e, rp_s, if_pos hb, hm]
        split <;> rfl
      · have e : rp g (p + 1) v = rp g p v := by rw [rp_s, if_pos hb, if_neg hM]
        rw [e, rp_s, if_pos hb, hv, if_neg hM]
    · have e : ∀ w, rp g (p + 1) w = rp g p w := fun w => by rw [rp_s, if_neg hb]
      rw [e, e]
      exact hv
/-- a set that no edge below p leaves -/
def cl (g p : Nat) (S : Nat → Prop) : Prop := ∀ q, q < p → bit g q = 1 → (S (lo q) ↔ S (hi q))
theorem rp_cl {g p : Nat} {S : Nat → Prop} (h : cl g p S) (v : Nat) : S v ↔ S (rp g p v) := by
  induction p generalizing v with
  | zero => exact Iff.rfl
  | succ p ih =>
    have ih' := ih (fun q hq => h q (by omega))
    rw [rp_s]
    split
    · rename_i hb
      have hxy := h p (by omega) hb
      have hx := ih' (lo p)
      have hy := ih' (hi p)
      have hv := ih' v
      split
      · rename_i hM
        rw [hM] at hv
        rcases Nat.le_total (rp g p (lo p)) (rp g p (hi p)) with q | q
        · rw [Nat.max_eq_right q] at hv
          rw [Nat.min_eq_left q]
          exact hv.trans (hy.symm.trans (hxy.symm.trans hx))
        · rw [Nat.max_eq_left q] at hv
          rw [Nat.min_eq_right q]
          exact hv.trans (hx.symm.trans (hxy.trans hy))
      · exact hv
    · exact ih' v
theorem rp_edge {g p : Nat} : ∀ q, q < p → bit g q = 1 → rp g p (lo q) = rp g p (hi q) := by
  induction p with
  | zero => intro q hq; omega
  | succ p ih =>
    intro q hq hb
    by_cases e : q = p
    · subst e
      rw [rp_s, rp_s, if_pos hb, if_pos hb]
      rcases Nat.le_total (rp g q (lo q)) (rp g q (hi q)) with k | k
      · rw [Nat.max_eq_right k, Nat.min_eq_left k]
        split <;> simp
      · rw [Nat.max_eq_left k, Nat.min_eq_right k]
        split <;> simp_all
    · have := ih q (by omega) hb
      rw [rp_s, rp_s, this]
theorem rp_class (g p a : Nat) : cl g p (fun v => rp g p v = rp g p a) := fun q hq hb => by
  show rp g p (lo q) = rp g p a ↔ rp g p (hi q) = rp g p a
  rw [rp_edge q hq hb]
theorem sm_add (f f' : Nat → Nat) (n : Nat) : sm f n + sm f' n = sm (fun i => f i + f' i) n := by
  induction n with
  | zero => rfl
  | succ n ih => simp only [sm]; omega
theorem sm_ind (m n : Nat) : sm (fun v => if v = m then 1 else 0) n = if m < n then 1 else 0 := by
  induction n with
  | zero => rfl
  | succ n ih =>
    simp only [sm, ih]
    by_cases h : n = m
    · subst h; simp
    · by_cases h2 : m < n
      · rw [if_pos h2, if_neg h, if_pos (by omega)]
      · rw [if_neg h2, if_neg h, if_neg (by omega)]
def fx (n g p : Nat) : Nat := sm (fun v => if rp g p v = v then 1 else 0) n
/-- how many edges below p join two parts -/
def jn (g p : Nat) : Nat := sm (fun q => if bit g q = 1 ∧ rp g q (lo q) ≠ rp g q (hi q) then 1 else 0) p
theorem fx_jn {n g : Nat} : ∀ p, p ≤ 15 → (∀ q, q < p → bit g q = 1 → hi q < n) → fx n g p + jn g p = n := by
  intro p
  induction p with
  | zero =>
    intro _ _
    show sm (fun v => if v = v then 1 else 0) n + 0 = n
    have : ∀ k, sm (fun v => if v = v then 1 else 0) k = k := by
      intro k
      induction k with
      | zero => rfl
      | succ k ih => show sm (fun v => if v = v then 1 else 0) k + (if k = k then 1 else 0) = k + 1; rw [ih, if_pos rfl]
    rw [this]
    rfl
  | succ p ih =>
    intro hp hq
    have h0 := ih (by omega) (fun q h => hq q (by omega))
    have hj : jn g (p + 1) = jn g p + (if bit g p = 1 ∧ rp g p (lo p) ≠ rp g p (hi p) then 1 else 0) := rfl
    by_cases hb : bit g p = 1
    · by_cases he : rp g p (lo p) = rp g p (hi p)
      · have e : ∀ v, rp g (p + 1) v = rp g p v := by
          intro v
          rw [rp_s, if_pos hb, he, Nat.max_self, Nat.min_self]
          split
          · rename_i q; exact q.symm
          · rfl
        have : fx n g (p + 1) = fx n g p := sm_congr (fun i _ => by rw [e])
        rw [hj, this, if_neg (fun q => q.2 he)]
        exact h0
      · rw [hj, if_pos ⟨hb, he⟩]
        have hlh := (lohi p (by omega)).1
        have hh := hq p (by omega) hb
        have l1 := rp_le g p (lo p)
        have l2 := rp_le g p (hi p)
        have i1 := rp_id g p (lo p)
        have i2 := rp_id g p (hi p)
        have key : fx n g (p + 1) + sm (fun v => if v = max (rp g p (lo p)) (rp g p (hi p)) then 1 else 0) n = fx n g p := by
          unfold fx
          rw [sm_add]
          refine sm_congr (fun v _ => ?_)
          have lv := rp_le g p v
          have hM : rp g p (max (rp g p (lo p)) (rp g p (hi p))) = max (rp g p (lo p)) (rp g p (hi p)) := by
            rcases Nat.le_total (rp g p (lo p)) (rp g p (hi p)) with k | k
            · rw [Nat.max_eq_right k]; exact i2
            · rw [Nat.max_eq_left k]; exact i1
          show (if rp g (p + 1) v = v then 1 else 0) + (if v = max (rp g p (lo p)) (rp g p (hi p)) then 1 else 0) = if rp g p v = v then 1 else 0
          rw [rp_s, if_pos hb]
          by_cases h1 : rp g p v = max (rp g p (lo p)) (rp g p (hi p))
          · rw [if_pos h1]
            by_cases h2 : v = max (rp g p (lo p)) (rp g p (hi p))
            · rw [if_pos h2, if_neg (by omega), if_pos (by omega)]
            · rw [if_neg h2, if_neg (by omega), if_neg (by omega)]
          · rw [if_neg h1]
            by_cases h2 : v = max (rp g p (lo p)) (rp g p (hi p))
            · rw [h2] at h1; exact absurd hM h1
            · rw [if_neg h2, Nat.add_zero]
        rw [sm_ind, if_pos (by omega)] at key
        omega
    · have e : ∀ v, rp g (p + 1) v = rp g p v := fun v => by rw [rp_s, if_neg hb]
      have : fx n g (p + 1) = fx n g p := sm_congr (fun i _ => by rw [e])
      rw [hj, this, if_neg (fun q => hb q.1)]
      exact h0
theorem cnt6 (r : Nat) : cnt r 6 = bit r 0 + bit r 1 + bit r 2 + bit r 3 + bit r 4 + bit r 5 := by simp [cnt]
theorem mask6 {r : Nat} (h : r < 64) : r = bit r 0 + 2 * bit r 1 + 4 * bit r 2 + 8 * bit r 3 + 16 * bit r 4 + 32 * bit r 5 := (by decide +kernel : ∀ r, r < 64 → r = bit r 0 + 2 * bit r 1 + 4 * bit r 2 + 8 * bit r 3 + 16 * bit r 4 + 32 * bit r 5) r h
theorem mask_ext {r r' : Nat} (h : r < 64) (h' : r' < 64) (e : ∀ v, v < 6 → bit r v = bit r' v) : r = r' := by
  rw [mask6 h, mask6 h', e 0 (by omega), e 1 (by omega), e 2 (by omega), e 3 (by omega), e 4 (by omega), e 5 (by omega)]
theorem cnt_grow {r r' : Nat} (h : r < 64) (h' : r' < 64) (e : ∀ v, v < 6 → bit r v ≤ bit r' v) (hne : r' ≠ r) : cnt r 6 + 1 ≤ cnt r' 6 := by
  apply Classical.byContradiction
  intro hc
  rw [cnt6, cnt6] at hc
  have e0 := e 0 (by omega); have e1 := e 1 (by omega); have e2 := e 2 (by omega); have e3 := e 3 (by omega); have e4 := e 4 (by omega); have e5 := e 5 (by omega)
  have q0 : bit r' 0 = bit r 0 := by omega
  have q1 : bit r' 1 = bit r 1 := by omega
  have q2 : bit r' 2 = bit r 2 := by omega
  have q3 : bit r' 3 = bit r 3 := by omega
  have q4 : bit r' 4 = bit r 4 := by omega
  have q5 : bit r' 5 = bit r 5 := by omega
  refine hne (mask_ext h' h (fun v hv => ?_))
  rcases (show v = 0 ∨ v = 1 ∨ v = 2 ∨ v = 3 ∨ v = 4 ∨ v = 5 by omega) with rfl | rfl | rfl | rfl | rfl | rfl <;> assumption
theorem bit_or (a b p : Nat) : bit (a ||| b) p = if bit a p = 1 ∨ bit b p = 1 then 1 else 0 := by
  rw [bit_tb, bit_tb, bit_tb, Nat.testBit_or]
  cases a.testBit p <;> cases b.testBit p <;> rfl
theorem bit_pow (k p : Nat) : bit (2 ^ k) p = if p = k then 1 else 0 := by
  rw [bit_tb, Nat.testBit_two_pow]
  by_cases h : k = p
  · subst h; simp
  · simp [h, Ne.symm h]
theorem or_lt64 {a b : Nat} (ha : a < 64) (hb : b < 64) : a ||| b < 64 := Nat.or_lt_two_pow (n := 6) ha hb
theorem pow_lt64 : ∀ v, v < 6 → 2 ^ v < 64 := by decide +kernel
/-- one pair of a pass -/
def ps (g r p : Nat) : Nat := if bit g p = 1 ∧ r &&& (2 ^ lo p ||| 2 ^ hi p) ≠ 0 then r ||| (2 ^ lo p ||| 2 ^ hi p) else r
def pas (g r : Nat) : Nat → Nat
  | 0 => r
  | p + 1 => ps g (pas g r p) p
theorem ends_lt {p : Nat} (hp : p < 15) : 2 ^ lo p ||| 2 ^ hi p < 64 := or_lt64 (pow_lt64 _ (by have := lohi p hp; omega)) (pow_lt64 _ (by have := lohi p hp; omega))
theorem bit_ends (p v : Nat) : bit (2 ^ lo p ||| 2 ^ hi p) v = if v = lo p ∨ v = hi p then 1 else 0 := by
  rw [bit_or, bit_pow, bit_pow]
  by_cases h1 : v = lo p <;> by_cases h2 : v = hi p <;> simp [h1, h2]
theorem and_ends {r p : Nat} (hr : r < 64) (hp : p < 15) : r &&& (2 ^ lo p ||| 2 ^ hi p) ≠ 0 ↔ bit r (lo p) = 1 ∨ bit r (hi p) = 1 := by
  have hl := lohi p hp
  have lt : r &&& (2 ^ lo p ||| 2 ^ hi p) < 64 := Nat.lt_of_le_of_lt Nat.and_le_left hr
  constructor
  · intro h
    apply Classical.byContradiction
    intro hn
    apply h
    refine mask_ext lt (by omega) (fun v hv => ?_)
    rw [bit_and, bit_ends]
    have z : bit 0 v = 0 := by unfold bit; simp
    rw [z]
    by_cases h1 : v = lo p
    · subst h1; rcases bit_01 r (lo p) with e | e
      · rw [e, Nat.zero_mul]
      · exact absurd (Or.inl e) hn
    · by_cases h2 : v = hi p
      · subst h2; rcases bit_01 r (hi p) with e | e
        · rw [e, Nat.zero_mul]
        · exact absurd (Or.inr e) hn
      · rw [if_neg (by omega), Nat.mul_zero]
  · intro h hz
    have z : ∀ v, bit (r &&& (2 ^ lo p ||| 2 ^ hi p)) v = 0 := fun v => by rw [hz]; unfold bit; simp
    rcases h with h | h
    · have := z (lo p); rw [bit_and, bit_ends, h, if_pos (Or.inl rfl)] at this; omega
    · have := z (hi p); rw [bit_and, bit_ends, h, if_pos (Or.inr rfl)] at this; omega
theorem ps_lt {g r p : Nat} (hr : r < 64) (hp : p < 15) : ps g r p < 64 := by unfold ps; split; exact or_lt64 hr (ends_lt hp); exact hr
theorem pas_lt {g r : Nat} (hr : r < 64) : ∀ p, p ≤ 15 → pas g r p < 64 := by
  intro p
  induction p with
  | zero => intro _; exact hr
  | succ p ih => intro hp; exact ps_lt (ih (by omega)) (by omega)
theorem ps_sup (g r p v : Nat) : bit r v ≤ bit (ps g r p) v := by
  unfold ps
  split
  · rw [bit_or]
    rcases bit_01 r v with e | e
    · rw [e]; exact Nat.zero_le _
    · rw [e, if_pos (Or.inl rfl)]; exact Nat.le_refl _
  · exact Nat.le_refl _
theorem pas_sup (g r v : Nat) : ∀ p k, bit (pas g r p) v ≤ bit (pas g r (p + k)) v := by
  intro p k
  induction k with
  | zero => exact Nat.le_refl _
  | succ k ih => exact Nat.le_trans ih (ps_sup g _ (p + k) v)
theorem pas_fix {g r : Nat} (hr : r < 64) (h : pas g r 15 = r) : cl g 15 (fun v => bit r v = 1) := by
  have e : ∀ p, p ≤ 15 → pas g r p = r := by
    intro p hp
    refine mask_ext (pas_lt hr p hp) hr (fun v _ => ?_)
    have h1 := pas_sup g r v 0 p
    have h2 := pas_sup g r v p (15 - p)
    rw [show p + (15 - p) = 15 by omega, h] at h2
    rw [Nat.zero_add] at h1
    exact Nat.le_antisymm h2 h1
  intro q hq hb
  have h1 : ps g r q = r := by
    have := e (q + 1) (by omega)
    show ps g r q = r
    rw [show pas g r (q + 1) = ps g (pas g r q) q from rfl, e q (by omega)] at this
    exact this
  have key : bit r (lo q) = 1 ∨ bit r (hi q) = 1 → bit r (lo q) = 1 ∧ bit r (hi q) = 1 := by
    intro k
    unfold ps at h1
    rw [if_pos ⟨hb, (and_ends hr hq).mpr k⟩] at h1
    constructor
    · rw [← h1, bit_or, bit_ends, if_pos (Or.inl rfl)]; simp
    · rw [← h1, bit_or, bit_ends, if_pos (Or.inr rfl)]; simp
  exact ⟨fun k => (key (Or.inl k)).2, fun k => (key (Or.inr k)).1⟩
theorem pas_in {g r : Nat} {S : Nat → Prop} (hr : r < 64) (hS : cl g 15 S) (h : ∀ v, bit r v = 1 → S v) : ∀ p, p ≤ 15 → ∀ v, bit (pas g r p) v = 1 → S v := by
  intro p
  induction p with
  | zero => intro _; exact h
  | succ p ih =>
    intro hp v hv
    have ih' := ih (by omega)
    rw [show pas g r (p + 1) = ps g (pas g r p) p from rfl] at hv
    unfold ps at hv
    split at hv
    · rename_i c
      rw [bit_or, bit_ends] at hv
      by_cases h1 : bit (pas g r p) v = 1
      · exact ih' v h1
      · by_cases h2 : v = lo p ∨ v = hi p
        · have hxy := hS p (by omega) c.1
          have := (and_ends (pas_lt hr p (by omega)) (by omega)).mp c.2
          rcases this with k | k
          · have := ih' _ k
            rcases h2 with rfl | rfl
            · exact this
            · exact hxy.mp this
          · have := ih' _ k
            rcases h2 with rfl | rfl
            · exact hxy.mpr this
            · exact this
        · rw [if_neg h2] at hv; simp [h1] at hv
    · exact ih' v hv
