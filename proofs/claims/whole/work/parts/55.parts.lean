/-! parts of a graph: the least node that hangs together with one -/
def rp (g : Nat) : Nat → Nat → Nat
  | 0, v => v
  | p + 1, v => if bit g p = 1 then (if rp g p v = max (rp g p (lo p)) (rp g p (hi p)) then min (rp g p (lo p)) (rp g p (hi p)) else rp g p v) else rp g p v
theorem rp_s (g p v : Nat) : rp g (p + 1) v = if bit g p = 1 then (if rp g p v = max (rp g p (lo p)) (rp g p (hi p)) then min (rp g p (lo p)) (rp g p (hi p)) else rp g p v) else rp g p v := rfl
theorem rp_le (g p v : Nat) : rp g p v ≤ v := by
  induction p generalizing v with
  | zero => exact Nat.le_refl v
  | succ p ih =>
    have h := ih v
    rw [rp_s]
    split
    · split
      · omega
      · exact h
    · exact h
theorem rp_id (g p v : Nat) : rp g p (rp g p v) = rp g p v := by
  induction p generalizing v with
  | zero => rfl
  | succ p ih =>
    have hx := ih (lo p)
    have hy := ih (hi p)
    have hv := ih v
    by_cases hb : bit g p = 1
    · have hm : rp g p (min (rp g p (lo p)) (rp g p (hi p))) = min (rp g p (lo p)) (rp g p (hi p)) := by
        rcases Nat.le_total (rp g p (lo p)) (rp g p (hi p)) with q | q
        · rw [Nat.min_eq_left q]; exact hx
        · rw [Nat.min_eq_right q]; exact hy
      by_cases hM : rp g p v = max (rp g p (lo p)) (rp g p (hi p))
      · have e : rp g (p + 1) v = min (rp g p (lo p)) (rp g p (hi p)) := by rw [rp_s, if_pos hb, if_pos hM]
        rw [e, rp_s, if_pos hb, hm]
        split <;> rfl
      · have e : rp g (p + 1) v = rp g p v := by rw [rp_s, if_pos hb, if_neg hM]
        rw [e, rp_s, if_pos hb, hv, if_neg hM]
    · have e : ∀ w, rp g (p + 1) w = rp g p w := fun w => by rw [rp_s, if_neg hb]
      rw [e, e]
      exact hv
/-- a set that no edge below p leaves -/
def cl (g p : Nat) (S : Nat → Prop) : Prop := ∀ q, q < p → bit g q = 1 → (S (lo q) ↔ S (hi q))
theorem rp_cl {g p : Nat} {S : Nat → Prop} (h : cl g p S) (v : Nat) : S v ↔ S (rp g p v) := by
  induction p generalizing v with
  | zero => exact Iff.rfl
  | succ p ih =>
    have ih' := ih (fun q hq => h q (by omega))
    rw [rp_s]
    split
    · rename_i hb
      have hxy := h p (by omega) hb
      have hx := ih' (lo p)
      have hy := ih' (hi p)
      have hv := ih' v
      split
      · rename_i hM
        rw [hM] at hv
        rcases Nat.le_total (rp g p (lo p)) (rp g p (hi p)) with q | q
        · rw [Nat.max_eq_right q] at hv
          rw [Nat.min_eq_left q]
          exact hv.trans (hy.symm.trans (hxy.symm.trans hx))
        · rw [Nat.max_eq_left q] at hv
          rw [Nat.min_eq_right q]
          exact hv.trans (hx.symm.trans (hxy.trans hy))
      · exact hv
    · exact ih' v
theorem rp_edge {g p : Nat} : ∀ q, q < p → bit g q = 1 → rp g p (lo q) = rp g p (hi q) := by
  induction p with
  | zero => intro q hq; omega
  | succ p ih =>
    intro q hq hb
    by_cases e : q = p
    · subst e
      rw [rp_s, rp_s, if_pos hb, if_pos hb]
      rcases Nat.le_total (rp g q (lo q)) (rp g q (hi q)) with k | k
      · rw [Nat.max_eq_right k, Nat.min_eq_left k]
        split <;> simp
      · rw [Nat.max_eq_left k, Nat.min_eq_right k]
        split <;> simp_all
    · have := ih q (by omega) hb
      rw [rp_s, rp_s, this]
theorem rp_class (g p a : Nat) : cl g p (fun v => rp g p v = rp g p a) := fun q hq hb => by
  show rp g p (lo q) = rp g p a ↔ rp g p (hi q) = rp g p a
  rw [rp_edge q hq hb]
theorem sm_add (f f' : Nat → Nat) (n : Nat) : sm f n + sm f' n = sm (fun i => f i + f' i) n := by
  induction n with
  | zero => rfl
  | succ n ih => simp only [sm]; omega
theorem sm_ind (m n : Nat) : sm (fun v => if v = m then 1 else 0) n = if m < n then 1 else 0 := by
  induction n with
  | zero => rfl
  | succ n ih =>
    simp only [sm, ih]
    by_cases h : n = m
    · subst h; simp
    · by_cases h2 : m < n
      · rw [if_pos h2, if_neg h, if_pos (by omega)]
      · rw [if_neg h2, if_neg h, if_neg (by omega)]
def fx (n g p : Nat) : Nat := sm (fun v => if rp g p v = v then 1 else 0) n
/-- how many edges below p join two parts -/
def jn (g p : Nat) : Nat := sm (fun q => if bit g q = 1 ∧ rp g q (lo q) ≠ rp g q (hi q) then 1 else 0) p
theorem fx_jn {n g : Nat} : ∀ p, p ≤ 15 → (∀ q, q < p → bit g q = 1 → hi q < n) → fx n g p + jn g p = n := by
  intro p
  induction p with
  | zero =>
    intro _ _
    show sm (fun v => if v = v then 1 else 0) n + 0 = n
    have : ∀ k, sm (fun v => if v = v then 1 else 0) k = k := by
      intro k
      induction k with
      | zero => rfl
      | succ k ih => simp only [sm, ih]; simp
    rw [this]
    rfl
  | succ p ih =>
    intro hp hq
    have h0 := ih (by omega) (fun q h => hq q (by omega))
    have hj : jn g (p + 1) = jn g p + (if bit g p = 1 ∧ rp g p (lo p) ≠ rp g p (hi p) then 1 else 0) := rfl
    by_cases hb : bit g p = 1
    · by_cases he : rp g p (lo p) = rp g p (hi p)
      · have e : ∀ v, rp g (p + 1) v = rp g p v := by
          intro v
          rw [rp_s, if_pos hb, he, Nat.max_self, Nat.min_self]
          split
          · rename_i q; exact q.symm
          · rfl
        have : fx n g (p + 1) = fx n g p := sm_congr (fun i _ => by rw [e])
        rw [hj, this, if_neg (fun q => q.2 he)]
        exact h0
      · rw [hj, if_pos ⟨hb, he⟩]
        have hlh := (lohi p (by omega)).1
        have hh := hq p (by omega) hb
        have l1 := rp_le g p (lo p)
        have l2 := rp_le g p (hi p)
        have i1 := rp_id g p (lo p)
        have i2 := rp_id g p (hi p)
        have key : fx n g (p + 1) + sm (fun v => if v = max (rp g p (lo p)) (rp g p (hi p)) then 1 else 0) n = fx n g p := by
          unfold fx
          rw [sm_add]
          refine sm_congr (fun v _ => ?_)
          have lv := rp_le g p v
          have hM : rp g p (max (rp g p (lo p)) (rp g p (hi p))) = max (rp g p (lo p)) (rp g p (hi p)) := by
            rcases Nat.le_total (rp g p (lo p)) (rp g p (hi p)) with k | k
            · rw [Nat.max_eq_right k]; exact i2
            · rw [Nat.max_eq_left k]; exact i1
          show (if rp g (p + 1) v = v then 1 else 0) + (if v = max (rp g p (lo p)) (rp g p (hi p)) then 1 else 0) = if rp g p v = v then 1 else 0
          rw [rp_s, if_pos hb]
          by_cases h1 : rp g p v = max (rp g p (lo p)) (rp g p (hi p))
          · rw [if_pos h1]
            by_cases h2 : v = max (rp g p (lo p)) (rp g p (hi p))
            · rw [if_pos h2, if_neg (by omega), if_pos (by omega)]
            · rw [if_neg h2, if_neg (by omega), if_neg (by omega)]
          · rw [if_neg h1]
            by_cases h2 : v = max (rp g p (lo p)) (rp g p (hi p))
            · rw [h2] at h1; exact absurd hM h1
            · rw [if_neg h2, Nat.add_zero]
        rw [sm_ind, if_pos (by omega)] at key
        omega
    · have e : ∀ v, rp g (p + 1) v = rp g p v := fun v => by rw [rp_s, if_neg hb]
      have : fx n g (p + 1) = fx n g p := sm_congr (fun i _ => by rw [e])
      rw [hj, this, if_neg (fun q => hb q.1)]
      exact h0
theorem cnt6 (r : Nat) : cnt r 6 = bit r 0 + bit r 1 + bit r 2 + bit r 3 + bit r 4 + bit r 5 := by simp [cnt]
theorem mask6 {r : Nat} (h : r < 64) : r = bit r 0 + 2 * bit r 1 + 4 * bit r 2 + 8 * bit r 3 + 16 * bit r 4 + 32 * bit r 5 := by unfold bit; omega
theorem mask_ext {r r' : Nat} (h : r < 64) (h' : r' < 64) (e : ∀ v, v < 6 → bit r v = bit r' v) : r = r' := by
  rw [mask6 h, mask6 h', e 0 (by omega), e 1 (by omega), e 2 (by omega), e 3 (by omega), e 4 (by omega), e 5 (by omega)]
theorem cnt_grow {r r' : Nat} (h : r < 64) (h' : r' < 64) (e : ∀ v, v < 6 → bit r v ≤ bit r' v) (hne : r' ≠ r) : cnt r 6 + 1 ≤ cnt r' 6 := by
  have m1 := mask6 h
  have m2 := mask6 h'
  rw [cnt6, cnt6]
  have := e 0 (by omega); have := e 1 (by omega); have := e 2 (by omega); have := e 3 (by omega); have := e 4 (by omega); have := e 5 (by omega)
  omega
theorem bit_or (a b p : Nat) : bit (a ||| b) p = if bit a p = 1 ∨ bit b p = 1 then 1 else 0 := by
  rw [bit_tb, bit_tb, bit_tb, Nat.testBit_or]
  cases a.testBit p <;> cases b.testBit p <;> rfl
theorem bit_pow (k p : Nat) : bit (2 ^ k) p = if p = k then 1 else 0 := by
  rw [bit_tb, Nat.testBit_two_pow]
  by_cases h : k = p
  · subst h; simp
  · simp [h, Ne.symm h]
theorem or_lt64 {a b : Nat} (ha : a < 64) (hb : b < 64) : a ||| b < 64 := Nat.or_lt_two_pow (n := 6) ha hb
theorem pow_lt64 : ∀ v, v < 6 → 2 ^ v < 64 := by decide +kernel
/-- one pair of a pass -/
def ps (g r p : Nat) : Nat := if bit g p = 1 ∧ r &&& (2 ^ lo p ||| 2 ^ hi p) ≠ 0 then r ||| (2 ^ lo p ||| 2 ^ hi p) else r
def pas (g r : Nat) : Nat → Nat
  | 0 => r
  | p + 1 => ps g (pas g r p) p
theorem ends_lt {p : Nat} (hp : p < 15) : 2 ^ lo p ||| 2 ^ hi p < 64 := or_lt64 (pow_lt64 _ (by have := lohi p hp; omega)) (pow_lt64 _ (by have := lohi p hp; omega))
theorem bit_ends (p v : Nat) : bit (2 ^ lo p ||| 2 ^ hi p) v = if v = lo p ∨ v = hi p then 1 else 0 := by
  rw [bit_or, bit_pow, bit_pow]
  by_cases h1 : v = lo p <;> by_cases h2 : v = hi p <;> simp [h1, h2]
theorem and_ends {r p : Nat} (hr : r < 64) (hp : p < 15) : r &&& (2 ^ lo p ||| 2 ^ hi p) ≠ 0 ↔ bit r (lo p) = 1 ∨ bit r (hi p) = 1 := by
  have hl := lohi p hp
  have lt : r &&& (2 ^ lo p ||| 2 ^ hi p) < 64 := Nat.lt_of_le_of_lt Nat.and_le_left hr
  constructor
  · intro h
    apply Classical.byContradiction
    intro hn
    apply h
    refine mask_ext lt (by omega) (fun v hv => ?_)
    rw [bit_and, bit_ends]
    have z : bit 0 v = 0 := by unfold bit; simp
    rw [z]
    by_cases h1 : v = lo p
    · subst h1; rcases bit_01 r (lo p) with e | e
      · rw [e, Nat.zero_mul]
      · exact absurd (Or.inl e) hn
    · by_cases h2 : v = hi p
      · subst h2; rcases bit_01 r (hi p) with e | e
        · rw [e, Nat.zero_mul]
        · exact absurd (Or.inr e) hn
      · rw [if_neg (by omega), Nat.mul_zero]
  · intro h hz
    have z : ∀ v, bit (r &&& (2 ^ lo p ||| 2 ^ hi p)) v = 0 := fun v => by rw [hz]; unfold bit; simp
    rcases h with h | h
    · have := z (lo p); rw [bit_and, bit_ends, h, if_pos (Or.inl rfl)] at this; omega
    · have := z (hi p); rw [bit_and, bit_ends, h, if_pos (Or.inr rfl)] at this; omega
theorem ps_lt {g r p : Nat} (hr : r < 64) (hp : p < 15) : ps g r p < 64 := by unfold ps; split; exact or_lt64 hr (ends_lt hp); exact hr
theorem pas_lt {g r : Nat} (hr : r < 64) : ∀ p, p ≤ 15 → pas g r p < 64 := by
  intro p
  induction p with
  | zero => intro _; exact hr
  | succ p ih => intro hp; exact ps_lt (ih (by omega)) (by omega)
theorem ps_sup (g r p v : Nat) : bit r v ≤ bit (ps g r p) v := by
  unfold ps
  split
  · rw [bit_or]
    rcases bit_01 r v with e | e
    · rw [e]; exact Nat.zero_le _
    · rw [e, if_pos (Or.inl rfl)]; exact Nat.le_refl _
  · exact Nat.le_refl _
theorem pas_sup (g r v : Nat) : ∀ p k, bit (pas g r p) v ≤ bit (pas g r (p + k)) v := by
  intro p k
  induction k with
  | zero => exact Nat.le_refl _
  | succ k ih => exact Nat.le_trans ih (ps_sup g _ (p + k) v)
theorem pas_fix {g r : Nat} (hr : r < 64) (h : pas g r 15 = r) : cl g 15 (fun v => bit r v = 1) := by
  have e : ∀ p, p ≤ 15 → pas g r p = r := by
    intro p hp
    refine mask_ext (pas_lt hr p hp) hr (fun v _ => ?_)
    have h1 := pas_sup g r v 0 p
    have h2 := pas_sup g r v p (15 - p)
    rw [show p + (15 - p) = 15 by omega, h] at h2
    rw [Nat.zero_add] at h1
    exact Nat.le_antisymm h2 h1
  intro q hq hb
  have h1 : ps g r q = r := by
    have := e (q + 1) (by omega)
    show ps g r q = r
    rw [show pas g r (q + 1) = ps g (pas g r q) q from rfl, e q (by omega)] at this
    exact this
  have key : bit r (lo q) = 1 ∨ bit r (hi q) = 1 → bit r (lo q) = 1 ∧ bit r (hi q) = 1 := by
    intro k
    unfold ps at h1
    rw [if_pos ⟨hb, (and_ends hr hq).mpr k⟩] at h1
    constructor
    · rw [← h1, bit_or, bit_ends, if_pos (Or.inl rfl)]; simp
    · rw [← h1, bit_or, bit_ends, if_pos (Or.inr rfl)]; simp
  exact ⟨fun k => (key (Or.inl k)).2, fun k => (key (Or.inr k)).1⟩
theorem pas_in {g r : Nat} {S : Nat → Prop} (hr : r < 64) (hS : cl g 15 S) (h : ∀ v, bit r v = 1 → S v) : ∀ p, p ≤ 15 → ∀ v, bit (pas g r p) v = 1 → S v := by
  intro p
  induction p with
  | zero => intro _; exact h
  | succ p ih =>
    intro hp v hv
    have ih' := ih (by omega)
    rw [show pas g r (p + 1) = ps g (pas g r p) p from rfl] at hv
    unfold ps at hv
    split at hv
    · rename_i c
      rw [bit_or, bit_ends] at hv
      by_cases h1 : bit (pas g r p) v = 1
      · exact ih' v h1
      · by_cases h2 : v = lo p ∨ v = hi p
        · have hxy := hS p (by omega) c.1
          have := (and_ends (pas_lt hr p (by omega)) (by omega)).mp c.2
          rcases this with k | k
          · have := ih' _ k
            rcases h2 with rfl | rfl
            · exact this
            · exact hxy.mp this
          · have := ih' _ k
            rcases h2 with rfl | rfl
            · exact hxy.mpr this
            · exact this
        · rw [if_neg h2] at hv; simp [h1] at hv
    · exact ih' v hv
theorem s_hang32 {g t r st : Nat} {f_lo f_hi : Nat → Int32} {post : Int32 → Prop} {k11 : Int32 → Int32 → Int32 → Int32 → Int32 → Prop} {x5 : Int32} (hg : g < 2 ^ 31) (hr : r < 64) (hst : st < 100) (hlo : ∀ p, p < 15 → f_lo p = nI (lo p)) (hhi : ∀ p, p < 15 → f_hi p = nI (hi p))
    (h : k11 (nI g) (nI t) (nI (pas g r 15)) x5 (nI (st + 1))) : ∃ n, b_X1_hangTogether_32 f_lo f_hi post k11 n (nI g) (nI t) (nI r) x5 (nI st) (nI 0) := by
  refine lp0 (fun n p => b_X1_hangTogether_32 f_lo f_hi post k11 n (nI g) (nI t) (nI (pas g r p)) x5 (nI st) (nI p)) 0 15 (by omega) (fun n => c_le (a := 15) (b := 15) (by omega) (by omega) (fun _ => ?_) (fun q => by omega)) (fun n p _ hp ih => c_le (a := 15) (by omega) (by omega) (fun q => by omega) (fun _ => ⟨vp_in_nI hp (by omega), vp_in_nI hp (by omega), fun z hz => ?_⟩))
  · rw [nI_1]; exact h
  · have hl := lohi p hp
    have lt := pas_lt (g := g) hr p (by omega)
    rw [nI_clamp (by omega), hlo p hp, hhi p hp, nb_one _ (by omega), nb_one _ (by omega), nx_or] at hz
    subst hz
    have el := ends_lt hp
    rw [nb_bit hg (by omega), nx_and, nx_or]
    have fin : ∀ v, ps g (pas g r p) p = v → b_X1_hangTogether_32 f_lo f_hi post k11 n (nI g) (nI t) (nI v) x5 (nI st) (nI p + 1) := by
      intro v hv
      subst hv
      rw [nI_1]
      exact ih
    have al : pas g r p &&& (2 ^ lo p ||| 2 ^ hi p) ≤ pas g r p := Nat.and_le_left
    refine c01 (bit_01 g p) (fun e => fin _ (by unfold ps; rw [if_neg (fun q => by omega)])) (fun e => ?_)
    exact c_eq (b := 0) (by omega) (by omega) (fun q => fin _ (by unfold ps; rw [if_neg (fun k => k.2 q)])) (fun q => fin _ (by unfold ps; rw [if_pos ⟨e, q⟩]))
theorem s_hangTogether {g a t : Nat} {f_lo f_hi : Nat → Int32} {post : Int32 → Prop} (hg : g < 2 ^ 31) (ha : a < 6) (ht : t < 6) (hlo : ∀ p, p < 15 → f_lo p = nI (lo p)) (hhi : ∀ p, p < 15 → f_hi p = nI (hi p))
    (h : post (nI (if rp g 15 a = rp g 15 t then 1 else 0))) : wp_X1_hangTogether (nI g) (nI a) (nI t) f_lo f_hi post := by
  -- the end: a set that is closed, or full
  have fin : ∀ r, r < 64 → bit r a = 1 → (∀ v, bit r v = 1 → rp g 15 v = rp g 15 a) → (cl g 15 (fun v => bit r v = 1) ∨ 6 ≤ cnt r 6) → b_X1_hangTogether_96 f_lo f_hi post (nI t) (nI r) := by
    intro r hr h1 h2 h3
    have iff : bit r t = 1 ↔ rp g 15 a = rp g 15 t := by
      constructor
      · intro q; exact (h2 t q).symm
      · intro q
        rcases h3 with h3 | h3
        · have k1 := (rp_cl h3 a).mp h1
          rw [q] at k1
          exact (rp_cl h3 t).mpr k1
        · rw [cnt6] at h3
          have := bit_lt r 0; have := bit_lt r 1; have := bit_lt r 2; have := bit_lt r 3; have := bit_lt r 4; have := bit_lt r 5
          rcases (show t = 0 ∨ t = 1 ∨ t = 2 ∨ t = 3 ∨ t = 4 ∨ t = 5 by omega) with rfl | rfl | rfl | rfl | rfl | rfl <;> omega
    unfold b_X1_hangTogether_96
    rw [nb_bit (by omega) (by omega)]
    refine c01 (bit_01 r t) (fun e => ?_) (fun e => ?_)
    · rw [if_neg (fun q => by have := iff.mpr q; omega)] at h; exact h
    · rw [if_pos (iff.mp e)] at h; exact h
  have main : ∀ k st r b, st + k = 7 → r < 64 → b < 64 → bit r a = 1 → (∀ v, bit r v = 1 → rp g 15 v = rp g 15 a) → ((r = b ∧ cl g 15 (fun v => bit r v = 1)) ∨ (r ≠ b ∧ st ≤ cnt r 6)) → b_X1_hangTogether_11 f_lo f_hi post (k + 1) (nI g) (nI t) (nI r) (nI b) (nI st) := by
    intro k
    induction k with
    | zero =>
      intro st r b hk hr hb h1 h2 h3
      refine c_le (a := 6) (by omega) (by omega) (fun _ => fin r hr h1 h2 ?_) (fun q => by omega)
      rcases h3 with h3 | h3
      · exact Or.inl h3.2
      · exact Or.inr (by omega)
    | succ k ih =>
      intro st r b hk hr hb h1 h2 h3
      refine c_le (a := 6) (by omega) (by omega) (fun q => fin r hr h1 h2 ?_) (fun q => c_eq (by omega) (by omega) (fun e => fin r hr h1 h2 ?_) (fun e => ?_))
      · rcases h3 with h3 | h3
        · exact Or.inl h3.2
        · exact Or.inr (by omega)
      · rcases h3 with h3 | h3
        · exact Or.inl h3.2
        · exact absurd e h3.1
      · have h3' : st ≤ cnt r 6 := by
          rcases h3 with h3 | h3
          · exact absurd h3.1 e
          · exact h3.2
        refine s_hang32 hg hr (by omega) hlo hhi (ih (st + 1) (pas g r 15) r (by omega) (pas_lt hr 15 (by omega)) hr ?_ ?_ ?_)
        · have := pas_sup g r a 0 15
          have := bit_lt (pas g r 15) a
          rw [show pas g r 0 = r from rfl, Nat.zero_add] at *
          omega
        · exact pas_in hr (rp_class g 15 a) h2 15 (by omega)
        · by_cases he : pas g r 15 = r
          · left
            refine ⟨he, ?_⟩
            rw [he]
            exact pas_fix hr he
          · right
            refine ⟨he, ?_⟩
            have := cnt_grow hr (pas_lt hr 15 (Nat.le_refl _)) (fun v _ => by have := pas_sup g r v 0 15; rwa [Nat.zero_add] at this) he
            omega
  refine ⟨7, ?_⟩
  rw [nb_one _ (by omega)]
  refine main 6 1 (2 ^ a) 0 (by omega) (pow_lt64 a ha) (by omega) (by rw [bit_pow, if_pos rfl]) (fun v hv => ?_) (Or.inr ⟨?_, ?_⟩)
  · rw [bit_pow] at hv
    by_cases e : v = a
    · rw [e]
    · rw [if_neg e] at hv; omega
  · have := Nat.two_pow_pos a; omega
  · exact (show ∀ a, a < 6 → 1 ≤ cnt (2 ^ a) 6 by decide +kernel) a ha
/-- the reference's flood: c runs over the neighbours of b -/
def nbr (g b acc : Nat) : Nat → Nat
  | 0 => acc
  | c + 1 => if hs g b c = 1 then nbr g b acc c ||| 2 ^ c else nbr g b acc c
def fld (n g r acc : Nat) : Nat → Nat
  | 0 => acc
  | b + 1 => if bit r b = 1 then nbr g b (fld n g r acc b) n else fld n g r acc b
theorem nbr_lt {g b acc : Nat} (h : acc < 64) : ∀ c, c ≤ 6 → nbr g b acc c < 64 := by
  intro c
  induction c with
  | zero => intro _; exact h
  | succ c ih => intro hc; simp only [nbr]; split; exact or_lt64 (ih (by omega)) (pow_lt64 c (by omega)); exact ih (by omega)
theorem fld_lt {n g r acc : Nat} (hn : n ≤ 6) (h : acc < 64) : ∀ b, fld n g r acc b < 64 := by
  intro b
  induction b with
  | zero => exact h
  | succ b ih => simp only [fld]; split; exact nbr_lt ih n hn; exact ih
theorem nbr_bit (g b acc v : Nat) : ∀ c, bit (nbr g b acc c) v = 1 ↔ bit acc v = 1 ∨ (v < c ∧ hs g b v = 1) := by
  intro c
  induction c with
  | zero => simp [nbr]
  | succ c ih =>
    simp only [nbr]
    split
    · rename_i e
      rw [bit_or, bit_pow]
      by_cases h1 : v = c
      · subst h1; simp [e]
      · rw [if_neg h1]
        constructor
        · intro q
          split at q
          · rename_i k
            rcases k with k | k
            · rcases ih.mp k with k | k
              · exact Or.inl k
              · exact Or.inr ⟨by omega, k.2⟩
            · omega
          · omega
        · intro q
          rw [if_pos]
          left
          rw [ih]
          rcases q with q | q
          · exact Or.inl q
          · exact Or.inr ⟨by omega, q.2⟩
    · rename_i e
      rw [ih]
      constructor
      · intro q
        rcases q with q | q
        · exact Or.inl q
        · exact Or.inr ⟨by omega, q.2⟩
      · intro q
        rcases q with q | q
        · exact Or.inl q
        · refine Or.inr ⟨?_, q.2⟩
          by_cases h1 : v = c
          · subst h1; exact absurd q.2 e
          · omega
theorem fld_bit (n g r acc v : Nat) : ∀ b, bit (fld n g r acc b) v = 1 ↔ bit acc v = 1 ∨ (v < n ∧ ∃ w, w < b ∧ bit r w = 1 ∧ hs g w v = 1) := by
  intro b
  induction b with
  | zero => simp [fld]
  | succ b ih =>
    simp only [fld]
    split
    · rename_i e
      rw [nbr_bit, ih]
      constructor
      · intro q
        rcases q with (q | ⟨q1, w, q2, q3⟩) | ⟨q1, q2⟩
        · exact Or.inl q
        · exact Or.inr ⟨q1, w, by omega, q3⟩
        · exact Or.inr ⟨q1, b, by omega, e, q2⟩
      · intro q
        rcases q with q | ⟨q1, w, q2, q3, q4⟩
        · exact Or.inl (Or.inl q)
        · by_cases h : w = b
          · subst h; exact Or.inr ⟨q1, q4⟩
          · exact Or.inl (Or.inr ⟨q1, w, by omega, q3, q4⟩)
    · rename_i e
      rw [ih]
      constructor
      · intro q
        rcases q with q | ⟨q1, w, q2, q3⟩
        · exact Or.inl q
        · exact Or.inr ⟨q1, w, by omega, q3⟩
      · intro q
        rcases q with q | ⟨q1, w, q2, q3, q4⟩
        · exact Or.inl q
        · refine Or.inr ⟨q1, w, ?_, q3, q4⟩
          by_cases h : w = b
          · subst h; exact absurd q3 e
          · omega
theorem pix_lohi : ∀ a, a < 6 → ∀ b, b < 6 → a ≠ b → pix a b < 15 ∧ pix a b = pix b a ∧ ((lo (pix a b) = a ∧ hi (pix a b) = b) ∨ (lo (pix a b) = b ∧ hi (pix a b) = a)) := by decide +kernel
theorem hs_edge {g a b : Nat} (h : hs g a b = 1) : a ≠ b ∧ bit g (pix a b) = 1 := by
  unfold hs at h
  split at h
  · omega
  · rename_i e; exact ⟨e, h⟩
theorem edge_rp {g a b : Nat} (ha : a < 6) (hb : b < 6) (h : hs g a b = 1) : rp g 15 a = rp g 15 b := by
  obtain ⟨h1, h2⟩ := hs_edge h
  obtain ⟨k1, k2, k3⟩ := pix_lohi a ha b hb h1
  have := rp_edge (g := g) (p := 15) (pix a b) k1 h2
  rcases k3 with ⟨e1, e2⟩ | ⟨e1, e2⟩
  · rw [e1, e2] at this; exact this
  · rw [e1, e2] at this; exact this.symm
/-- a graph of n nodes -/
def gr (n g : Nat) : Prop := g < 2 ^ (n * (n - 1) / 2)
theorem bit_big {g p k : Nat} (h : g < 2 ^ k) (hp : k ≤ p) : bit g p = 0 := by
  unfold bit
  rw [Nat.div_eq_of_lt (Nat.lt_of_lt_of_le h (Nat.pow_le_pow_right (by decide) hp))]
theorem hi_lt : ∀ n, n < 7 → ∀ q, q < n * (n - 1) / 2 → hi q < n ∧ q < 15 := by decide +kernel
theorem gr_hi {n g : Nat} (hn : n ≤ 6) (hg : gr n g) : ∀ q, bit g q = 1 → hi q < n ∧ q < 15 := by
  intro q hq
  refine hi_lt n (by omega) q ?_
  apply Classical.byContradiction
  intro c
  have := bit_big hg (p := q) (by omega)
  omega
theorem gr_lt {n g : Nat} (hn : n ≤ 6) (hg : gr n g) : g < 32768 := by
  have : ∀ n, n < 7 → 2 ^ (n * (n - 1) / 2) ≤ 32768 := by decide +kernel
  exact Nat.lt_of_lt_of_le hg (this n (by omega))
theorem s_par63 {n g r b acc : Nat} {post : Int32 → Prop} {k7 : Int32 → Int32 → Int32 → Int32 → Prop} {k37 : Int32 → Int32 → Int32 → Int32 → Int32 → Int32 → Prop} {k51 : Int32 → Int32 → Int32 → Int32 → Int32 → Int32 → Int32 → Prop} {x2 x3 x4 : Int32} (hn : n ≤ 6) (hg : g < 2 ^ 31) (hr : r < 64) (hb : b < n)
    (h : k51 (nI g) x2 x3 x4 (nI (if bit r b = 1 then nbr g b acc n else acc)) (nI r) (nI (b + 1))) : ∃ k, b_X7_partsOf_63 (nI n) post k7 k37 k51 k (nI g) x2 x3 x4 (nI acc) (nI r) (nI b) (nI 0) := by
  rcases bit_01 r b with e | e
  · rw [if_neg (by omega)] at h
    refine ⟨1, c_le (by omega) (by omega) (fun q => by omega) (fun _ => ?_)⟩
    rw [nb_bit (by omega) (by omega)]
    refine c_eq (b := 1) (by omega) (by omega) (fun q => by omega) (fun _ => ?_)
    show k51 (nI g) x2 x3 x4 (nI acc) (nI r) (nI b + 1)
    rw [nI_1]
    exact h
  · rw [if_pos e] at h
    refine lp0 (fun k c => b_X7_partsOf_63 (nI n) post k7 k37 k51 k (nI g) x2 x3 x4 (nI (nbr g b acc c)) (nI r) (nI b) (nI c)) 0 n (by omega) (fun k => c_le (by omega) (by omega) (fun _ => ?_) (fun q => by omega)) (fun k c _ hc ih => c_le (by omega) (by omega) (fun q => by omega) (fun _ => ?_))
    · show k51 (nI g) x2 x3 x4 _ (nI r) (nI b + 1)
      rw [nI_1]
      exact h
    · rw [nb_bit (by omega) (by omega)]
      have fin : ∀ w, nbr g b acc (c + 1) = nbr g b acc c ||| w → b_X7_partsOf_63 (nI n) post k7 k37 k51 k (nI g) x2 x3 x4 (nI (nbr g b acc c) ||| nI w) (nI r) (nI b) (nI c + 1) := by
        intro w hw
        rw [nx_or, ← hw, nI_1]
        exact ih
      refine c_eq (b := 1) (by omega) (by omega) (fun _ => s_has hg (by omega) (by omega) (c01 (hs_01 g b c) (fun e1 => fin 0 ?_) (fun e1 => ?_))) (fun q => by omega)
      · simp only [nbr]; rw [if_neg (by omega), Nat.or_zero]
      · rw [nb_one _ (by omega)]
        refine fin _ ?_
        simp only [nbr]; rw [if_pos e1]
theorem s_par51 {n g r acc : Nat} {post : Int32 → Prop} {k7 : Int32 → Int32 → Int32 → Int32 → Prop} {k37 : Int32 → Int32 → Int32 → Int32 → Int32 → Int32 → Prop} {x2 x3 x4 : Int32} (hn : n ≤ 6) (hg : g < 2 ^ 31) (hr : r < 64)
    (h : k37 (nI g) x2 x3 x4 (nI (fld n g r acc n)) (nI r)) : ∃ k, b_X7_partsOf_51 (nI n) post k7 k37 k (nI g) x2 x3 x4 (nI acc) (nI r) (nI 0) := by
  refine lp0 (fun k b => b_X7_partsOf_51 (nI n) post k7 k37 k (nI g) x2 x3 x4 (nI (fld n g r acc b)) (nI r) (nI b)) 0 n (by omega) (fun k => c_le (by omega) (by omega) (fun _ => h) (fun q => by omega)) (fun k b _ hb ih => c_le (by omega) (by omega) (fun q => by omega) (fun _ => s_par63 hn hg hr hb ih))
theorem fld_fix {n g r : Nat} (hn : n ≤ 6) (hg : gr n g) (h : fld n g r r n = r) : cl g 15 (fun v => bit r v = 1) := by
  intro q hq hb
  obtain ⟨h1, h2⟩ := gr_hi hn hg q hb
  obtain ⟨l1, l2, l3⟩ := lohi q hq
  obtain ⟨p1, p2, p3⟩ := pix_lohi (lo q) (by omega) (hi q) l2 (by omega)
  have e1 : hs g (lo q) (hi q) = 1 := by unfold hs; rw [if_neg (by omega), l3]; exact hb
  have e2 : hs g (hi q) (lo q) = 1 := by unfold hs; rw [if_neg (by omega), ← p2, l3]; exact hb
  constructor
  · intro k
    have : bit (fld n g r r n) (hi q) = 1 := (fld_bit n g r r (hi q) n).mpr (Or.inr ⟨h1, lo q, by omega, k, e1⟩)
    rw [h] at this
    exact this
  · intro k
    have : bit (fld n g r r n) (lo q) = 1 := (fld_bit n g r r (lo q) n).mpr (Or.inr ⟨by omega, hi q, h1, k, e2⟩)
    rw [h] at this
    exact this
theorem s_partsOf {n g : Nat} (hn : n ≤ 6) (hg : gr n g) {post : Int32 → Prop} (h : post (nI (fx n g 15))) : wp_X7_partsOf (nI g) (nI n) post := by
  have hg31 : g < 2 ^ 31 := by have := gr_lt hn hg; omega
  refine pk_loop (σ := Nat) (fun k a seen => b_X7_partsOf_7 (nI n) post k (nI g) (nI seen) (nI (fx a g 15)) (nI a)) (fun a seen => seen < 64 ∧ ∀ v, v < n → (bit seen v = 1 ↔ rp g 15 v < a)) n 0 0 (by omega) ⟨by omega, fun v _ => by constructor; intro q; unfold bit at q; simp at q; intro q; omega⟩ ?_ ?_
  · intro k seen _
    exact c_le (by omega) (by omega) (fun _ => h) (fun q => by omega)
  · intro k a seen ha ⟨hs1, hs2⟩ ih
    refine c_le (by omega) (by omega) (fun q => by omega) (fun _ => ?_)
    rw [nb_bit (by omega) (by omega)]
    refine c01 (bit_01 seen a) (fun e => ?_) (fun e => ?_)
    · -- a begins a part
      have hra : rp g 15 a = a := by
        have h1 : ¬ rp g 15 a < a := fun q => by have := (hs2 a ha).mpr q; omega
        have := rp_le g 15 a
        omega
      have hfx : nI (fx a g 15) + 1 = nI (fx (a + 1) g 15) := by
        rw [nI_1]
        show nI (fx a g 15 + 1) = nI (fx a g 15 + (if rp g 15 a = a then 1 else 0))
        rw [if_pos hra]
      have fin : ∀ r, r < 64 → (∀ v, v < n → (bit r v = 1 ↔ rp g 15 v = rp g 15 a)) → b_X7_partsOf_7 (nI n) post k (nI g) (nI seen ||| nI r) (nI (fx (a + 1) g 15)) (nI a + 1) := by
        intro r hr h2
        rw [nx_or, nI_1]
        refine ih _ ⟨or_lt64 hs1 hr, fun v hv => ?_⟩
        rw [bit_or]
        have q1 := hs2 v hv
        have q2 := h2 v hv
        rw [hra] at q2
        constructor
        · intro q
          split at q
          · rename_i c
            rcases c with c | c
            · have := q1.mp c; omega
            · have := q2.mp c; omega
          · omega
        · intro q
          rw [if_pos]
          by_cases c : rp g 15 v < a
          · exact Or.inl (q1.mpr c)
          · exact Or.inr (q2.mpr (by omega))
      have main : ∀ j r b, r < 64 → b < 64 → bit r a = 1 → (∀ v, bit r v = 1 → v < n ∧ rp g 15 v = rp g 15 a) → ((r = b ∧ cl g 15 (fun v => bit r v = 1)) ∨ (r ≠ b ∧ 7 ≤ cnt r 6 + j)) → b_X7_partsOf_37 (nI n) post (b_X7_partsOf_7 (nI n) post k) (j + 1) (nI g) (nI seen) (nI (fx (a + 1) g 15)) (nI a) (nI r) (nI b) := by
        intro j
        induction j with
        | zero =>
          intro r b hr hb h1 h2 h3
          have := cnt_le r 6
          refine c_eq (by omega) (by omega) (fun q => fin r hr (fun v hv => ⟨fun c => (h2 v c).2, fun c => ?_⟩)) (fun q => ?_)
          · rcases h3 with h3 | h3
            · have k1 := (rp_cl h3.2 a).mp h1
              rw [← c] at k1
              exact (rp_cl h3.2 v).mpr k1
            · omega
          · rcases h3 with h3 | h3
            · exact absurd h3.1 q
            · omega
        | succ j ihj =>
          intro r b hr hb h1 h2 h3
          refine c_eq (by omega) (by omega) (fun q => fin r hr (fun v hv => ⟨fun c => (h2 v c).2, fun c => ?_⟩)) (fun q => ?_)
          · rcases h3 with h3 | h3
            · have k1 := (rp_cl h3.2 a).mp h1
              rw [← c] at k1
              exact (rp_cl h3.2 v).mpr k1
            · exact absurd q h3.1
          · have h3' : 7 ≤ cnt r 6 + (j + 1) := by
              rcases h3 with h3 | h3
              · exact absurd h3.1 q
              · exact h3.2
            have lt := fld_lt (n := n) (g := g) (r := r) hn hr n
            have sup : ∀ v, bit r v ≤ bit (fld n g r r n) v := by
              intro v
              rcases bit_01 r v with e | e
              · omega
              · have := (fld_bit n g r r v n).mpr (Or.inl e); omega
            refine s_par51 hn hg31 hr (ihj (fld n g r r n) r lt hr ?_ ?_ ?_)
            · have := sup a; have := bit_lt (fld n g r r n) a; omega
            · intro v hv
              rcases (fld_bit n g r r v n).mp hv with c | ⟨c1, w, c2, c3, c4⟩
              · exact h2 v c
              · refine ⟨c1, ?_⟩
                rw [← edge_rp (by omega) (by omega) c4]
                exact (h2 w c3).2
            · by_cases he : fld n g r r n = r
              · left
                refine ⟨he, ?_⟩
                rw [he]
                exact fld_fix hn hg he
              · right
                refine ⟨he, ?_⟩
                have := cnt_grow hr lt (fun v _ => sup v) he
                omega
      rw [hfx, nb_one _ (by omega)]
      refine ⟨8, main 7 (2 ^ a) 0 (pow_lt64 a (by omega)) (by omega) (by rw [bit_pow, if_pos rfl]) (fun v hv => ?_) (Or.inr ⟨by have := Nat.two_pow_pos a; omega, by omega⟩)⟩
      rw [bit_pow] at hv
      by_cases c : v = a
      · subst c; exact ⟨ha, rfl⟩
      · rw [if_neg c] at hv; omega
    · -- a was seen
      have hra : rp g 15 a < a := (hs2 a ha).mp e
      show b_X7_partsOf_7 (nI n) post k (nI g) (nI seen) (nI (fx a g 15)) (nI a + 1)
      have hfx : fx (a + 1) g 15 = fx a g 15 := by
        show fx a g 15 + (if rp g 15 a = a then 1 else 0) = fx a g 15
        rw [if_neg (by omega)]
        rfl
      rw [nI_1, ← hfx]
      refine ih seen ⟨hs1, fun v hv => ?_⟩
      rw [hs2 v hv]
      constructor
      · intro q; omega
      · intro q
        apply Classical.byContradiction
        intro c
        have e1 : rp g 15 v = a := by omega
        have := rp_id g 15 v
        rw [e1] at this
        omega
