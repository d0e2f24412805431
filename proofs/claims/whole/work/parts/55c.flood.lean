/-- the reference's flood: c runs over the neighbours of b -/
def nbr (g b acc : Nat) : Nat → Nat
  | 0 => acc
  | c + 1 => if hs g b c = 1 then nbr g b acc c ||| 2 ^ c else nbr g b acc c
def fld (n g r acc : Nat) : Nat → Nat
  | 0 => acc
  | b + 1 => if bit r b = 1 then nbr g b (fld n g r acc b) n else fld n g r acc b
theorem nbr_lt {g b acc : Nat} (h : acc < 64) : ∀ c, c ≤ 6 → nbr g b acc c < 64 := by
  intro c
  induction c with
  | zero => intro _; exact h
  | succ c ih => intro hc; simp only [nbr]; split; exact or_lt64 (ih (by omega)) (pow_lt64 c (by omega)); exact ih (by omega)
theorem fld_lt {n g r acc : Nat} (hn : n ≤ 6) (h : acc < 64) : ∀ b, fld n g r acc b < 64 := by
  intro b
  induction b with
  | zero => exact h
  | succ b ih => simp only [fld]; split; exact nbr_lt ih n hn; exact ih
theorem nbr_bit (g b acc v : Nat) : ∀ c, bit (nbr g b acc c) v = 1 ↔ bit acc v = 1 ∨ (v < c ∧ hs g b v = 1) := by
  intro c
  induction c with
  | zero => simp [nbr]
  | succ c ih =>
    simp only [nbr]
    split
    · rename_i e
      rw [bit_or, bit_pow]
      by_cases h1 : v = c
      · subst h1; simp [e]
      · rw [if_neg h1]
        constructor
        · intro q
          split at q
          · rename_i k
            rcases k with k | k
            · rcases ih.mp k with k | k
              · exact Or.inl k
              · exact Or.inr ⟨by omega, k.2⟩
            · omega
          · omega
        · intro q
          rw [if_pos]
          left
          rw [ih]
          rcases q with q | q
          · exact Or.inl q
          · exact Or.inr ⟨by omega, q.2⟩
    · rename_i e
      rw [ih]
      constructor
      · intro q
        rcases q with q | q
        · exact Or.inl q
        · exact Or.inr ⟨by omega, q.2⟩
      · intro q
        rcases q with q | q
        · exact Or.inl q
        · refine Or.inr ⟨?_, q.2⟩
          by_cases h1 : v = c
          · subst h1; exact absurd q.2 e
          · omega
theorem fld_bit (n g r acc v : Nat) : ∀ b, bit (fld n g r acc b) v = 1 ↔ bit acc v = 1 ∨ (v < n ∧ ∃ w, w < b ∧ bit r w = 1 ∧ hs g w v = 1) := by
  intro b
  induction b with
  | zero => simp [fld]
  | succ b ih =>
    simp only [fld]
    split
    · rename_i e
      rw [nbr_bit, ih]
      constructor
      · intro q
        rcases q with (q | ⟨q1, w, q2, q3⟩) | ⟨q1, q2⟩
        · exact Or.inl q
        · exact Or.inr ⟨q1, w, by omega, q3⟩
        · exact Or.inr ⟨q1, b, by omega, e, q2⟩
      · intro q
        rcases q with q | ⟨q1, w, q2, q3, q4⟩
        · exact Or.inl (Or.inl q)
        · by_cases h : w = b
          · subst h; exact Or.inr ⟨q1, q4⟩
          · exact Or.inl (Or.inr ⟨q1, w, by omega, q3, q4⟩)
    · rename_i e
      rw [ih]
      constructor
      · intro q
        rcases q with q | ⟨q1, w, q2, q3⟩
        · exact Or.inl q
        · exact Or.inr ⟨q1, w, by omega, q3⟩
      · intro q
        rcases q with q | ⟨q1, w, q2, q3, q4⟩
        · exact Or.inl q
        · refine Or.inr ⟨q1, w, ?_, q3, q4⟩
          by_cases h : w = b
          · subst h; exact absurd q3 e
          · omega
theorem pix_lohi : ∀ a, a < 6 → ∀ b, b < 6 → a ≠ b → pix a b < 15 ∧ pix a b = pix b a ∧ ((lo (pix a b) = a ∧ hi (pix a b) = b) ∨ (lo (pix a b) = b ∧ hi (pix a b) = a)) := by decide +kernel
theorem hs_edge {g a b : Nat} (h : hs g a b = 1) : a ≠ b ∧ bit g (pix a b) = 1 := by
  unfold hs at h
  split at h
  · omega
  · rename_i e; exact ⟨e, h⟩
theorem edge_rp {g a b : Nat} (ha : a < 6) (hb : b < 6) (h : hs g a b = 1) : rp g 15 a = rp g 15 b := by
  obtain ⟨h1, h2⟩ := hs_edge h
  obtain ⟨k1, k2, k3⟩ := pix_lohi a ha b hb h1
  have := rp_edge (g := g) (p := 15) (pix a b) k1 h2
  rcases k3 with ⟨e1, e2⟩ | ⟨e1, e2⟩
  · rw [e1, e2] at this; exact this
  · rw [e1, e2] at this; exact this.symm
/-- a graph of n nodes -/
def gr (n g : Nat) : Prop := g < 2 ^ (n * (n - 1) / 2)
theorem bit_big {g p k : Nat} (h : g < 2 ^ k) (hp : k ≤ p) : bit g p = 0 := by
  unfold bit
  rw [Nat.div_eq_of_lt (Nat.lt_of_lt_of_le h (Nat.pow_le_pow_right (by decide) hp))]
theorem hi_lt : ∀ n, n < 7 → ∀ q, q < n * (n - 1) / 2 → hi q < n ∧ q < 15 := by decide +kernel
theorem gr_hi {n g : Nat} (hn : n ≤ 6) (hg : gr n g) : ∀ q, bit g q = 1 → hi q < n ∧ q < 15 := by
  intro q hq
  refine hi_lt n (by omega) q ?_
  apply Classical.byContradiction
  intro c
  have := bit_big hg (p := q) (by omega)
  omega
theorem gr_lt {n g : Nat} (hn : n ≤ 6) (hg : gr n g) : g < 32768 := by
  have : ∀ n, n < 7 → 2 ^ (n * (n - 1) / 2) ≤ 32768 := by decide +kernel
  exact Nat.lt_of_lt_of_le hg (this n (by omega))
theorem s_par63 {n g r b acc : Nat} {post : Int32 → Prop} {k7 : Int32 → Int32 → Int32 → Int32 → Prop} {k37 : Int32 → Int32 → Int32 → Int32 → Int32 → Int32 → Prop} {k51 : Int32 → Int32 → Int32 → Int32 → Int32 → Int32 → Int32 → Prop} {x2 x3 x4 : Int32} (hn : n ≤ 6) (hg : g < 2 ^ 31) (hr : r < 64) (hb : b < n)
    (h : k51 (nI g) x2 x3 x4 (nI (if bit r b = 1 then nbr g b acc n else acc)) (nI r) (nI (b + 1))) : ∃ k, b_X7_partsOf_63 (nI n) post k7 k37 k51 k (nI g) x2 x3 x4 (nI acc) (nI r) (nI b) (nI 0) := by
  rcases bit_01 r b with e | e
  · rw [if_neg (by omega)] at h
    refine ⟨1, c_le (by omega) (by omega) (fun q => by omega) (fun _ => ?_)⟩
    rw [nb_bit (by omega) (by omega)]
    refine c_eq (b := 1) (by omega) (by omega) (fun q => by omega) (fun _ => ?_)
    show k51 (nI g) x2 x3 x4 (nI acc) (nI r) (nI b + 1)
    rw [nI_1]
    exact h
  · rw [if_pos e] at h
    refine lp0 (fun k c => b_X7_partsOf_63 (nI n) post k7 k37 k51 k (nI g) x2 x3 x4 (nI (nbr g b acc c)) (nI r) (nI b) (nI c)) 0 n (by omega) (fun k => c_le (by omega) (by omega) (fun _ => ?_) (fun q => by omega)) (fun k c _ hc ih => c_le (by omega) (by omega) (fun q => by omega) (fun _ => ?_))
    · show k51 (nI g) x2 x3 x4 _ (nI r) (nI b + 1)
      rw [nI_1]
      exact h
    · rw [nb_bit (by omega) (by omega)]
      have fin : ∀ w, nbr g b acc (c + 1) = nbr g b acc c ||| w → b_X7_partsOf_63 (nI n) post k7 k37 k51 k (nI g) x2 x3 x4 (nI (nbr g b acc c) ||| nI w) (nI r) (nI b) (nI c + 1) := by
        intro w hw
        rw [nx_or, ← hw, nI_1]
        exact ih
      refine c_eq (b := 1) (by omega) (by omega) (fun _ => s_has hg (by omega) (by omega) (c01 (hs_01 g b c) (fun e1 => fin 0 ?_) (fun e1 => ?_))) (fun q => by omega)
      · simp only [nbr]; rw [if_neg (by omega), Nat.or_zero]
      · rw [nb_one _ (by omega)]
        refine fin _ ?_
        simp only [nbr]; rw [if_pos e1]
theorem s_par51 {n g r acc : Nat} {post : Int32 → Prop} {k7 : Int32 → Int32 → Int32 → Int32 → Prop} {k37 : Int32 → Int32 → Int32 → Int32 → Int32 → Int32 → Prop} {x2 x3 x4 : Int32} (hn : n ≤ 6) (hg : g < 2 ^ 31) (hr : r < 64)
    (h : k37 (nI g) x2 x3 x4 (nI (fld n g r acc n)) (nI r)) : ∃ k, b_X7_partsOf_51 (nI n) post k7 k37 k (nI g) x2 x3 x4 (nI acc) (nI r) (nI 0) := by
  refine lp0 (fun k b => b_X7_partsOf_51 (nI n) post k7 k37 k (nI g) x2 x3 x4 (nI (fld n g r acc b)) (nI r) (nI b)) 0 n (by omega) (fun k => c_le (by omega) (by omega) (fun _ => h) (fun q => by omega)) (fun k b _ hb ih => c_le (by omega) (by omega) (fun q => by omega) (fun _ => s_par63 hn hg hr hb ih))
theorem fld_fix {n g r : Nat} (hn : n ≤ 6) (hg : gr n g) (h : fld n g r r n = r) : cl g 15 (fun v => bit r v = 1) := by
  intro q hq hb
  obtain ⟨h1, h2⟩ := gr_hi hn hg q hb
  obtain ⟨l1, l2, l3⟩ := lohi q hq
  obtain ⟨p1, p2, p3⟩ := pix_lohi (lo q) (by omega) (hi q) l2 (by omega)
  have e1 : hs g (lo q) (hi q) = 1 := by unfold hs; rw [if_neg (by omega), l3]; exact hb
  have e2 : hs g (hi q) (lo q) = 1 := by unfold hs; rw [if_neg (by omega), ← p2, l3]; exact hb
  constructor
  · intro k
    have : bit (fld n g r r n) (hi q) = 1 := (fld_bit n g r r (hi q) n).mpr (Or.inr ⟨h1, lo q, by omega, k, e1⟩)
    rw [h] at this
    exact this
  · intro k
    have : bit (fld n g r r n) (lo q) = 1 := (fld_bit n g r r (lo q) n).mpr (Or.inr ⟨by omega, hi q, h1, k, e2⟩)
    rw [h] at this
    exact this
theorem s_partsOf {n g : Nat} (hn : n ≤ 6) (hg : gr n g) {post : Int32 → Prop} (h : post (nI (fx n g 15))) : wp_X7_partsOf (nI g) (nI n) post := by
  have hg31 : g < 2 ^ 31 := by have := gr_lt hn hg; omega
  refine pk_loop (σ := Nat) (fun k a seen => b_X7_partsOf_7 (nI n) post k (nI g) (nI seen) (nI (fx a g 15)) (nI a)) (fun a seen => seen < 64 ∧ ∀ v, v < n → (bit seen v = 1 ↔ rp g 15 v < a)) n 0 0 (by omega) ⟨by omega, fun v _ => by constructor; intro q; unfold bit at q; simp at q; intro q; omega⟩ ?_ ?_
  · intro k seen _
    exact c_le (by omega) (by omega) (fun _ => h) (fun q => by omega)
  · intro k a seen ha ⟨hs1, hs2⟩ ih
    refine c_le (by omega) (by omega) (fun q => by omega) (fun _ => ?_)
    rw [nb_bit (by omega) (by omega)]
    refine c01 (bit_01 seen a) (fun e => ?_) (fun e => ?_)
    · -- a begins a part
      have hra : rp g 15 a = a := by
        have h1 : ¬ rp g 15 a < a := fun q => by have := (hs2 a ha).mpr q; omega
        have := rp_le g 15 a
        omega
      have hfx : nI (fx a g 15) + 1 = nI (fx (a + 1) g 15) := by
        rw [nI_1]
        show nI (fx a g 15 + 1) = nI (fx a g 15 + (if rp g 15 a = a then 1 else 0))
        rw [if_pos hra]
      have fin : ∀ r, r < 64 → (∀ v, v < n → (bit r v = 1 ↔ rp g 15 v = rp g 15 a)) → b_X7_partsOf_7 (nI n) post k (nI g) (nI seen ||| nI r) (nI (fx (a + 1) g 15)) (nI a + 1) := by
        intro r hr h2
        rw [nx_or, nI_1]
        refine ih _ ⟨or_lt64 hs1 hr, fun v hv => ?_⟩
        rw [bit_or]
        have q1 := hs2 v hv
        have q2 := h2 v hv
        rw [hra] at q2
        constructor
        · intro q
          split at q
          · rename_i c
            rcases c with c | c
            · have := q1.mp c; omega
            · have := q2.mp c; omega
          · omega
        · intro q
          rw [if_pos]
          by_cases c : rp g 15 v < a
          · exact Or.inl (q1.mpr c)
          · exact Or.inr (q2.mpr (by omega))
      have main : ∀ j r b, r < 64 → b < 64 → bit r a = 1 → (∀ v, bit r v = 1 → v < n ∧ rp g 15 v = rp g 15 a) → ((r = b ∧ cl g 15 (fun v => bit r v = 1)) ∨ (r ≠ b ∧ 7 ≤ cnt r 6 + j)) → b_X7_partsOf_37 (nI n) post (b_X7_partsOf_7 (nI n) post k) (j + 1) (nI g) (nI seen) (nI (fx (a + 1) g 15)) (nI a) (nI r) (nI b) := by
        intro j
        induction j with
        | zero =>
          intro r b hr hb h1 h2 h3
          have := cnt_le r 6
          refine c_eq (by omega) (by omega) (fun q => fin r hr (fun v hv => ⟨fun c => (h2 v c).2, fun c => ?_⟩)) (fun q => ?_)
          · rcases h3 with h3 | h3
            · have k1 := (rp_cl h3.2 a).mp h1
              rw [← c] at k1
              exact (rp_cl h3.2 v).mpr k1
            · omega
          · rcases h3 with h3 | h3
            · exact absurd h3.1 q
            · omega
        | succ j ihj =>
          intro r b hr hb h1 h2 h3
          refine c_eq (by omega) (by omega) (fun q => fin r hr (fun v hv => ⟨fun c => (h2 v c).2, fun c => ?_⟩)) (fun q => ?_)
          · rcases h3 with h3 | h3
            · have k1 := (rp_cl h3.2 a).mp h1
              rw [← c] at k1
              exact (rp_cl h3.2 v).mpr k1
            · exact absurd q h3.1
          · have h3' : 7 ≤ cnt r 6 + (j + 1) := by
              rcases h3 with h3 | h3
              · exact absurd h3.1 q
              · exact h3.2
            have lt := fld_lt (n := n) (g := g) (r := r) hn hr n
            have sup : ∀ v, bit r v ≤ bit (fld n g r r n) v := by
              intro v
              rcases bit_01 r v with e | e
              · omega
              · have := (fld_bit n g r r v n).mpr (Or.inl e); omega
            refine s_par51 hn hg31 hr (ihj (fld n g r r n) r lt hr ?_ ?_ ?_)
            · have := sup a; have := bit_lt (fld n g r r n) a; omega
            · intro v hv
              rcases (fld_bit n g r r v n).mp hv with c | ⟨c1, w, c2, c3, c4⟩
              · exact h2 v c
              · refine ⟨c1, ?_⟩
                rw [← edge_rp (by omega) (by omega) c4]
                exact (h2 w c3).2
            · by_cases he : fld n g r r n = r
              · left
                refine ⟨he, ?_⟩
                rw [he]
                exact fld_fix hn hg he
              · right
                refine ⟨he, ?_⟩
                have := cnt_grow hr lt (fun v _ => sup v) he
                omega
      rw [hfx, nb_one _ (by omega)]
      refine ⟨8, main 7 (2 ^ a) 0 (pow_lt64 a (by omega)) (by omega) (by rw [bit_pow, if_pos rfl]) (fun v hv => ?_) (Or.inr ⟨by have := Nat.two_pow_pos a; omega, by omega⟩)⟩
      rw [bit_pow] at hv
      by_cases c : v = a
      · subst c; exact ⟨ha, rfl⟩
      · rw [if_neg c] at hv; omega
    · -- a was seen
      have hra : rp g 15 a < a := (hs2 a ha).mp e
      show b_X7_partsOf_7 (nI n) post k (nI g) (nI seen) (nI (fx a g 15)) (nI a + 1)
      have hfx : fx (a + 1) g 15 = fx a g 15 := by
        show fx a g 15 + (if rp g 15 a = a then 1 else 0) = fx a g 15
        rw [if_neg (by omega)]
        rfl
      rw [nI_1, ← hfx]
      refine ih seen ⟨hs1, fun v hv => ?_⟩
      rw [hs2 v hv]
      constructor
      · intro q; omega
      · intro q
        apply Classical.byContradiction
        intro c
        have e1 : rp g 15 v = a := by omega
        have := rp_id g 15 v
        rw [e1] at this
        omega
