/-! withEdge, measure, keptOf, look -/
theorem rp_congr {g g' : Nat} : ∀ k, (∀ q, q < k → bit g q = bit g' q) → ∀ v, rp g k v = rp g' k v := by
  intro k
  induction k with
  | zero => intro _ v; rfl
  | succ k ih =>
    intro h v
    have ih' := ih (fun q hq => h q (by omega))
    rw [rp_s, rp_s, h k (by omega), ih' v, ih' (lo k), ih' (hi k)]
theorem rp_top {g p : Nat} (hg : g < 2 ^ p) : ∀ k, ∀ v, rp g (p + k) v = rp g p v := by
  intro k
  induction k with
  | zero => intro v; rfl
  | succ k ih =>
    intro v
    show rp g (p + k + 1) v = rp g p v
    rw [rp_s, if_neg (by rw [bit_big hg (by omega)]; decide)]
    exact ih v
theorem sm_one (c y m : Nat) (hc : c < m) : sm (fun v => if v = c then y else 0) m = y := by
  induction m with
  | zero => omega
  | succ m ih =>
    simp only [sm]
    by_cases h : m = c
    · subst h
      rw [if_pos rfl, sm_zero (fun i hi => by rw [if_neg (by omega)]), Nat.zero_add]
    · rw [if_neg h, ih (by omega)]; rfl
theorem jn_add {g p : Nat} (hp : p < 15) (hg : g < 2 ^ p) : jn (g + 2 ^ p) 15 = jn g 15 + (if rp g 15 (lo p) = rp g 15 (hi p) then 0 else 1) := by
  rw [← sm_one p (if rp g 15 (lo p) = rp g 15 (hi p) then 0 else 1) 15 hp]
  unfold jn
  rw [sm_add]
  refine sm_congr (fun q hq => ?_)
  have top : ∀ v, rp g 15 v = rp g p v := fun v => by have := rp_top hg (15 - p) v; rwa [show p + (15 - p) = 15 by omega] at this
  rcases (show q < p ∨ q = p ∨ p < q by omega) with h | h | h
  · have e : ∀ v, rp (g + 2 ^ p) q v = rp g q v := rp_congr q (fun r hr => by rw [bit_add hg, if_neg (by omega)])
    rw [bit_add hg, if_neg (show ¬ q = p by omega), if_neg (show ¬ q = p by omega), e, e]
    rfl
  · subst h
    have e : ∀ v, rp (g + 2 ^ q) q v = rp g q v := rp_congr q (fun r hr => by rw [bit_add hg, if_neg (by omega)])
    rw [bit_add hg, if_pos rfl, if_pos rfl, e, e, top, top, bit_big hg (Nat.le_refl _)]
    by_cases c : rp g q (lo q) = rp g q (hi q)
    · rw [if_neg (fun z => z.2 c), if_neg (fun z => by omega), if_pos c]
    · rw [if_pos ⟨rfl, c⟩, if_neg (fun z => by omega), if_neg c]
  · rw [bit_add hg, if_neg (show ¬ q = p by omega), if_neg (show ¬ q = p by omega), bit_big hg (by omega), if_neg (fun z => by omega), if_neg (fun z => by omega)]
theorem nb_shl {n k : Nat} (hk : k < 32) (h : n * 2 ^ k < 2 ^ 32) : nI n <<< (nI k &&& 31) = nI (n * 2 ^ k) := pk_shlN _ k (s_l k hk) h
def TB (f_tw f_tr f_lo f_hi f_st : Nat → Int32) : Prop := (∀ p, p < 15 → f_lo p = nI (lo p)) ∧ (∀ p, p < 15 → f_hi p = nI (hi p)) ∧ (∀ v, v < 6 → f_st v = nI (star v)) ∧ T2 15 f_tw ∧ T3 15 f_tr
theorem ov_conn {g p : Nat} (hp : p < 15) (h : ov1 p g ≠ 0 ∨ ov2 p g ≠ 0) : rp g 15 (lo p) = rp g 15 (hi p) := by
  have hl := lohi p hp
  have pos : ∀ (f : Nat → Nat) n, sm f n ≠ 0 → ∃ i, i < n ∧ f i ≠ 0 := by
    intro f n
    induction n with
    | zero => intro q; exact absurd rfl q
    | succ n ih =>
      intro q
      by_cases e : f n = 0
      · simp only [sm] at q
        obtain ⟨i, h1, h2⟩ := ih (by omega)
        exact ⟨i, by omega, h2⟩
      · exact ⟨n, by omega, e⟩
  rcases h with h | h
  · obtain ⟨k, hk, q⟩ := pos _ 4 h
    obtain ⟨o1, o2, o3, o4⟩ := oth_ok p hp k hk
    have q1 : hs g (lo p) (oth p k) = 1 := by rcases hs_01 g (lo p) (oth p k) with e | e; exact absurd (by rw [e, Nat.zero_mul]) q; exact e
    have q2 : hs g (oth p k) (hi p) = 1 := by rcases hs_01 g (oth p k) (hi p) with e | e; exact absurd (by rw [e, Nat.mul_zero]) q; exact e
    exact (edge_rp (by omega) o1 q1).trans (edge_rp o1 (by omega) q2)
  · obtain ⟨k, hk, q⟩ := pos _ 4 h
    obtain ⟨j, hj, q⟩ := pos _ 3 q
    obtain ⟨o1, o2, o3, o4⟩ := oth_ok p hp k hk
    obtain ⟨t1, t2, t3, t4, t5⟩ := ot3_ok p hp k hk j hj
    have q1 : hs g (lo p) (oth p k) = 1 := by rcases hs_01 g (lo p) (oth p k) with e | e; exact absurd (by rw [e, Nat.zero_mul]) q; exact e
    have q2 : hs g (oth p k) (ot3 p (oth p k) j) = 1 := by rcases hs_01 g (oth p k) (ot3 p (oth p k) j) with e | e; exact absurd (by rw [e, Nat.zero_mul, Nat.mul_zero]) q; exact e
    have q3 : hs g (ot3 p (oth p k) j) (hi p) = 1 := by rcases hs_01 g (ot3 p (oth p k) j) (hi p) with e | e; exact absurd (by rw [e, Nat.mul_zero, Nat.mul_zero]) q; exact e
    exact (edge_rp (by omega) o1 q1).trans ((edge_rp o1 t1 q2).trans (edge_rp t1 (by omega) q3))
theorem enc_add {g p : Nat} (hp : p < 15) (hg : g < 2 ^ p) : enc (g + 2 ^ p) = enc g + 1 + ov1 p g * 2 ^ 4 + (dgr 6 g (lo p) + dgr 6 g (hi p)) * 2 ^ 9 + (if rp g 15 (lo p) = rp g 15 (hi p) then 0 else 1) * 2 ^ 15 + (max (dgr 6 g (lo p)) (dgr 6 g (hi p)) + 1 - mxd (dgr 6 g) 6) * 2 ^ 18 + ov2 p g * 2 ^ 21 + ((if dgr 6 g (lo p) = 0 then 1 else 0) + (if dgr 6 g (hi p) = 0 then 1 else 0)) * 2 ^ 27 := by
  unfold enc
  rw [cnt_add hp hg, tri_add hp hg, wed_add hp hg, jn_add hp hg, mxd_add hp hg, sq_add hp hg, non_add hp hg]
  generalize (if rp g 15 (lo p) = rp g 15 (hi p) then 0 else 1) = j
  generalize (if dgr 6 g (lo p) = 0 then 1 else 0) = l1
  generalize (if dgr 6 g (hi p) = 0 then 1 else 0) = l2
  generalize max (dgr 6 g (lo p)) (dgr 6 g (hi p)) + 1 = mx
  generalize mxd (dgr 6 g) 6 = M
  have e : max M mx = M + (mx - M) := by omega
  rw [e]
  generalize mx - M = ri
  generalize dgr 6 g (lo p) + dgr 6 g (hi p) = ds
  generalize cnt g 15 = x0
  generalize tri 6 g = x1
  generalize wed 6 g 6 = x2
  generalize jn g 15 = x3
  generalize sq 6 g = x5
  generalize non g = x6
  generalize ov1 p g = o1
  generalize ov2 p g = o2
  clear e hg hp
  omega
theorem rise_eq {da db M : Nat} (h1 : da ≤ 5) (h2 : db ≤ 5) (h3 : M ≤ 5) : (if (0 : Int32) < (((if nI da < nI db then nI db else nI da) + (1 : Int32)) - nI M) then (((if nI da < nI db then nI db else nI da) + (1 : Int32)) - nI M) else (0 : Int32)) = nI (max da db + 1 - M) := by
  have e1 : (if nI da < nI db then nI db else nI da) = nI (max da db) := by
    by_cases c : da < db
    · rw [if_pos ((nI_ltI (by omega) (by omega)).mpr c), Nat.max_eq_right (by omega)]
    · rw [if_neg (fun q => c ((nI_ltI (by omega) (by omega)).mp q)), Nat.max_eq_left (by omega)]
  rw [e1, nI_1]
  by_cases c : M ≤ max da db + 1
  · rw [pk_sub c]
    by_cases c2 : max da db + 1 - M = 0
    · rw [c2, if_neg (by decide)]; rfl
    · exact if_pos ((nI_ltI (a := 0) (b := max da db + 1 - M) (by omega) (by omega)).mpr (by omega))
  · have neg : nI (max da db + 1) - nI M < 0 := pk_sneg (by omega) (by omega)
    rw [if_neg (fun q => Int32.lt_irrefl (Int32.lt_trans q neg)), show max da db + 1 - M = 0 by omega]
    rfl
theorem shl_small {n k : Nat} (B : Nat) (hk : k < 32) (hn : n ≤ B) (hB : B * 2 ^ k < 2 ^ 32) : nI n <<< (nI k &&& 31) = nI (n * 2 ^ k) := nb_shl hk (Nat.lt_of_le_of_lt (Nat.mul_le_mul_right _ hn) hB)
theorem s_we194 {E o2 ri l j : Nat} {f_tw f_tr f_lo f_hi f_st : Nat → Int32} {post : Int32 → Prop} (h1 : j ≤ 1) (h2 : ri ≤ 6) (h3 : o2 ≤ 45) (h4 : l ≤ 2) (h : post (nI (E + j * 2 ^ 15 + ri * 2 ^ 18 + o2 * 2 ^ 21 + l * 2 ^ 27))) : b_X3_withEdge_194 f_tw f_tr f_lo f_hi f_st post (nI o2) (nI ri) (nI l) (nI j) (nI E) := by
  refine ⟨vp_in_nI (n := 3) (by omega) (by omega), vp_in_nI (n := 4) (by omega) (by omega), vp_in_nI (n := 5) (by omega) (by omega), vp_in_nI (n := 6) (by omega) (by omega), ?_⟩
  rw [show cSH (3 : Int32).toNatClampNeg = nI 15 from by decide, show cSH (4 : Int32).toNatClampNeg = nI 18 from by decide, show cSH (5 : Int32).toNatClampNeg = nI 21 from by decide, show cSH (6 : Int32).toNatClampNeg = nI 27 from by decide]
  rw [shl_small (k := 15) 1 (by decide) h1 (by decide), shl_small (k := 18) 6 (by decide) h2 (by decide), shl_small (k := 21) 45 (by decide) h3 (by decide), shl_small (k := 27) 2 (by decide) h4 (by decide), nI_add, nI_add, nI_add, nI_add]
  exact h
theorem s_we151 {E o1 o2 ri l1 l2 j da db : Nat} {f_tw f_tr f_lo f_hi f_st : Nat → Int32} {post : Int32 → Prop} (h1 : j ≤ 1) (h2 : ri ≤ 6) (h3 : o2 ≤ 45) (h4 : l1 + l2 ≤ 2) (h5 : o1 ≤ 20) (h6 : da + db ≤ 10) (h : post (nI (E + 1 + o1 * 2 ^ 4 + (da + db) * 2 ^ 9 + j * 2 ^ 15 + ri * 2 ^ 18 + o2 * 2 ^ 21 + (l1 + l2) * 2 ^ 27))) : b_X3_withEdge_151 f_tw f_tr f_lo f_hi f_st post (nI E) (nI da) (nI db) (nI o1) (nI o2) (nI j) (nI ri) (nI l2) (nI l1) := by
  refine ⟨vp_in_nI (n := 0) (by omega) (by omega), vp_in_nI (n := 1) (by omega) (by omega), vp_in_nI (n := 2) (by omega) (by omega), ?_⟩
  rw [show cSH (0 : Int32).toNatClampNeg = nI 0 from by decide, show cSH (1 : Int32).toNatClampNeg = nI 4 from by decide, show cSH (2 : Int32).toNatClampNeg = nI 9 from by decide, nI_add, nI_add]
  rw [show (1 : Int32) <<< (nI 0 &&& 31) = nI 1 from by decide, shl_small (k := 4) 20 (by decide) h5 (by decide), shl_small (k := 9) 10 (by decide) h6 (by decide), nI_add, nI_add, nI_add]
  have hj : j = 0 ∨ j = 1 := by clear h; omega
  rcases hj with rfl | rfl
  · exact ⟨fun _ => s_we194 (j := 0) h1 h2 h3 h4 h, fun c => absurd rfl c⟩
  · exact ⟨fun c => absurd c (by decide), fun _ => s_we194 (j := 1) h1 h2 h3 h4 h⟩
theorem s_we108 {E o1 o2 M j da db : Nat} {f_tw f_tr f_lo f_hi f_st : Nat → Int32} {post : Int32 → Prop} (hE : E < 2 ^ 30) (hEM : E / 2 ^ 18 % 2 ^ 3 = M) (h1 : j ≤ 1) (hd1 : da ≤ 5) (hd2 : db ≤ 5) (hM : M ≤ 5) (h3 : o2 ≤ 45) (h5 : o1 ≤ 20)
    (h : post (nI (E + 1 + o1 * 2 ^ 4 + (da + db) * 2 ^ 9 + j * 2 ^ 15 + (max da db + 1 - M) * 2 ^ 18 + o2 * 2 ^ 21 + ((if da = 0 then 1 else 0) + (if db = 0 then 1 else 0)) * 2 ^ 27))) : b_X3_withEdge_108 f_tw f_tr f_lo f_hi f_st post (nI E) (nI da) (nI db) (nI o1) (nI o2) (nI j) := by
  refine s_unpack (w := 4) (by decide) hE ?_
  rw [show shf 4 = 18 from rfl, show mbs 4 = 3 from rfl, hEM]
  clear hEM hE
  intro z hz
  rw [rise_eq hd1 hd2 hM] at hz
  have hri : max da db + 1 - M ≤ 6 := by clear h hz; omega
  subst hz
  have last : ∀ l1 l2, l1 = (if da = 0 then 1 else 0) → l2 = (if db = 0 then 1 else 0) → l1 + l2 ≤ 2 → b_X3_withEdge_151 f_tw f_tr f_lo f_hi f_st post (nI E) (nI da) (nI db) (nI o1) (nI o2) (nI j) (nI (max da db + 1 - M)) (nI l2) (nI l1) := by
    intro l1 l2 hl1 hl2 hl
    rw [← hl1, ← hl2] at h
    exact s_we151 h1 hri h3 hl h5 (by clear h; omega) h
  clear h
  refine c_eq (b := 0) (by omega) (by omega) (fun c => ?_) (fun c => ?_)
  · exact c_eq (b := 0) (by omega) (by omega) (fun c2 => last 1 1 (by rw [if_pos c]) (by rw [if_pos c2]) (by omega)) (fun c2 => last 1 0 (by rw [if_pos c]) (by rw [if_neg c2]) (by omega))
  · exact c_eq (b := 0) (by omega) (by omega) (fun c2 => last 0 1 (by rw [if_neg c]) (by rw [if_pos c2]) (by omega)) (fun c2 => last 0 0 (by rw [if_neg c]) (by rw [if_neg c2]) (by omega))
theorem s_withEdge {g p : Nat} {f_tw f_tr f_lo f_hi f_st : Nat → Int32} {post : Int32 → Prop} (hT : TB f_tw f_tr f_lo f_hi f_st) (hp : p < 15) (hg : g < 2 ^ p) (h : post (nI (enc (g + 2 ^ p)))) : wp_X3_withEdge (nI (enc g)) (nI g) (nI p) f_tw f_tr f_lo f_hi f_st post := by
  obtain ⟨hlo, hhi, hst, h2, h3⟩ := hT
  have hl := lohi p hp
  have hg31 : g < 2 ^ 31 := Nat.lt_trans hg (Nat.pow_lt_pow_right (by decide) (by omega))
  have b1 : ov1 p g ≤ 20 := by have := tri_lt (g + 2 ^ p); rw [tri_add hp hg] at this; omega
  have b2 : ov2 p g ≤ 45 := by have := sq_lt (g + 2 ^ p); rw [sq_add hp hg] at this; omega
  rw [enc_add hp hg] at h
  refine s_low hlo hp (s_degree hst (by omega) (s_high hhi hp (s_degree hst (by omega) (s_over1 hp h2 (s_over2 hp h3 ?_)))))
  have fin : ∀ j, j = (if rp g 15 (lo p) = rp g 15 (hi p) then 0 else 1) → j ≤ 1 → b_X3_withEdge_108 f_tw f_tr f_lo f_hi f_st post (nI (enc g)) (nI (dgr 6 g (lo p))) (nI (dgr 6 g (hi p))) (nI (ov1 p g)) (nI (ov2 p g)) (nI j) := by
    intro j hj hj1
    rw [← hj] at h
    exact s_we108 (enc_f g).1 (enc_f g).2.2.2.2.1 hj1 (dgr6_le (by omega)) (dgr6_le (by omega)) (mxd_lt g) b2 b1 h
  clear h
  refine c_eq (b := 0) (by omega) (by omega) (fun z1 => c_eq (b := 0) (by omega) (by omega) (fun z2 => ?_) (fun z2 => ?_)) (fun z1 => ?_)
  · refine s_low hlo hp (s_high hhi hp (s_hangTogether hg31 (by omega) (by omega) hlo hhi ?_))
    by_cases c : rp g 15 (lo p) = rp g 15 (hi p)
    · rw [if_pos c]
      exact c01 (v := 1) (Or.inr rfl) (fun e => by omega) (fun _ => fin 0 (by rw [if_pos c]) (by omega))
    · rw [if_neg c]
      exact c01 (v := 0) (Or.inl rfl) (fun _ => fin 1 (by rw [if_neg c]) (by omega)) (fun e => by omega)
  · exact fin 0 (by rw [if_pos (ov_conn hp (Or.inr z2))]) (by omega)
  · exact fin 0 (by rw [if_pos (ov_conn hp (Or.inl z1))]) (by omega)
/-- the bits of g below p -/
theorem low_suc (g p : Nat) : g % 2 ^ (p + 1) = g % 2 ^ p + bit g p * 2 ^ p := by
  unfold bit
  rw [Nat.pow_succ, Nat.mod_mul, Nat.mul_comm]
theorem enc0 : enc 0 = 0 := by decide +kernel
theorem s_measure {w n g msk : Nat} {f_tw f_tr f_lo f_hi f_st : Nat → Int32} {post : Int32 → Prop} (hT : TB f_tw f_tr f_lo f_hi f_st) (hw : w < 8) (hn : n ≤ 6) (hg : gr n g) (hm : msk < 32768) (h : post (nI (thg n msk g w))) : wp_X3_measure (nI w) (nI g) (nI n) (nI msk) f_tw f_tr f_lo f_hi f_st post := by
  have hgl := gr_lt hn hg
  have st : b_X3_measure_9 (nI msk) f_tw f_tr f_lo f_hi f_st post = b_X3_measure_9 (nI msk) f_tw f_tr f_lo f_hi f_st post := rfl
  have run := lp0 (fun k p => b_X3_measure_9 (nI msk) f_tw f_tr f_lo f_hi f_st post k (nI w) (nI g) (nI n) (nI (enc (g % 2 ^ p))) (nI (g % 2 ^ p)) (nI p)) 0 15 (by omega) (fun k => ?_) (fun k p _ hp ih => ?_)
  · obtain ⟨k, hk⟩ := run
    refine ⟨k, ?_⟩
    rw [Nat.pow_zero, Nat.mod_one, enc0] at hk
    exact hk
  · refine c_le (a := 15) (b := 15) (by omega) (by omega) (fun _ => s_read hw hn hg hm (fun _ _ => ?_) h) (fun q => by omega)
    rw [Nat.mod_eq_of_lt (by omega)]
  · refine c_le (a := 15) (by omega) (by omega) (fun q => by omega) (fun _ => ?_)
    rw [nb_bit (by omega) (by omega)]
    rw [low_suc] at ih
    have lt : g % 2 ^ p < 2 ^ p := Nat.mod_lt _ (Nat.two_pow_pos p)
    refine c01 (bit_01 g p) (fun e => ?_) (fun e => s_withEdge hT hp lt ?_)
    · show b_X3_measure_9 (nI msk) f_tw f_tr f_lo f_hi f_st post k (nI w) (nI g) (nI n) _ _ (nI p + 1)
      rw [nI_1]
      rw [e, Nat.zero_mul, Nat.add_zero] at ih
      exact ih
    · intro z hz
      rw [nb_one _ (by omega), nx_or] at hz
      have e2 := Nat.two_pow_add_eq_or_of_lt lt 1
      rw [Nat.mul_one] at e2
      rw [Nat.or_comm, ← e2, Nat.add_comm] at hz
      show b_X3_measure_9 (nI msk) f_tw f_tr f_lo f_hi f_st post k (nI w) (nI g) (nI n) _ z (nI p + 1)
      rw [nI_1, hz]
      rw [e, Nat.one_mul] at ih
      exact ih
