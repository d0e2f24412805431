/-- one try: done or not, the graph, the state -/
def swF (g p q cr k : Nat) : Nat × Nat × Nat := if swok cr g p q then (1, swg cr g p q, k) else (0, g, k)
def swR (g k : Nat) : Nat × Nat × Nat :=
  if cnt g 15 < 2 then (0, g, k)
  else swF g (ea g (dw (cnt g 15) k / 2 % cnt g 15) 15 0) (ea g (dw (cnt g 15) (dw (cnt g 15) k) / 2 % cnt g 15) 15 0) (if dw 2 (dw (cnt g 15) (dw (cnt g 15) k)) / 2 % 2 = 0 then 1 else 0) (dw 2 (dw (cnt g 15) (dw (cnt g 15) k)))
theorem sw15 {p q cr : Nat} (hp : p < 15) (hq : q < 15) (h1 : lo p ≠ lo q) (h2 : lo p ≠ hi q) (h3 : hi p ≠ lo q) (h4 : hi p ≠ hi q) : swo cr p q < 15 ∧ swt cr p q < 15 := by
  obtain ⟨l1, l2, l3⟩ := lohi p hp
  obtain ⟨m1, m2, m3⟩ := lohi q hq
  unfold swo swt
  split
  · exact ⟨pix_lt _ (by omega) _ (by omega) h2, pix_lt _ (by omega) _ (by omega) (Ne.symm h3)⟩
  · exact ⟨pix_lt _ (by omega) _ (by omega) h1, pix_lt _ (by omega) _ (by omega) h4⟩
theorem s_sw186 {g p q cr k o t : Nat} {f_lo f_hi : Nat → Int32} {post : Int32 → Int32 → Int64 → Prop} (hg : g < 32768) (hp : p < 15) (hq : q < 15) (h1 : lo p ≠ lo q) (h2 : lo p ≠ hi q) (h3 : hi p ≠ lo q) (h4 : hi p ≠ hi q) (ho : o = swo cr p q) (ht : t = swt cr p q) (h : post (nI (swF g p q cr k).1) (nI (swF g p q cr k).2.1) (lN (swF g p q cr k).2.2)) : b_X6_trySwap_186 f_lo f_hi post (nI p) (nI q) ((1 : Int32) <<< (nI o &&& 31)) (nI t) (1 : Int32) (nI g) (lN k) := by
  obtain ⟨o15, t15⟩ := sw15 (cr := cr) hp hq h1 h2 h3 h4
  rw [← ho] at o15
  rw [← ht] at t15
  unfold b_X6_trySwap_186
  rw [nb_one _ (by omega), nb_one _ (by omega), nb_one _ (by omega), nb_one _ (by omega), or_pow0 hg o15 t15, nb_clr (by omega), nb_clr (by omega), nx_or, nx_or]
  unfold swF at h
  refine ⟨fun c => ?_, fun c => ?_⟩
  · rw [if_pos ⟨h1, h2, h3, h4, by rw [← ho]; exact c.1, by rw [← ht]; exact c.2⟩] at h
    unfold swg at h
    rw [← ho, ← ht] at h
    exact h
  · rw [if_neg (fun z => c ⟨by rw [ho]; exact z.2.2.2.2.1, by rw [ht]; exact z.2.2.2.2.2⟩)] at h
    exact h
theorem s_sw65 {g p q cr k : Nat} {f_lo f_hi : Nat → Int32} {post : Int32 → Int32 → Int64 → Prop} (hlo : ∀ p, p < 15 → f_lo p = nI (lo p)) (hhi : ∀ p, p < 15 → f_hi p = nI (hi p)) (hg : g < 32768) (hp : p < 15) (hq : q < 15) (hcr : cr = 0 ∨ cr = 1) (h : post (nI (swF g p q cr k).1) (nI (swF g p q cr k).2.1) (lN (swF g p q cr k).2.2)) : b_X6_trySwap_65 f_lo f_hi post (nI p) (nI q) (nI cr) (nI g) (lN k) := by
  obtain ⟨l1, l2, l3⟩ := lohi p hp
  obtain ⟨m1, m2, m3⟩ := lohi q hq
  have bad : ¬ swok cr g p q → post (0 : Int32) (nI g) (lN k) := by
    intro c
    unfold swF at h
    rw [if_neg c] at h
    exact h
  refine s_low hlo hp (s_high hhi hp (s_low hlo hq (s_high hhi hq (c_eq (by omega) (by omega) (fun e => bad (fun z => z.1 e)) (fun n1 => c_eq (by omega) (by omega) (fun e => bad (fun z => z.2.1 e)) (fun n2 => c_eq (by omega) (by omega) (fun e => bad (fun z => z.2.2.1 e)) (fun n3 => c_eq (by omega) (by omega) (fun e => bad (fun z => z.2.2.2.1 e)) (fun n4 => c01 hcr (fun e => ?_) (fun e => ?_)))))))))
  · refine s_indexOf (by omega) (by omega) (c01 hcr (fun _ => s_indexOf (by omega) (by omega) (s_sw186 hg hp hq n1 n2 n3 n4 ?_ ?_ h)) (fun e2 => by omega))
    · unfold swo; rw [if_neg (by omega)]
    · unfold swt; rw [if_neg (by omega)]
  · refine s_indexOf (by omega) (by omega) (c01 hcr (fun e2 => by omega) (fun _ => s_indexOf (by omega) (by omega) (s_sw186 hg hp hq n1 n2 n3 n4 ?_ ?_ h)))
    · unfold swo; rw [if_pos e]
    · unfold swt; rw [if_pos e]
theorem mod_lt' {a m : Nat} (h : 2 ≤ m) : a % m < m := Nat.mod_lt _ (by omega)
theorem s_trySwap {g k : Nat} {f_lo f_hi : Nat → Int32} {post : Int32 → Int32 → Int64 → Prop} (hlo : ∀ p, p < 15 → f_lo p = nI (lo p)) (hhi : ∀ p, p < 15 → f_hi p = nI (hi p)) (hg : g < 32768) (hk : k < 18446744073709551616) (h : post (nI (swR g k).1) (nI (swR g k).2.1) (lN (swR g k).2.2)) : wp_X6_trySwap f_lo f_hi (nI g) (lN k) post := by
  have cl := cnt_le g 15
  unfold swR at h
  refine s_bitCount hg (c_le (a := 2) (by omega) (by omega) (fun q => ?_) (fun q => ?_))
  · rw [if_neg (by omega)] at h
    obtain ⟨m, hm⟩ : ∃ m, m = cnt g 15 := ⟨_, rfl⟩
    rw [← hm] at h q cl ⊢
    rw [nI_l (by omega)]
    obtain ⟨k1, e1⟩ : ∃ k1, k1 = dw m k := ⟨_, rfl⟩
    have b1 : k1 < 18446744073709551616 := by rw [e1]; exact dw_lt hk
    rw [← e1] at h
    obtain ⟨k2, e2⟩ : ∃ k2, k2 = dw m k1 := ⟨_, rfl⟩
    have b2 : k2 < 18446744073709551616 := by rw [e2]; exact dw_lt b1
    rw [← e2] at h
    obtain ⟨k3, e3⟩ : ∃ k3, k3 = dw 2 k2 := ⟨_, rfl⟩
    rw [← e3] at h
    have x1 := mod_lt' (a := k1 / 2) q
    have x2 := mod_lt' (a := k2 / 2) q
    have y1 := ea_ok 15 (k1 / 2 % m) 0 (by rw [cf_cnt, ← hm]; exact x1)
    have y2 := ea_ok 15 (k2 / 2 % m) 0 (by rw [cf_cnt, ← hm]; exact x2)
    refine s_below (by omega) (by omega) hk ?_
    rw [← e1, lN_i]
    refine s_edgeAt6 hg (by rw [← hm]; exact x1) (s_below (by omega) (by omega) b1 ?_)
    rw [← e2, lN_i]
    refine s_edgeAt6 hg (by rw [← hm]; exact x2) (s_below (n := 2) (by omega) (by omega) b2 ?_)
    rw [← e3, lg00 (by omega)]
    refine ⟨fun c => ?_, fun c => ?_⟩
    · rw [if_pos c] at h
      exact s_sw65 hlo hhi hg (by omega) (by omega) (Or.inr rfl) h
    · rw [if_neg c] at h
      exact s_sw65 hlo hhi hg (by omega) (by omega) (Or.inl rfl) h
  · rw [if_pos (by omega)] at h
    exact h
theorem s_sw173 {g p q cr k o t : Nat} {mP : Int32} {post : Int32 → Int32 → Int64 → Prop} (hg : g < 32768) (hp : p < 15) (hq : q < 15) (h1 : lo p ≠ lo q) (h2 : lo p ≠ hi q) (h3 : hi p ≠ lo q) (h4 : hi p ≠ hi q) (ho : o = swo cr p q) (ht : t = swt cr p q) (h : post (nI (swF g p q cr k).1) (nI (swF g p q cr k).2.1) (lN (swF g p q cr k).2.2)) : b_X7_isSwapped_173 mP post (nI p) (nI q) (nI o) (nI t) (nI g) (lN k) := by
  obtain ⟨o15, t15⟩ := sw15 (cr := cr) hp hq h1 h2 h3 h4
  rw [← ho] at o15
  rw [← ht] at t15
  unfold b_X7_isSwapped_173
  rw [nb_one _ (by omega), nb_one _ (by omega), nb_one _ (by omega), nb_one _ (by omega), nb_clr (by omega), nb_clr (by omega), nx_or, nx_or, nb_bit (by omega) (by omega), nb_bit (by omega) (by omega)]
  have b1 := bit_01 g o
  have b2 := bit_01 g t
  unfold swF at h
  refine c_eq (b := 1) (by omega) (by omega) (fun e => ?_) (fun e => c_eq (b := 1) (by omega) (by omega) (fun e2 => ?_) (fun e2 => ?_))
  · rw [if_neg (fun z => by have := z.2.2.2.2.1; rw [← ho] at this; omega)] at h
    exact h
  · rw [if_neg (fun z => by have := z.2.2.2.2.2; rw [← ht] at this; omega)] at h
    exact h
  · rw [if_pos ⟨h1, h2, h3, h4, by rw [← ho]; omega, by rw [← ht]; omega⟩] at h
    unfold swg at h
    rw [← ho, ← ht] at h
    exact h
theorem s_sw57 {g p q cr k : Nat} {mP : Int32} {post : Int32 → Int32 → Int64 → Prop} (hg : g < 32768) (hp : p < 15) (hq : q < 15) (hcr : cr = 0 ∨ cr = 1) (h : post (nI (swF g p q cr k).1) (nI (swF g p q cr k).2.1) (lN (swF g p q cr k).2.2)) : b_X7_isSwapped_57 mP post (nI p) (nI q) (nI cr) (nI g) (lN k) := by
  obtain ⟨l1, l2, l3⟩ := lohi p hp
  obtain ⟨m1, m2, m3⟩ := lohi q hq
  have bad : ¬ swok cr g p q → post (0 : Int32) (nI g) (lN k) := by
    intro c
    unfold swF at h
    rw [if_neg c] at h
    exact h
  refine s_upper hp ⟨two_ne, fun z hz => s_upper hq ⟨two_ne, fun z' hz' => ?_⟩⟩
  rw [low_eq p hp] at hz
  rw [low_eq q hq] at hz'
  subst hz; subst hz'
  refine c_eq (by omega) (by omega) (fun e => bad (fun z => z.1 e)) (fun n1 => c_eq (by omega) (by omega) (fun e => bad (fun z => z.2.1 e)) (fun n2 => c_eq (by omega) (by omega) (fun e => bad (fun z => z.2.2.1 e)) (fun n3 => c_eq (by omega) (by omega) (fun e => bad (fun z => z.2.2.2.1 e)) (fun n4 => c01 hcr (fun e => ?_) (fun e => ?_)))))
  · refine s_pairOf (by omega) (by omega) (c01 hcr (fun _ => s_pairOf (by omega) (by omega) (s_sw173 hg hp hq n1 n2 n3 n4 ?_ ?_ h)) (fun e2 => by omega))
    · unfold swo; rw [if_neg (by omega)]
    · unfold swt; rw [if_neg (by omega)]
  · refine s_pairOf (by omega) (by omega) (c01 hcr (fun e2 => by omega) (fun _ => s_pairOf (by omega) (by omega) (s_sw173 hg hp hq n1 n2 n3 n4 ?_ ?_ h)))
    · unfold swo; rw [if_pos e]
    · unfold swt; rw [if_pos e]
theorem s_isSwapped {n g k : Nat} {post : Int32 → Int32 → Int64 → Prop} (hn : n ≤ 6) (hgr : gr n g) (hk : k < 18446744073709551616) (h : post (nI (swR g k).1) (nI (swR g k).2.1) (lN (swR g k).2.2)) : wp_X7_isSwapped (nI (n * (n - 1) / 2)) (nI g) (lN k) post := by
  have cl := cnt_le g 15
  have hg := gr_lt hn hgr
  unfold swR at h
  refine s_edgesOf (np15 hn) (by omega) ?_
  rw [cnt_gr hn hgr]
  refine c_le (a := 2) (by omega) (by omega) (fun q => ?_) (fun q => ?_)
  · rw [if_neg (by omega)] at h
    obtain ⟨m, hm⟩ : ∃ m, m = cnt g 15 := ⟨_, rfl⟩
    rw [← hm] at h q cl ⊢
    rw [nI_l (by omega)]
    obtain ⟨k1, e1⟩ : ∃ k1, k1 = dw m k := ⟨_, rfl⟩
    have b1 : k1 < 18446744073709551616 := by rw [e1]; exact dw_lt hk
    rw [← e1] at h
    obtain ⟨k2, e2⟩ : ∃ k2, k2 = dw m k1 := ⟨_, rfl⟩
    have b2 : k2 < 18446744073709551616 := by rw [e2]; exact dw_lt b1
    rw [← e2] at h
    obtain ⟨k3, e3⟩ : ∃ k3, k3 = dw 2 k2 := ⟨_, rfl⟩
    rw [← e3] at h
    have x1 := mod_lt' (a := k1 / 2) q
    have x2 := mod_lt' (a := k2 / 2) q
    have y1 := ea_ok 15 (k1 / 2 % m) 0 (by rw [cf_cnt, ← hm]; exact x1)
    have y2 := ea_ok 15 (k2 / 2 % m) 0 (by rw [cf_cnt, ← hm]; exact x2)
    refine s_draw (by omega) (by omega) hk ?_
    rw [← e1, lN_i]
    refine s_edgeAt7 hg (by rw [← hm]; exact x1) (s_draw (by omega) (by omega) b1 ?_)
    rw [← e2, lN_i]
    refine s_edgeAt7 hg (by rw [← hm]; exact x2) (s_draw (n := 2) (by omega) (by omega) b2 ?_)
    rw [← e3, lg00 (by omega)]
    refine ⟨fun c => ?_, fun c => ?_⟩
    · rw [if_pos c] at h
      exact s_sw57 hg (by omega) (by omega) (Or.inr rfl) h
    · rw [if_neg c] at h
      exact s_sw57 hg (by omega) (by omega) (Or.inl rfl) h
  · rw [if_pos (by omega)] at h
    exact h
theorem swR_ok {n g k : Nat} (hn : n ≤ 6) (hgr : gr n g) (hk : k < 18446744073709551616) : ((swR g k).1 = 0 ∨ (swR g k).1 = 1) ∧ gr n (swR g k).2.1 ∧ (swR g k).2.2 < 18446744073709551616 := by
  unfold swR
  split
  · exact ⟨Or.inl rfl, hgr, hk⟩
  · rename_i c
    have x1 := mod_lt' (a := dw (cnt g 15) k / 2) (m := cnt g 15) (by omega)
    have x2 := mod_lt' (a := dw (cnt g 15) (dw (cnt g 15) k) / 2) (m := cnt g 15) (by omega)
    have y1 := ea_ok 15 _ 0 (by rw [cf_cnt]; exact x1)
    have y2 := ea_ok 15 _ 0 (by rw [cf_cnt]; exact x2)
    have b3 : dw 2 (dw (cnt g 15) (dw (cnt g 15) k)) < 18446744073709551616 := dw_lt (dw_lt (dw_lt hk))
    generalize (if dw 2 (dw (cnt g 15) (dw (cnt g 15) k)) / 2 % 2 = 0 then 1 else 0) = cr
    unfold swF
    split
    · rename_i ok
      exact ⟨Or.inr rfl, swg_gr hn hgr y1.1 y2.1 ok, b3⟩
    · exact ⟨Or.inl rfl, hgr, b3⟩
/-- so many tries: how many were done, the graph, the state -/
def swN (g k : Nat) : Nat → Nat × Nat × Nat
  | 0 => (0, g, k)
  | i + 1 => ((swN g k i).1 + (swR (swN g k i).2.1 (swN g k i).2.2).1, (swR (swN g k i).2.1 (swN g k i).2.2).2.1, (swR (swN g k i).2.1 (swN g k i).2.2).2.2)
theorem swN_ok {n g k : Nat} (hn : n ≤ 6) (hgr : gr n g) (hk : k < 18446744073709551616) : ∀ i, (swN g k i).1 ≤ i ∧ gr n (swN g k i).2.1 ∧ (swN g k i).2.2 < 18446744073709551616 := by
  intro i
  induction i with
  | zero => exact ⟨Nat.le_refl _, hgr, hk⟩
  | succ i ih =>
    obtain ⟨a, b, c⟩ := swR_ok hn ih.2.1 ih.2.2
    exact ⟨by simp only [swN]; omega, b, c⟩
theorem s_swaps6 {n g k t : Nat} {f_lo f_hi : Nat → Int32} {post : Int32 → Int32 → Int64 → Prop} (hlo : ∀ p, p < 15 → f_lo p = nI (lo p)) (hhi : ∀ p, p < 15 → f_hi p = nI (hi p)) (hn : n ≤ 6) (hgr : gr n g) (hk : k < 18446744073709551616) (ht : t ≤ 100) (h : post (nI (swN g k t).1) (nI (swN g k t).2.1) (lN (swN g k t).2.2)) : wp_X6_swaps (nI t) f_lo f_hi (nI g) (lN k) post := by
  refine c_lt (b := 0) (by omega) (by omega) (fun q => by omega) (fun _ => c_le (b := 100) (by omega) (by omega) (fun _ => ?_) (fun q => by omega))
  refine lp0 (fun f i => b_X6_swaps_16 f_lo f_hi post f (nI t) (nI (swN g k i).1) (nI i) (nI (swN g k i).2.1) (lN (swN g k i).2.2)) 0 t (Nat.zero_le _) (fun f => c_le (by omega) (by omega) (fun _ => h) (fun q => by omega)) (fun f i _ hi ih => c_le (by omega) (by omega) (fun q => by omega) (fun _ => ?_))
  obtain ⟨a, b, c⟩ := swN_ok hn hgr hk i
  obtain ⟨a2, b2, c2⟩ := swR_ok hn b c
  refine s_trySwap hlo hhi (gr_lt hn b) c (c01 a2 (fun e => ?_) (fun e => ?_))
  · show b_X6_swaps_16 f_lo f_hi post f (nI t) (nI (swN g k i).1) (nI i + 1) _ _
    rw [nI_1]
    simp only [swN] at ih
    rw [e, Nat.add_zero] at ih
    exact ih
  · show b_X6_swaps_16 f_lo f_hi post f (nI t) (nI (swN g k i).1 + 1) (nI i + 1) _ _
    rw [nI_1, nI_1]
    simp only [swN] at ih
    rw [e] at ih
    exact ih
theorem s_swaps7 {n g k t : Nat} {post : Int32 → Int32 → Int64 → Prop} (hn : n ≤ 6) (hgr : gr n g) (hk : k < 18446744073709551616) (ht : t ≤ 100) (h : post (nI (swN g k t).1) (nI (swN g k t).2.1) (lN (swN g k t).2.2)) : wp_X7_swaps (nI t) (nI (n * (n - 1) / 2)) (nI g) (lN k) post := by
  unfold wp_X7_swaps
  rw [nI_l (by omega)]
  refine s_in (l := 0) (h := 100) (by omega) (by omega) (by omega) (by omega) (yes1 ?_)
  refine lp0 (fun f i => b_X7_swaps_18 (nI (n * (n - 1) / 2)) post f (nI t) (nI (swN g k i).1) (nI i) (nI (swN g k i).2.1) (lN (swN g k i).2.2)) 0 t (Nat.zero_le _) (fun f => c_le (by omega) (by omega) (fun _ => h) (fun q => by omega)) (fun f i _ hi ih => c_le (by omega) (by omega) (fun q => by omega) (fun _ => ?_))
  obtain ⟨a, b, c⟩ := swN_ok hn hgr hk i
  obtain ⟨a2, b2, c2⟩ := swR_ok hn b c
  refine s_isSwapped hn b c (c01 a2 (fun e => ?_) (fun e => ?_))
  · show b_X7_swaps_18 (nI (n * (n - 1) / 2)) post f (nI t) (nI (swN g k i).1 + nI 0) (nI i + 1) _ _
    rw [nI_1, nI_add]
    simp only [swN] at ih
    rw [e] at ih
    exact ih
  · show b_X7_swaps_18 (nI (n * (n - 1) / 2)) post f (nI t) (nI (swN g k i).1 + nI 1) (nI i + 1) _ _
    rw [nI_1, nI_add]
    simp only [swN] at ih
    rw [e] at ih
    exact ih
