/-! the reference's methods, in numbers -/
theorem lp0 (W : Nat → Nat → Prop) (i0 e : Nat) (hi : i0 ≤ e) (hx : ∀ n, W (n + 1) e) (hs : ∀ n i, i0 ≤ i → i < e → W n (i + 1) → W (n + 1) i) : ∃ n, W n i0 := by
  have H : ∀ k i, i0 ≤ i → i + k = e → W (k + 1) i := by
    intro k
    induction k with
    | zero => intro i _ h; obtain rfl : i = e := by omega
              exact hx 0
    | succ k ih => intro i h0 h; exact hs (k + 1) i h0 (by omega) (ih (i + 1) (by omega) (by omega))
  exact ⟨e - i0 + 1, H (e - i0) i0 (Nat.le_refl _) (by omega)⟩
theorem c01 {v : Nat} (h : v = 0 ∨ v = 1) {A B : Prop} (h0 : v = 0 → A) (h1 : v = 1 → B) : (nI v = 0 → A) ∧ (¬ nI v = 0 → B) := by
  rcases h with rfl | rfl
  · exact ⟨fun _ => h0 rfl, fun c => absurd rfl c⟩
  · exact ⟨fun c => absurd c (by decide), fun _ => h1 rfl⟩
theorem c_le {a b : Nat} (ha : a < 2 ^ 31) (hb : b < 2 ^ 31) {A B : Prop} (h0 : a ≤ b → A) (h1 : b < a → B) : (nI a ≤ nI b → A) ∧ (¬ nI a ≤ nI b → B) := by
  rw [nI_leI ha hb]
  exact ⟨h0, fun c => h1 (by omega)⟩
theorem c_lt {a b : Nat} (ha : a < 2 ^ 31) (hb : b < 2 ^ 31) {A B : Prop} (h0 : a < b → A) (h1 : b ≤ a → B) : (nI a < nI b → A) ∧ (¬ nI a < nI b → B) := by
  rw [nI_ltI ha hb]
  exact ⟨h0, fun c => h1 (by omega)⟩
theorem c_eq {a b : Nat} (ha : a < 2 ^ 31) (hb : b < 2 ^ 31) {A B : Prop} (h0 : a = b → A) (h1 : a ≠ b → B) : (nI a = nI b → A) ∧ (¬ nI a = nI b → B) := by
  rw [nI_eq ha hb]
  exact ⟨h0, h1⟩
/-- a sum over i < n -/
def sm (f : Nat → Nat) : Nat → Nat
  | 0 => 0
  | n + 1 => sm f n + f n
theorem sm_congr {f f' : Nat → Nat} {n : Nat} (h : ∀ i, i < n → f i = f' i) : sm f n = sm f' n := by
  induction n with
  | zero => rfl
  | succ n ih => simp only [sm]; rw [ih (fun i hi => h i (by omega)), h n (by omega)]
theorem sm_zero {f : Nat → Nat} {n : Nat} (h : ∀ i, i < n → f i = 0) : sm f n = 0 := by
  induction n with
  | zero => rfl
  | succ n ih => simp only [sm]; rw [ih (fun i hi => h i (by omega)), h n (by omega)]
theorem s_degreeOf {n g a : Nat} (hn : n ≤ 6) (hg : g < 2 ^ 31) (ha : a < 6) {post : Int32 → Prop} (h : post (nI (sm (hs g a) n))) : wp_X7_degreeOf (nI g) (nI a) (nI n) post := by
  refine lp0 (fun k i => b_X7_degreeOf_5 (nI n) post k (nI g) (nI a) (nI (sm (hs g a) i)) (nI i)) 0 n (Nat.zero_le _) (fun k => c_le (by omega) (by omega) (fun _ => h) (fun q => by omega)) (fun k i _ hi ih => c_le (by omega) (by omega) (fun q => by omega) (fun _ => s_has hg ha (by omega) ?_))
  refine c01 (hs_01 g a i) (fun e => ?_) (fun e => ?_)
  · show b_X7_degreeOf_5 (nI n) post k (nI g) (nI a) (nI _ + nI 0) (nI i + 1)
    rw [nI_add, nI_1]
    simp only [sm, e] at ih
    exact ih
  · show b_X7_degreeOf_5 (nI n) post k (nI g) (nI a) (nI _ + nI 1) (nI i + 1)
    rw [nI_add, nI_1]
    simp only [sm, e] at ih
    exact ih
/-- triangles -/
def tri3 (g c b : Nat) : Nat := sm (fun a => hs g b c * (hs g a b * hs g a c)) b
def tri2 (g c : Nat) : Nat := sm (fun b => tri3 g c b) c
def tri (n g : Nat) : Nat := sm (fun c => tri2 g c) n
theorem s_tri24 {g b c acc : Nat} {mN : Int32} {post : Int32 → Prop} {k4 : Int32 → Int32 → Int32 → Prop} {k15 : Int32 → Int32 → Int32 → Int32 → Prop} (hg : g < 2 ^ 31) (hb : b < 6) (hc : c < 6)
    (h : k15 (nI g) (nI (acc + tri3 g c b)) (nI c) (nI (b + 1))) : ∃ n, b_X7_trianglesOf_24 mN post k4 k15 n (nI g) (nI acc) (nI c) (nI b) (nI 0) := by
  rcases hs_01 g b c with e | e
  · refine ⟨1, c_le (by omega) (by omega) (fun _ => ?_) (fun _ => s_has hg hb hc (c01 (hs_01 g b c) (fun _ => ?_) (fun q => by omega)))⟩
    all_goals
      show k15 (nI g) (nI acc) (nI c) (nI b + 1)
      rw [nI_1]
      have z : tri3 g c b = 0 := sm_zero (fun i _ => by rw [e, Nat.zero_mul])
      rw [z] at h
      exact h
  · refine lp0 (fun k i => b_X7_trianglesOf_24 mN post k4 k15 k (nI g) (nI (acc + sm (fun a => hs g b c * (hs g a b * hs g a c)) i)) (nI c) (nI b) (nI i)) 0 b (Nat.zero_le _) (fun k => c_le (by omega) (by omega) (fun _ => ?_) (fun q => by omega)) (fun k i _ hi ih => c_le (by omega) (by omega) (fun q => by omega) (fun _ => s_has hg hb hc (c01 (hs_01 g b c) (fun q => by omega) (fun _ => s_has hg (by omega) hb ?_))))
    · show k15 (nI g) (nI _) (nI c) (nI b + 1)
      rw [nI_1]
      exact h
    · have fin : ∀ v : Nat, hs g b c * (hs g i b * hs g i c) = v → b_X7_trianglesOf_24 mN post k4 k15 k (nI g) (nI (acc + sm (fun a => hs g b c * (hs g a b * hs g a c)) i) + nI v) (nI c) (nI b) (nI i + 1) := by
        intro v hv
        rw [nI_add, nI_1]
        simp only [sm, hv] at ih
        rw [Nat.add_assoc]
        exact ih
      refine c01 (hs_01 g i b) (fun e1 => fin 0 (by rw [e1, Nat.zero_mul, Nat.mul_zero])) (fun e1 => s_has hg (by omega) hc (c01 (hs_01 g i c) (fun e2 => fin 0 (by rw [e2, Nat.mul_zero, Nat.mul_zero])) (fun e2 => fin 1 (by rw [e, e1, e2]))))
theorem s_trianglesOf {n g : Nat} (hn : n ≤ 6) (hg : g < 2 ^ 31) {post : Int32 → Prop} (h : post (nI (tri n g))) : wp_X7_trianglesOf (nI g) (nI n) post := by
  have start : ∃ k, b_X7_trianglesOf_4 (nI n) post k (nI g) (nI (tri (max n 2) g)) (nI (max n 2)) := by
    refine ⟨1, c_le (by omega) (by omega) (fun _ => ?_) (fun q => by omega)⟩
    rcases (show n = 0 ∨ n = 1 ∨ 2 ≤ n by omega) with rfl | rfl | q
    · exact h
    · exact h
    · rw [Nat.max_eq_left q]; exact h
  by_cases hn2 : n < 2
  · obtain ⟨k, hk⟩ := start
    rw [Nat.max_eq_right (by omega)] at hk
    exact ⟨k, hk⟩
  · refine lp0 (fun k c => b_X7_trianglesOf_4 (nI n) post k (nI g) (nI (tri c g)) (nI c)) 2 n (by omega) (fun k => c_le (by omega) (by omega) (fun _ => h) (fun q => by omega)) (fun k c h2 hc ih => c_le (by omega) (by omega) (fun q => by omega) (fun _ => ?_))
    refine lp0 (fun k' b => b_X7_trianglesOf_15 (nI n) post (b_X7_trianglesOf_4 (nI n) post k) k' (nI g) (nI (tri c g + sm (fun b => tri3 g c b) b)) (nI c) (nI b)) 1 c (by omega) (fun k' => c_le (by omega) (by omega) (fun _ => ?_) (fun q => by omega)) (fun k' b h1 hb ihb => c_le (by omega) (by omega) (fun q => by omega) (fun _ => s_tri24 hg (by omega) (by omega) ?_))
    · rw [nI_1]; exact ih
    · rw [Nat.add_assoc]; exact ihb
/-- squares -/
def sq1 (g a b d c : Nat) : Nat := if a < c ∧ c ≠ b ∧ c ≠ d then hs g a b * (hs g a d * (hs g b c * hs g c d)) else 0
def sq2 (n g a b d : Nat) : Nat := if b < d then sm (sq1 g a b d) n else 0
def sq3 (n g a b : Nat) : Nat := if a < b then sm (sq2 n g a b) n else 0
def sq4 (n g a : Nat) : Nat := sm (sq3 n g a) n
def sq (n g : Nat) : Nat := sm (sq4 n g) n
theorem s_sq56 {n g a b d acc : Nat} {post : Int32 → Prop} {k4 : Int32 → Int32 → Int32 → Prop} {k17 : Int32 → Int32 → Int32 → Int32 → Prop} {k32 : Int32 → Int32 → Int32 → Int32 → Int32 → Prop} (hn : n ≤ 6) (hg : g < 2 ^ 31) (ha : a < n) (hb : b < n) (hd : d < n) (hab : hs g a b = 1)
    (h : k32 (nI g) (nI (acc + sm (sq1 g a b d) n)) (nI a) (nI b) (nI (d + 1))) : ∃ k, b_X7_squaresOf_56 (nI n) post k4 k17 k32 k (nI g) (nI acc) (nI a) (nI b) (nI d) (nI (a + 1)) := by
  rcases hs_01 g a d with e | e
  · have z : sm (sq1 g a b d) n = 0 := sm_zero (fun i _ => by unfold sq1; split; rw [e, Nat.zero_mul, Nat.mul_zero]; rfl)
    rw [z] at h
    refine ⟨1, c_le (by omega) (by omega) (fun _ => ?_) (fun _ => s_has hg (by omega) (by omega) (c01 (hs_01 g a d) (fun _ => ?_) (fun q => by omega)))⟩
    all_goals
      show k32 (nI g) (nI acc) (nI a) (nI b) (nI d + 1)
      rw [nI_1]
      exact h
  · have z : sm (sq1 g a b d) (a + 1) = 0 := sm_zero (fun i hi => by unfold sq1; rw [if_neg (by omega)])
    have st : acc = acc + sm (sq1 g a b d) (a + 1) := by rw [z]; rfl
    rw [st]
    refine lp0 (fun k i => b_X7_squaresOf_56 (nI n) post k4 k17 k32 k (nI g) (nI (acc + sm (sq1 g a b d) i)) (nI a) (nI b) (nI d) (nI i)) (a + 1) n (by omega) (fun k => c_le (by omega) (by omega) (fun _ => ?_) (fun q => by omega)) (fun k i h1 hi ih => c_le (by omega) (by omega) (fun q => by omega) (fun _ => s_has hg (by omega) (by omega) (c01 (hs_01 g a d) (fun q => by omega) (fun _ => ?_))))
    · show k32 (nI g) (nI _) (nI a) (nI b) (nI d + 1)
      rw [nI_1]
      exact h
    · have fin : ∀ v : Nat, sq1 g a b d i = v → b_X7_squaresOf_56 (nI n) post k4 k17 k32 k (nI g) (nI (acc + sm (sq1 g a b d) i) + nI v) (nI a) (nI b) (nI d) (nI i + 1) := by
        intro v hv
        rw [nI_add, nI_1]
        simp only [sm, hv] at ih
        rw [Nat.add_assoc]
        exact ih
      refine c_eq (by omega) (by omega) (fun q => fin 0 (by unfold sq1; rw [if_neg (by omega)])) (fun q1 => c_eq (by omega) (by omega) (fun q => fin 0 (by unfold sq1; rw [if_neg (by omega)])) (fun q2 => ?_))
      have hv : sq1 g a b d i = hs g b i * hs g i d := by unfold sq1; rw [if_pos ⟨by omega, q1, q2⟩, hab, e, Nat.one_mul, Nat.one_mul]
      exact s_has hg (by omega) (by omega) (c01 (hs_01 g b i) (fun e1 => fin 0 (by rw [hv, e1, Nat.zero_mul])) (fun e1 => s_has hg (by omega) (by omega) (c01 (hs_01 g i d) (fun e2 => fin 0 (by rw [hv, e2, Nat.mul_zero])) (fun e2 => fin 1 (by rw [hv, e1, e2])))))
theorem s_sq32 {n g a b acc : Nat} {post : Int32 → Prop} {k4 : Int32 → Int32 → Int32 → Prop} {k17 : Int32 → Int32 → Int32 → Int32 → Prop} (hn : n ≤ 6) (hg : g < 2 ^ 31) (ha : a < b) (hb : b < n)
    (h : k17 (nI g) (nI (acc + sm (sq2 n g a b) n)) (nI a) (nI (b + 1))) : ∃ k, b_X7_squaresOf_32 (nI n) post k4 k17 k (nI g) (nI acc) (nI a) (nI b) (nI (b + 1)) := by
  rcases hs_01 g a b with e | e
  · have z : sm (sq2 n g a b) n = 0 := sm_zero (fun i _ => by unfold sq2; split; exact sm_zero (fun j _ => by unfold sq1; split; rw [e, Nat.zero_mul]; rfl); rfl)
    rw [z] at h
    refine ⟨1, c_le (by omega) (by omega) (fun _ => ?_) (fun _ => s_has hg (by omega) (by omega) (c01 (hs_01 g a b) (fun _ => ?_) (fun q => by omega)))⟩
    all_goals
      show k17 (nI g) (nI acc) (nI a) (nI b + 1)
      rw [nI_1]
      exact h
  · have z : sm (sq2 n g a b) (b + 1) = 0 := sm_zero (fun i hi => by unfold sq2; rw [if_neg (by omega)])
    have st : acc = acc + sm (sq2 n g a b) (b + 1) := by rw [z]; rfl
    rw [st]
    refine lp0 (fun k i => b_X7_squaresOf_32 (nI n) post k4 k17 k (nI g) (nI (acc + sm (sq2 n g a b) i)) (nI a) (nI b) (nI i)) (b + 1) n (by omega) (fun k => c_le (by omega) (by omega) (fun _ => ?_) (fun q => by omega)) (fun k i h1 hi ih => c_le (by omega) (by omega) (fun q => by omega) (fun _ => s_has hg (by omega) (by omega) (c01 (hs_01 g a b) (fun q => by omega) (fun _ => ?_))))
    · show k17 (nI g) (nI _) (nI a) (nI b + 1)
      rw [nI_1]
      exact h
    · show ∃ n_1, b_X7_squaresOf_56 (nI n) post k4 k17 (b_X7_squaresOf_32 (nI n) post k4 k17 k) n_1 (nI g) (nI _) (nI a) (nI b) (nI i) (nI a + 1)
      rw [nI_1]
      refine s_sq56 hn hg (by omega) (by omega) hi e ?_
      simp only [sm] at ih
      rw [show sq2 n g a b i = sm (sq1 g a b i) n by unfold sq2; rw [if_pos (by omega)]] at ih
      rw [Nat.add_assoc]
      exact ih
theorem s_squaresOf {n g : Nat} (hn : n ≤ 6) (hg : g < 2 ^ 31) {post : Int32 → Prop} (h : post (nI (sq n g))) : wp_X7_squaresOf (nI g) (nI n) post := by
  refine lp0 (fun k a => b_X7_squaresOf_4 (nI n) post k (nI g) (nI (sm (sq4 n g) a)) (nI a)) 0 n (Nat.zero_le _) (fun k => c_le (by omega) (by omega) (fun _ => h) (fun q => by omega)) (fun k a _ ha ih => c_le (by omega) (by omega) (fun q => by omega) (fun _ => ?_))
  show ∃ n_1, b_X7_squaresOf_17 (nI n) post (b_X7_squaresOf_4 (nI n) post k) n_1 (nI g) (nI (sm (sq4 n g) a)) (nI a) (nI a + 1)
  rw [nI_1]
  have z : sm (sq3 n g a) (a + 1) = 0 := sm_zero (fun i hi => by unfold sq3; rw [if_neg (by omega)])
  have st : sm (sq4 n g) a = sm (sq4 n g) a + sm (sq3 n g a) (a + 1) := by rw [z]; rfl
  rw [st]
  refine lp0 (fun k' b => b_X7_squaresOf_17 (nI n) post (b_X7_squaresOf_4 (nI n) post k) k' (nI g) (nI (sm (sq4 n g) a + sm (sq3 n g a) b)) (nI a) (nI b)) (a + 1) n (by omega) (fun k' => c_le (by omega) (by omega) (fun _ => ?_) (fun q => by omega)) (fun k' b h1 hb ihb => c_le (by omega) (by omega) (fun q => by omega) (fun _ => ?_))
  · rw [nI_1]; exact ih
  · show ∃ n_1, b_X7_squaresOf_32 (nI n) post (b_X7_squaresOf_4 (nI n) post k) (b_X7_squaresOf_17 (nI n) post (b_X7_squaresOf_4 (nI n) post k) k') n_1 (nI g) (nI _) (nI a) (nI b) (nI b + 1)
    rw [nI_1]
    refine s_sq32 hn hg (by omega) hb ?_
    simp only [sm] at ihb
    rw [show sq3 n g a b = sm (sq2 n g a b) n by unfold sq3; rw [if_pos (by omega)]] at ihb
    rw [Nat.add_assoc]
    exact ihb
/-- by degrees -/
def dgr (n g a : Nat) : Nat := sm (hs g a) n
theorem sm_le {f : Nat → Nat} {n m : Nat} (h : ∀ i, f i ≤ m) : sm f n ≤ n * m := by
  induction n with
  | zero => exact Nat.zero_le _
  | succ n ih => simp only [sm]; have := h n; rw [Nat.succ_mul]; omega
theorem hs_le (g a b : Nat) : hs g a b ≤ 1 := by rcases hs_01 g a b with e | e <;> omega
theorem dgr_le (n g a : Nat) : dgr n g a ≤ n := by have := sm_le (n := n) (hs_le g a); unfold dgr; omega
def mxd (f : Nat → Nat) : Nat → Nat
  | 0 => 0
  | n + 1 => if f n ≤ mxd f n then mxd f n else f n
def wed (n g k : Nat) : Nat := sm (fun a => dgr n g a * (dgr n g a - 1) / 2) k
def lon (n g k : Nat) : Nat := sm (fun a => if dgr n g a = 0 then 1 else 0) k
theorem mxd_le {f : Nat → Nat} {m : Nat} (h : ∀ i, f i ≤ m) (n : Nat) : mxd f n ≤ m := by
  induction n with
  | zero => exact Nat.zero_le _
  | succ n ih => simp only [mxd]; split; exact ih; exact h n
def byd (n g w : Nat) : Nat := if w = 2 then wed n g n else if w = 4 then mxd (dgr n g) n else lon n g n
theorem s_byDegrees {n g w : Nat} (hn : n ≤ 6) (hg : g < 2 ^ 31) (hw : w < 2 ^ 31) {post : Int32 → Prop} (h : post (nI (byd n g w))) : wp_X7_byDegrees (nI g) (nI w) (nI n) post := by
  refine lp0 (fun k a => b_X7_byDegrees_11 (nI n) post k (nI g) (nI w) (nI (wed n g a)) (nI (mxd (dgr n g) a)) (nI (lon n g a)) (nI a)) 0 n (Nat.zero_le _) (fun k => c_le (by omega) (by omega) (fun _ => ?_) (fun q => by omega)) (fun k a _ ha ih => c_le (by omega) (by omega) (fun q => by omega) (fun _ => s_degreeOf hn hg (by omega) ⟨two_ne, fun z hz => ?_⟩))
  · unfold byd at h
    refine c_eq (b := 2) hw (by omega) (fun q => ?_) (fun q1 => c_eq (b := 4) hw (by omega) (fun q => ?_) (fun q2 => ?_))
    · rw [if_pos q] at h; exact h
    · rw [if_neg q1, if_pos q] at h; exact h
    · rw [if_neg q1, if_neg q2] at h; exact h
  · have hd := dgr_le n g a
    have hm := mxd_le (dgr_le n g) a
    have e1 : z = nI (wed n g (a + 1)) := by
      rw [hz, show sm (hs g a) n = dgr n g a from rfl, among_eq _ (by omega), nI_add]
      rfl
    subst e1
    have fin : ∀ v w' : Nat, mxd (dgr n g) (a + 1) = v → (if dgr n g a = 0 then 1 else 0) = w' → b_X7_byDegrees_11 (nI n) post k (nI g) (nI w) (nI (wed n g (a + 1))) (nI v) (nI (lon n g a) + nI w') (nI a + 1) := by
      intro v w' hv hw'
      subst hv; subst hw'
      rw [nI_add, nI_1]
      exact ih
    show (nI (dgr n g a) ≤ nI (mxd (dgr n g) a) → _) ∧ _
    refine c_le (by omega) (by omega) (fun q => ?_) (fun q => ?_)
    · show (nI (dgr n g a) = nI 0 → _) ∧ _
      refine c_eq (by omega) (by omega) (fun q0 => fin _ 1 (by simp only [mxd]; rw [if_pos q]) (by rw [if_pos q0])) (fun q0 => fin _ 0 (by simp only [mxd]; rw [if_pos q]) (by rw [if_neg q0]))
    · show (nI (dgr n g a) = nI 0 → _) ∧ _
      refine c_eq (by omega) (by omega) (fun q0 => fin _ 1 (by simp only [mxd]; rw [if_neg (by omega)]; rfl) (by rw [if_pos q0])) (fun q0 => fin _ 0 (by simp only [mxd]; rw [if_neg (by omega)]; rfl) (by rw [if_neg q0]))
/-- edges of like labels -/
def lk2 (g : Nat) (lab : Nat → Int32) (b : Nat) : Nat := sm (fun a => if lab a = lab b then hs g a b else 0) b
def lk (n g : Nat) (lab : Nat → Int32) : Nat := sm (lk2 g lab) n
theorem s_likeLabels {n g : Nat} {lab : Nat → Int32} (hn : n ≤ 6) (hg : g < 2 ^ 31) {post : Int32 → Prop} (h : post (nI (lk n g lab))) : wp_X7_likeLabels (nI g) (nI n) lab post := by
  by_cases hn0 : n = 0
  · subst hn0
    exact ⟨1, c_le (a := 0) (b := 1) (by omega) (by omega) (fun _ => h) (fun q => by omega)⟩
  refine lp0 (fun k b => b_X7_likeLabels_4 (nI n) lab post k (nI g) (nI (lk b g lab)) (nI b)) 1 n (by omega) (fun k => c_le (by omega) (by omega) (fun _ => h) (fun q => by omega)) (fun k b h1 hb ih => c_le (by omega) (by omega) (fun q => by omega) (fun _ => ?_))
  refine lp0 (fun k' a => b_X7_likeLabels_15 (nI n) lab post (b_X7_likeLabels_4 (nI n) lab post k) k' (nI g) (nI (lk b g lab + sm (fun a => if lab a = lab b then hs g a b else 0) a)) (nI b) (nI a)) 0 b (by omega) (fun k' => c_le (by omega) (by omega) (fun _ => ?_) (fun q => by omega)) (fun k' a h1 ha iha => c_le (by omega) (by omega) (fun q => by omega) (fun _ => ⟨vp_in_nI (by omega) (by omega), vp_in_nI (by omega) (by omega), ?_⟩))
  · rw [nI_1]; exact ih
  · have fin : ∀ v : Nat, (if lab a = lab b then hs g a b else 0) = v → b_X7_likeLabels_15 (nI n) lab post (b_X7_likeLabels_4 (nI n) lab post k) k' (nI g) (nI (lk b g lab + sm (fun a => if lab a = lab b then hs g a b else 0) a) + nI v) (nI b) (nI a + 1) := by
      intro v hv
      subst hv
      rw [nI_add, nI_1, Nat.add_assoc]
      exact iha
    rw [nI_clamp (by omega), nI_clamp (by omega)]
    refine ⟨fun q => s_has hg (by omega) (by omega) (c01 (hs_01 g a b) (fun e => fin 0 (by rw [if_pos q, e])) (fun e => fin 1 (by rw [if_pos q, e]))), fun q => fin 0 (by rw [if_neg q])⟩
