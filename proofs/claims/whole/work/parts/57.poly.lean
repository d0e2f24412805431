/-! triangles and squares as polynomials in the bits -/
def hb (b : Nat → Nat) (x y : Nat) : Nat := if x = y then 0 else b (pix x y)
def trib (b : Nat → Nat) : Nat := sm (fun c => sm (fun y => sm (fun a => hb b y c * (hb b a y * hb b a c)) y) c) 6
def ov1b (p : Nat) (b : Nat → Nat) : Nat := sm (fun k => hb b (lo p) (oth p k) * hb b (oth p k) (hi p)) 4
theorem tri_b (g : Nat) : tri 6 g = trib (bit g) := rfl
theorem ov1_b (p g : Nat) : ov1 p g = ov1b p (bit g) := rfl
def sq1b (w : Nat → Nat) (a b d c : Nat) : Nat := if a < c ∧ c ≠ b ∧ c ≠ d then hb w a b * (hb w a d * (hb w b c * hb w c d)) else 0
def sq2b (w : Nat → Nat) (a b d : Nat) : Nat := if b < d then sm (sq1b w a b d) 6 else 0
def sq3b (w : Nat → Nat) (a b : Nat) : Nat := if a < b then sm (sq2b w a b) 6 else 0
def sqb (w : Nat → Nat) : Nat := sm (fun a => sm (sq3b w a) 6) 6
def ov2b (p : Nat) (w : Nat → Nat) : Nat := sm (fun k => sm (fun j => hb w (lo p) (oth p k) * (hb w (oth p k) (ot3 p (oth p k) j) * hb w (ot3 p (oth p k) j) (hi p))) 3) 4
theorem sq_b (g : Nat) : sq 6 g = sqb (bit g) := rfl
theorem ov2_b (p g : Nat) : ov2 p g = ov2b p (bit g) := rfl
theorem sq3_00 (w : Nat → Nat) : sq3b w 0 0 = 0 := by
  simp [sq3b, sq2b, sq1b, sm, hb, pix]
theorem sq3_01 (w : Nat → Nat) : sq3b w 0 1 = w 0 * (w 1 * (w 4 * w 5)) + w 0 * (w 1 * (w 7 * w 8)) + w 0 * (w 1 * (w 11 * w 12)) + w 0 * (w 3 * (w 2 * w 5)) + w 0 * (w 3 * (w 7 * w 9)) + w 0 * (w 3 * (w 11 * w 13)) + w 0 * (w 6 * (w 2 * w 8)) + w 0 * (w 6 * (w 4 * w 9)) + w 0 * (w 6 * (w 11 * w 14)) + w 0 * (w 10 * (w 2 * w 12)) + w 0 * (w 10 * (w 4 * w 13)) + w 0 * (w 10 * (w 7 * w 14)) := by
  simp [sq3b, sq2b, sq1b, sm, hb, pix]
  try omega
theorem sq3_02 (w : Nat → Nat) : sq3b w 0 2 = w 1 * (w 3 * (w 2 * w 4)) + w 1 * (w 3 * (w 8 * w 9)) + w 1 * (w 3 * (w 12 * w 13)) + w 1 * (w 6 * (w 2 * w 7)) + w 1 * (w 6 * (w 5 * w 9)) + w 1 * (w 6 * (w 12 * w 14)) + w 1 * (w 10 * (w 2 * w 11)) + w 1 * (w 10 * (w 5 * w 13)) + w 1 * (w 10 * (w 8 * w 14)) := by
  simp [sq3b, sq2b, sq1b, sm, hb, pix]
  try omega
theorem sq3_03 (w : Nat → Nat) : sq3b w 0 3 = w 3 * (w 6 * (w 4 * w 7)) + w 3 * (w 6 * (w 5 * w 8)) + w 3 * (w 6 * (w 13 * w 14)) + w 3 * (w 10 * (w 4 * w 11)) + w 3 * (w 10 * (w 5 * w 12)) + w 3 * (w 10 * (w 9 * w 14)) := by
  simp [sq3b, sq2b, sq1b, sm, hb, pix]
  try omega
theorem sq3_04 (w : Nat → Nat) : sq3b w 0 4 = w 6 * (w 10 * (w 7 * w 11)) + w 6 * (w 10 * (w 8 * w 12)) + w 6 * (w 10 * (w 9 * w 13)) := by
  simp [sq3b, sq2b, sq1b, sm, hb, pix]
  try omega
theorem sq3_05 (w : Nat → Nat) : sq3b w 0 5 = 0 := by
  simp [sq3b, sq2b, sq1b, sm, hb, pix]
theorem sq3_10 (w : Nat → Nat) : sq3b w 1 0 = 0 := by
  simp [sq3b, sq2b, sq1b, sm, hb, pix]
theorem sq3_11 (w : Nat → Nat) : sq3b w 1 1 = 0 := by
  simp [sq3b, sq2b, sq1b, sm, hb, pix]
theorem sq3_12 (w : Nat → Nat) : sq3b w 1 2 = w 2 * (w 4 * (w 8 * w 9)) + w 2 * (w 4 * (w 12 * w 13)) + w 2 * (w 7 * (w 5 * w 9)) + w 2 * (w 7 * (w 12 * w 14)) + w 2 * (w 11 * (w 5 * w 13)) + w 2 * (w 11 * (w 8 * w 14)) := by
  simp [sq3b, sq2b, sq1b, sm, hb, pix]
  try omega
theorem sq3_13 (w : Nat → Nat) : sq3b w 1 3 = w 4 * (w 7 * (w 5 * w 8)) + w 4 * (w 7 * (w 13 * w 14)) + w 4 * (w 11 * (w 5 * w 12)) + w 4 * (w 11 * (w 9 * w 14)) := by
  simp [sq3b, sq2b, sq1b, sm, hb, pix]
  try omega
theorem sq3_14 (w : Nat → Nat) : sq3b w 1 4 = w 7 * (w 11 * (w 8 * w 12)) + w 7 * (w 11 * (w 9 * w 13)) := by
  simp [sq3b, sq2b, sq1b, sm, hb, pix]
  try omega
theorem sq3_15 (w : Nat → Nat) : sq3b w 1 5 = 0 := by
  simp [sq3b, sq2b, sq1b, sm, hb, pix]
theorem sq3_20 (w : Nat → Nat) : sq3b w 2 0 = 0 := by
  simp [sq3b, sq2b, sq1b, sm, hb, pix]
theorem sq3_21 (w : Nat → Nat) : sq3b w 2 1 = 0 := by
  simp [sq3b, sq2b, sq1b, sm, hb, pix]
theorem sq3_22 (w : Nat → Nat) : sq3b w 2 2 = 0 := by
  simp [sq3b, sq2b, sq1b, sm, hb, pix]
theorem sq3_23 (w : Nat → Nat) : sq3b w 2 3 = w 5 * (w 8 * (w 13 * w 14)) + w 5 * (w 12 * (w 9 * w 14)) := by
  simp [sq3b, sq2b, sq1b, sm, hb, pix]
  try omega
theorem sq3_24 (w : Nat → Nat) : sq3b w 2 4 = w 8 * (w 12 * (w 9 * w 13)) := by
  simp [sq3b, sq2b, sq1b, sm, hb, pix]
  try omega
theorem sq3_25 (w : Nat → Nat) : sq3b w 2 5 = 0 := by
  simp [sq3b, sq2b, sq1b, sm, hb, pix]
theorem sq3_30 (w : Nat → Nat) : sq3b w 3 0 = 0 := by
  simp [sq3b, sq2b, sq1b, sm, hb, pix]
theorem sq3_31 (w : Nat → Nat) : sq3b w 3 1 = 0 := by
  simp [sq3b, sq2b, sq1b, sm, hb, pix]
theorem sq3_32 (w : Nat → Nat) : sq3b w 3 2 = 0 := by
  simp [sq3b, sq2b, sq1b, sm, hb, pix]
theorem sq3_33 (w : Nat → Nat) : sq3b w 3 3 = 0 := by
  simp [sq3b, sq2b, sq1b, sm, hb, pix]
theorem sq3_34 (w : Nat → Nat) : sq3b w 3 4 = 0 := by
  simp [sq3b, sq2b, sq1b, sm, hb, pix]
theorem sq3_35 (w : Nat → Nat) : sq3b w 3 5 = 0 := by
  simp [sq3b, sq2b, sq1b, sm, hb, pix]
theorem sq3_40 (w : Nat → Nat) : sq3b w 4 0 = 0 := by
  simp [sq3b, sq2b, sq1b, sm, hb, pix]
theorem sq3_41 (w : Nat → Nat) : sq3b w 4 1 = 0 := by
  simp [sq3b, sq2b, sq1b, sm, hb, pix]
theorem sq3_42 (w : Nat → Nat) : sq3b w 4 2 = 0 := by
  simp [sq3b, sq2b, sq1b, sm, hb, pix]
theorem sq3_43 (w : Nat → Nat) : sq3b w 4 3 = 0 := by
  simp [sq3b, sq2b, sq1b, sm, hb, pix]
theorem sq3_44 (w : Nat → Nat) : sq3b w 4 4 = 0 := by
  simp [sq3b, sq2b, sq1b, sm, hb, pix]
theorem sq3_45 (w : Nat → Nat) : sq3b w 4 5 = 0 := by
  simp [sq3b, sq2b, sq1b, sm, hb, pix]
theorem sq3_50 (w : Nat → Nat) : sq3b w 5 0 = 0 := by
  simp [sq3b, sq2b, sq1b, sm, hb, pix]
theorem sq3_51 (w : Nat → Nat) : sq3b w 5 1 = 0 := by
  simp [sq3b, sq2b, sq1b, sm, hb, pix]
theorem sq3_52 (w : Nat → Nat) : sq3b w 5 2 = 0 := by
  simp [sq3b, sq2b, sq1b, sm, hb, pix]
theorem sq3_53 (w : Nat → Nat) : sq3b w 5 3 = 0 := by
  simp [sq3b, sq2b, sq1b, sm, hb, pix]
theorem sq3_54 (w : Nat → Nat) : sq3b w 5 4 = 0 := by
  simp [sq3b, sq2b, sq1b, sm, hb, pix]
theorem sq3_55 (w : Nat → Nat) : sq3b w 5 5 = 0 := by
  simp [sq3b, sq2b, sq1b, sm, hb, pix]
def sqx (w : Nat → Nat) : Nat := w 0 * (w 1 * (w 4 * w 5)) + w 0 * (w 1 * (w 7 * w 8)) + w 0 * (w 1 * (w 11 * w 12)) + w 0 * (w 3 * (w 2 * w 5)) + w 0 * (w 3 * (w 7 * w 9)) + w 0 * (w 3 * (w 11 * w 13)) + w 0 * (w 6 * (w 2 * w 8)) + w 0 * (w 6 * (w 4 * w 9)) + w 0 * (w 6 * (w 11 * w 14)) + w 0 * (w 10 * (w 2 * w 12)) + w 0 * (w 10 * (w 4 * w 13)) + w 0 * (w 10 * (w 7 * w 14)) + w 1 * (w 3 * (w 2 * w 4)) + w 1 * (w 3 * (w 8 * w 9)) + w 1 * (w 3 * (w 12 * w 13)) + w 1 * (w 6 * (w 2 * w 7)) + w 1 * (w 6 * (w 5 * w 9)) + w 1 * (w 6 * (w 12 * w 14)) + w 1 * (w 10 * (w 2 * w 11)) + w 1 * (w 10 * (w 5 * w 13)) + w 1 * (w 10 * (w 8 * w 14)) + w 3 * (w 6 * (w 4 * w 7)) + w 3 * (w 6 * (w 5 * w 8)) + w 3 * (w 6 * (w 13 * w 14)) + w 3 * (w 10 * (w 4 * w 11)) + w 3 * (w 10 * (w 5 * w 12)) + w 3 * (w 10 * (w 9 * w 14)) + w 6 * (w 10 * (w 7 * w 11)) + w 6 * (w 10 * (w 8 * w 12)) + w 6 * (w 10 * (w 9 * w 13)) + w 2 * (w 4 * (w 8 * w 9)) + w 2 * (w 4 * (w 12 * w 13)) + w 2 * (w 7 * (w 5 * w 9)) + w 2 * (w 7 * (w 12 * w 14)) + w 2 * (w 11 * (w 5 * w 13)) + w 2 * (w 11 * (w 8 * w 14)) + w 4 * (w 7 * (w 5 * w 8)) + w 4 * (w 7 * (w 13 * w 14)) + w 4 * (w 11 * (w 5 * w 12)) + w 4 * (w 11 * (w 9 * w 14)) + w 7 * (w 11 * (w 8 * w 12)) + w 7 * (w 11 * (w 9 * w 13)) + w 5 * (w 8 * (w 13 * w 14)) + w 5 * (w 12 * (w 9 * w 14)) + w 8 * (w 12 * (w 9 * w 13))
theorem sqb_x (w : Nat → Nat) : sqb w = sqx w := by
  simp only [sqb, sm, sq3_00, sq3_01, sq3_02, sq3_03, sq3_04, sq3_05, sq3_10, sq3_11, sq3_12, sq3_13, sq3_14, sq3_15, sq3_20, sq3_21, sq3_22, sq3_23, sq3_24, sq3_25, sq3_30, sq3_31, sq3_32, sq3_33, sq3_34, sq3_35, sq3_40, sq3_41, sq3_42, sq3_43, sq3_44, sq3_45, sq3_50, sq3_51, sq3_52, sq3_53, sq3_54, sq3_55, sqx]
  omega
def trx (w : Nat → Nat) : Nat := w 2 * (w 0 * w 1) + w 4 * (w 0 * w 3) + w 5 * (w 1 * w 3) + w 5 * (w 2 * w 4) + w 7 * (w 0 * w 6) + w 8 * (w 1 * w 6) + w 8 * (w 2 * w 7) + w 9 * (w 3 * w 6) + w 9 * (w 4 * w 7) + w 9 * (w 5 * w 8) + w 11 * (w 0 * w 10) + w 12 * (w 1 * w 10) + w 12 * (w 2 * w 11) + w 13 * (w 3 * w 10) + w 13 * (w 4 * w 11) + w 13 * (w 5 * w 12) + w 14 * (w 6 * w 10) + w 14 * (w 7 * w 11) + w 14 * (w 8 * w 12) + w 14 * (w 9 * w 13)
theorem trib_x (w : Nat → Nat) : trib w = trx w := by
  simp [trib, sm, hb, pix, trx]
  try omega
theorem ov1x_0 (w : Nat → Nat) : ov1b 0 w = w 1 * w 2 + w 3 * w 4 + w 6 * w 7 + w 10 * w 11 := by
  simp [ov1b, sm, hb, pix, lo, hi, oth]
  try omega
theorem ov2x_0 (w : Nat → Nat) : ov2b 0 w = w 1 * (w 5 * w 4) + w 1 * (w 8 * w 7) + w 1 * (w 12 * w 11) + w 3 * (w 5 * w 2) + w 3 * (w 9 * w 7) + w 3 * (w 13 * w 11) + w 6 * (w 8 * w 2) + w 6 * (w 9 * w 4) + w 6 * (w 14 * w 11) + w 10 * (w 12 * w 2) + w 10 * (w 13 * w 4) + w 10 * (w 14 * w 7) := by
  simp [ov2b, sm, hb, pix, lo, hi, oth, ot3, List.range, List.range.loop]
  try omega
theorem trx_0 (w : Nat → Nat) (h : w 0 = 0) : trx (fun q => if q = 0 then 1 else w q) = trx w + ov1b 0 w := by
  rw [ov1x_0]
  simp [trx, h]
  grind
theorem sqx_0 (w : Nat → Nat) (h : w 0 = 0) : sqx (fun q => if q = 0 then 1 else w q) = sqx w + ov2b 0 w := by
  rw [ov2x_0]
  simp [sqx, h]
  grind
theorem ov1x_1 (w : Nat → Nat) : ov1b 1 w = w 0 * w 2 + w 3 * w 5 + w 6 * w 8 + w 10 * w 12 := by
  simp [ov1b, sm, hb, pix, lo, hi, oth]
  try omega
theorem ov2x_1 (w : Nat → Nat) : ov2b 1 w = w 0 * (w 4 * w 5) + w 0 * (w 7 * w 8) + w 0 * (w 11 * w 12) + w 3 * (w 4 * w 2) + w 3 * (w 9 * w 8) + w 3 * (w 13 * w 12) + w 6 * (w 7 * w 2) + w 6 * (w 9 * w 5) + w 6 * (w 14 * w 12) + w 10 * (w 11 * w 2) + w 10 * (w 13 * w 5) + w 10 * (w 14 * w 8) := by
  simp [ov2b, sm, hb, pix, lo, hi, oth, ot3, List.range, List.range.loop]
  try omega
theorem trx_1 (w : Nat → Nat) (h : w 1 = 0) : trx (fun q => if q = 1 then 1 else w q) = trx w + ov1b 1 w := by
  rw [ov1x_1]
  simp [trx, h]
  grind
theorem sqx_1 (w : Nat → Nat) (h : w 1 = 0) : sqx (fun q => if q = 1 then 1 else w q) = sqx w + ov2b 1 w := by
  rw [ov2x_1]
  simp [sqx, h]
  grind
theorem ov1x_2 (w : Nat → Nat) : ov1b 2 w = w 0 * w 1 + w 4 * w 5 + w 7 * w 8 + w 11 * w 12 := by
  simp [ov1b, sm, hb, pix, lo, hi, oth]
  try omega
theorem ov2x_2 (w : Nat → Nat) : ov2b 2 w = w 0 * (w 3 * w 5) + w 0 * (w 6 * w 8) + w 0 * (w 10 * w 12) + w 4 * (w 3 * w 1) + w 4 * (w 9 * w 8) + w 4 * (w 13 * w 12) + w 7 * (w 6 * w 1) + w 7 * (w 9 * w 5) + w 7 * (w 14 * w 12) + w 11 * (w 10 * w 1) + w 11 * (w 13 * w 5) + w 11 * (w 14 * w 8) := by
  simp [ov2b, sm, hb, pix, lo, hi, oth, ot3, List.range, List.range.loop]
  try omega
theorem trx_2 (w : Nat → Nat) (h : w 2 = 0) : trx (fun q => if q = 2 then 1 else w q) = trx w + ov1b 2 w := by
  rw [ov1x_2]
  simp [trx, h]
  grind
theorem sqx_2 (w : Nat → Nat) (h : w 2 = 0) : sqx (fun q => if q = 2 then 1 else w q) = sqx w + ov2b 2 w := by
  rw [ov2x_2]
  simp [sqx, h]
  grind
theorem ov1x_3 (w : Nat → Nat) : ov1b 3 w = w 0 * w 4 + w 1 * w 5 + w 6 * w 9 + w 10 * w 13 := by
  simp [ov1b, sm, hb, pix, lo, hi, oth]
  try omega
theorem ov2x_3 (w : Nat → Nat) : ov2b 3 w = w 0 * (w 2 * w 5) + w 0 * (w 7 * w 9) + w 0 * (w 11 * w 13) + w 1 * (w 2 * w 4) + w 1 * (w 8 * w 9) + w 1 * (w 12 * w 13) + w 6 * (w 7 * w 4) + w 6 * (w 8 * w 5) + w 6 * (w 14 * w 13) + w 10 * (w 11 * w 4) + w 10 * (w 12 * w 5) + w 10 * (w 14 * w 9) := by
  simp [ov2b, sm, hb, pix, lo, hi, oth, ot3, List.range, List.range.loop]
  try omega
theorem trx_3 (w : Nat → Nat) (h : w 3 = 0) : trx (fun q => if q = 3 then 1 else w q) = trx w + ov1b 3 w := by
  rw [ov1x_3]
  simp [trx, h]
  grind
theorem sqx_3 (w : Nat → Nat) (h : w 3 = 0) : sqx (fun q => if q = 3 then 1 else w q) = sqx w + ov2b 3 w := by
  rw [ov2x_3]
  simp [sqx, h]
  grind
theorem ov1x_4 (w : Nat → Nat) : ov1b 4 w = w 0 * w 3 + w 2 * w 5 + w 7 * w 9 + w 11 * w 13 := by
  simp [ov1b, sm, hb, pix, lo, hi, oth]
  try omega
theorem ov2x_4 (w : Nat → Nat) : ov2b 4 w = w 0 * (w 1 * w 5) + w 0 * (w 6 * w 9) + w 0 * (w 10 * w 13) + w 2 * (w 1 * w 3) + w 2 * (w 8 * w 9) + w 2 * (w 12 * w 13) + w 7 * (w 6 * w 3) + w 7 * (w 8 * w 5) + w 7 * (w 14 * w 13) + w 11 * (w 10 * w 3) + w 11 * (w 12 * w 5) + w 11 * (w 14 * w 9) := by
  simp [ov2b, sm, hb, pix, lo, hi, oth, ot3, List.range, List.range.loop]
  try omega
theorem trx_4 (w : Nat → Nat) (h : w 4 = 0) : trx (fun q => if q = 4 then 1 else w q) = trx w + ov1b 4 w := by
  rw [ov1x_4]
  simp [trx, h]
  grind
theorem sqx_4 (w : Nat → Nat) (h : w 4 = 0) : sqx (fun q => if q = 4 then 1 else w q) = sqx w + ov2b 4 w := by
  rw [ov2x_4]
  simp [sqx, h]
  grind
theorem ov1x_5 (w : Nat → Nat) : ov1b 5 w = w 1 * w 3 + w 2 * w 4 + w 8 * w 9 + w 12 * w 13 := by
  simp [ov1b, sm, hb, pix, lo, hi, oth]
  try omega
theorem ov2x_5 (w : Nat → Nat) : ov2b 5 w = w 1 * (w 0 * w 4) + w 1 * (w 6 * w 9) + w 1 * (w 10 * w 13) + w 2 * (w 0 * w 3) + w 2 * (w 7 * w 9) + w 2 * (w 11 * w 13) + w 8 * (w 6 * w 3) + w 8 * (w 7 * w 4) + w 8 * (w 14 * w 13) + w 12 * (w 10 * w 3) + w 12 * (w 11 * w 4) + w 12 * (w 14 * w 9) := by
  simp [ov2b, sm, hb, pix, lo, hi, oth, ot3, List.range, List.range.loop]
  try omega
theorem trx_5 (w : Nat → Nat) (h : w 5 = 0) : trx (fun q => if q = 5 then 1 else w q) = trx w + ov1b 5 w := by
  rw [ov1x_5]
  simp [trx, h]
  grind
theorem sqx_5 (w : Nat → Nat) (h : w 5 = 0) : sqx (fun q => if q = 5 then 1 else w q) = sqx w + ov2b 5 w := by
  rw [ov2x_5]
  simp [sqx, h]
  grind
theorem ov1x_6 (w : Nat → Nat) : ov1b 6 w = w 0 * w 7 + w 1 * w 8 + w 3 * w 9 + w 10 * w 14 := by
  simp [ov1b, sm, hb, pix, lo, hi, oth]
  try omega
theorem ov2x_6 (w : Nat → Nat) : ov2b 6 w = w 0 * (w 2 * w 8) + w 0 * (w 4 * w 9) + w 0 * (w 11 * w 14) + w 1 * (w 2 * w 7) + w 1 * (w 5 * w 9) + w 1 * (w 12 * w 14) + w 3 * (w 4 * w 7) + w 3 * (w 5 * w 8) + w 3 * (w 13 * w 14) + w 10 * (w 11 * w 7) + w 10 * (w 12 * w 8) + w 10 * (w 13 * w 9) := by
  simp [ov2b, sm, hb, pix, lo, hi, oth, ot3, List.range, List.range.loop]
  try omega
theorem trx_6 (w : Nat → Nat) (h : w 6 = 0) : trx (fun q => if q = 6 then 1 else w q) = trx w + ov1b 6 w := by
  rw [ov1x_6]
  simp [trx, h]
  grind
theorem sqx_6 (w : Nat → Nat) (h : w 6 = 0) : sqx (fun q => if q = 6 then 1 else w q) = sqx w + ov2b 6 w := by
  rw [ov2x_6]
  simp [sqx, h]
  grind
theorem ov1x_7 (w : Nat → Nat) : ov1b 7 w = w 0 * w 6 + w 2 * w 8 + w 4 * w 9 + w 11 * w 14 := by
  simp [ov1b, sm, hb, pix, lo, hi, oth]
  try omega
theorem ov2x_7 (w : Nat → Nat) : ov2b 7 w = w 0 * (w 1 * w 8) + w 0 * (w 3 * w 9) + w 0 * (w 10 * w 14) + w 2 * (w 1 * w 6) + w 2 * (w 5 * w 9) + w 2 * (w 12 * w 14) + w 4 * (w 3 * w 6) + w 4 * (w 5 * w 8) + w 4 * (w 13 * w 14) + w 11 * (w 10 * w 6) + w 11 * (w 12 * w 8) + w 11 * (w 13 * w 9) := by
  simp [ov2b, sm, hb, pix, lo, hi, oth, ot3, List.range, List.range.loop]
  try omega
theorem trx_7 (w : Nat → Nat) (h : w 7 = 0) : trx (fun q => if q = 7 then 1 else w q) = trx w + ov1b 7 w := by
  rw [ov1x_7]
  simp [trx, h]
  grind
theorem sqx_7 (w : Nat → Nat) (h : w 7 = 0) : sqx (fun q => if q = 7 then 1 else w q) = sqx w + ov2b 7 w := by
  rw [ov2x_7]
  simp [sqx, h]
  grind
theorem ov1x_8 (w : Nat → Nat) : ov1b 8 w = w 1 * w 6 + w 2 * w 7 + w 5 * w 9 + w 12 * w 14 := by
  simp [ov1b, sm, hb, pix, lo, hi, oth]
  try omega
theorem ov2x_8 (w : Nat → Nat) : ov2b 8 w = w 1 * (w 0 * w 7) + w 1 * (w 3 * w 9) + w 1 * (w 10 * w 14) + w 2 * (w 0 * w 6) + w 2 * (w 4 * w 9) + w 2 * (w 11 * w 14) + w 5 * (w 3 * w 6) + w 5 * (w 4 * w 7) + w 5 * (w 13 * w 14) + w 12 * (w 10 * w 6) + w 12 * (w 11 * w 7) + w 12 * (w 13 * w 9) := by
  simp [ov2b, sm, hb, pix, lo, hi, oth, ot3, List.range, List.range.loop]
  try omega
theorem trx_8 (w : Nat → Nat) (h : w 8 = 0) : trx (fun q => if q = 8 then 1 else w q) = trx w + ov1b 8 w := by
  rw [ov1x_8]
  simp [trx, h]
  grind
theorem sqx_8 (w : Nat → Nat) (h : w 8 = 0) : sqx (fun q => if q = 8 then 1 else w q) = sqx w + ov2b 8 w := by
  rw [ov2x_8]
  simp [sqx, h]
  grind
theorem ov1x_9 (w : Nat → Nat) : ov1b 9 w = w 3 * w 6 + w 4 * w 7 + w 5 * w 8 + w 13 * w 14 := by
  simp [ov1b, sm, hb, pix, lo, hi, oth]
  try omega
theorem ov2x_9 (w : Nat → Nat) : ov2b 9 w = w 3 * (w 0 * w 7) + w 3 * (w 1 * w 8) + w 3 * (w 10 * w 14) + w 4 * (w 0 * w 6) + w 4 * (w 2 * w 8) + w 4 * (w 11 * w 14) + w 5 * (w 1 * w 6) + w 5 * (w 2 * w 7) + w 5 * (w 12 * w 14) + w 13 * (w 10 * w 6) + w 13 * (w 11 * w 7) + w 13 * (w 12 * w 8) := by
  simp [ov2b, sm, hb, pix, lo, hi, oth, ot3, List.range, List.range.loop]
  try omega
theorem trx_9 (w : Nat → Nat) (h : w 9 = 0) : trx (fun q => if q = 9 then 1 else w q) = trx w + ov1b 9 w := by
  rw [ov1x_9]
  simp [trx, h]
  grind
theorem sqx_9 (w : Nat → Nat) (h : w 9 = 0) : sqx (fun q => if q = 9 then 1 else w q) = sqx w + ov2b 9 w := by
  rw [ov2x_9]
  simp [sqx, h]
  grind
theorem ov1x_10 (w : Nat → Nat) : ov1b 10 w = w 0 * w 11 + w 1 * w 12 + w 3 * w 13 + w 6 * w 14 := by
  simp [ov1b, sm, hb, pix, lo, hi, oth]
  try omega
theorem ov2x_10 (w : Nat → Nat) : ov2b 10 w = w 0 * (w 2 * w 12) + w 0 * (w 4 * w 13) + w 0 * (w 7 * w 14) + w 1 * (w 2 * w 11) + w 1 * (w 5 * w 13) + w 1 * (w 8 * w 14) + w 3 * (w 4 * w 11) + w 3 * (w 5 * w 12) + w 3 * (w 9 * w 14) + w 6 * (w 7 * w 11) + w 6 * (w 8 * w 12) + w 6 * (w 9 * w 13) := by
  simp [ov2b, sm, hb, pix, lo, hi, oth, ot3, List.range, List.range.loop]
  try omega
theorem trx_10 (w : Nat → Nat) (h : w 10 = 0) : trx (fun q => if q = 10 then 1 else w q) = trx w + ov1b 10 w := by
  rw [ov1x_10]
  simp [trx, h]
  grind
theorem sqx_10 (w : Nat → Nat) (h : w 10 = 0) : sqx (fun q => if q = 10 then 1 else w q) = sqx w + ov2b 10 w := by
  rw [ov2x_10]
  simp [sqx, h]
  grind
theorem ov1x_11 (w : Nat → Nat) : ov1b 11 w = w 0 * w 10 + w 2 * w 12 + w 4 * w 13 + w 7 * w 14 := by
  simp [ov1b, sm, hb, pix, lo, hi, oth]
  try omega
theorem ov2x_11 (w : Nat → Nat) : ov2b 11 w = w 0 * (w 1 * w 12) + w 0 * (w 3 * w 13) + w 0 * (w 6 * w 14) + w 2 * (w 1 * w 10) + w 2 * (w 5 * w 13) + w 2 * (w 8 * w 14) + w 4 * (w 3 * w 10) + w 4 * (w 5 * w 12) + w 4 * (w 9 * w 14) + w 7 * (w 6 * w 10) + w 7 * (w 8 * w 12) + w 7 * (w 9 * w 13) := by
  simp [ov2b, sm, hb, pix, lo, hi, oth, ot3, List.range, List.range.loop]
  try omega
theorem trx_11 (w : Nat → Nat) (h : w 11 = 0) : trx (fun q => if q = 11 then 1 else w q) = trx w + ov1b 11 w := by
  rw [ov1x_11]
  simp [trx, h]
  grind
theorem sqx_11 (w : Nat → Nat) (h : w 11 = 0) : sqx (fun q => if q = 11 then 1 else w q) = sqx w + ov2b 11 w := by
  rw [ov2x_11]
  simp [sqx, h]
  grind
theorem ov1x_12 (w : Nat → Nat) : ov1b 12 w = w 1 * w 10 + w 2 * w 11 + w 5 * w 13 + w 8 * w 14 := by
  simp [ov1b, sm, hb, pix, lo, hi, oth]
  try omega
theorem ov2x_12 (w : Nat → Nat) : ov2b 12 w = w 1 * (w 0 * w 11) + w 1 * (w 3 * w 13) + w 1 * (w 6 * w 14) + w 2 * (w 0 * w 10) + w 2 * (w 4 * w 13) + w 2 * (w 7 * w 14) + w 5 * (w 3 * w 10) + w 5 * (w 4 * w 11) + w 5 * (w 9 * w 14) + w 8 * (w 6 * w 10) + w 8 * (w 7 * w 11) + w 8 * (w 9 * w 13) := by
  simp [ov2b, sm, hb, pix, lo, hi, oth, ot3, List.range, List.range.loop]
  try omega
theorem trx_12 (w : Nat → Nat) (h : w 12 = 0) : trx (fun q => if q = 12 then 1 else w q) = trx w + ov1b 12 w := by
  rw [ov1x_12]
  simp [trx, h]
  grind
theorem sqx_12 (w : Nat → Nat) (h : w 12 = 0) : sqx (fun q => if q = 12 then 1 else w q) = sqx w + ov2b 12 w := by
  rw [ov2x_12]
  simp [sqx, h]
  grind
theorem ov1x_13 (w : Nat → Nat) : ov1b 13 w = w 3 * w 10 + w 4 * w 11 + w 5 * w 12 + w 9 * w 14 := by
  simp [ov1b, sm, hb, pix, lo, hi, oth]
  try omega
theorem ov2x_13 (w : Nat → Nat) : ov2b 13 w = w 3 * (w 0 * w 11) + w 3 * (w 1 * w 12) + w 3 * (w 6 * w 14) + w 4 * (w 0 * w 10) + w 4 * (w 2 * w 12) + w 4 * (w 7 * w 14) + w 5 * (w 1 * w 10) + w 5 * (w 2 * w 11) + w 5 * (w 8 * w 14) + w 9 * (w 6 * w 10) + w 9 * (w 7 * w 11) + w 9 * (w 8 * w 12) := by
  simp [ov2b, sm, hb, pix, lo, hi, oth, ot3, List.range, List.range.loop]
  try omega
theorem trx_13 (w : Nat → Nat) (h : w 13 = 0) : trx (fun q => if q = 13 then 1 else w q) = trx w + ov1b 13 w := by
  rw [ov1x_13]
  simp [trx, h]
  grind
theorem sqx_13 (w : Nat → Nat) (h : w 13 = 0) : sqx (fun q => if q = 13 then 1 else w q) = sqx w + ov2b 13 w := by
  rw [ov2x_13]
  simp [sqx, h]
  grind
theorem ov1x_14 (w : Nat → Nat) : ov1b 14 w = w 6 * w 10 + w 7 * w 11 + w 8 * w 12 + w 9 * w 13 := by
  simp [ov1b, sm, hb, pix, lo, hi, oth]
  try omega
theorem ov2x_14 (w : Nat → Nat) : ov2b 14 w = w 6 * (w 0 * w 11) + w 6 * (w 1 * w 12) + w 6 * (w 3 * w 13) + w 7 * (w 0 * w 10) + w 7 * (w 2 * w 12) + w 7 * (w 4 * w 13) + w 8 * (w 1 * w 10) + w 8 * (w 2 * w 11) + w 8 * (w 5 * w 13) + w 9 * (w 3 * w 10) + w 9 * (w 4 * w 11) + w 9 * (w 5 * w 12) := by
  simp [ov2b, sm, hb, pix, lo, hi, oth, ot3, List.range, List.range.loop]
  try omega
theorem trx_14 (w : Nat → Nat) (h : w 14 = 0) : trx (fun q => if q = 14 then 1 else w q) = trx w + ov1b 14 w := by
  rw [ov1x_14]
  simp [trx, h]
  grind
theorem sqx_14 (w : Nat → Nat) (h : w 14 = 0) : sqx (fun q => if q = 14 then 1 else w q) = sqx w + ov2b 14 w := by
  rw [ov2x_14]
  simp [sqx, h]
  grind
theorem tri_add {g p : Nat} (hp : p < 15) (hg : g < 2 ^ p) : tri 6 (g + 2 ^ p) = tri 6 g + ov1 p g := by
  have e : bit (g + 2 ^ p) = fun q => if q = p then 1 else bit g q := funext (fun q => bit_add hg q)
  have z : bit g p = 0 := bit_big hg (Nat.le_refl _)
  rw [tri_b, tri_b, trib_x, trib_x, ov1_b, e]
  generalize bit g = w at z ⊢
  rcases (show p = 0 ∨ p = 1 ∨ p = 2 ∨ p = 3 ∨ p = 4 ∨ p = 5 ∨ p = 6 ∨ p = 7 ∨ p = 8 ∨ p = 9 ∨ p = 10 ∨ p = 11 ∨ p = 12 ∨ p = 13 ∨ p = 14 by omega) with rfl | rfl | rfl | rfl | rfl | rfl | rfl | rfl | rfl | rfl | rfl | rfl | rfl | rfl | rfl
  · exact trx_0 w z
  · exact trx_1 w z
  · exact trx_2 w z
  · exact trx_3 w z
  · exact trx_4 w z
  · exact trx_5 w z
  · exact trx_6 w z
  · exact trx_7 w z
  · exact trx_8 w z
  · exact trx_9 w z
  · exact trx_10 w z
  · exact trx_11 w z
  · exact trx_12 w z
  · exact trx_13 w z
  · exact trx_14 w z
theorem sq_add {g p : Nat} (hp : p < 15) (hg : g < 2 ^ p) : sq 6 (g + 2 ^ p) = sq 6 g + ov2 p g := by
  have e : bit (g + 2 ^ p) = fun q => if q = p then 1 else bit g q := funext (fun q => bit_add hg q)
  have z : bit g p = 0 := bit_big hg (Nat.le_refl _)
  rw [sq_b, sq_b, sqb_x, sqb_x, ov2_b, e]
  generalize bit g = w at z ⊢
  rcases (show p = 0 ∨ p = 1 ∨ p = 2 ∨ p = 3 ∨ p = 4 ∨ p = 5 ∨ p = 6 ∨ p = 7 ∨ p = 8 ∨ p = 9 ∨ p = 10 ∨ p = 11 ∨ p = 12 ∨ p = 13 ∨ p = 14 by omega) with rfl | rfl | rfl | rfl | rfl | rfl | rfl | rfl | rfl | rfl | rfl | rfl | rfl | rfl | rfl
  · exact sqx_0 w z
  · exact sqx_1 w z
  · exact sqx_2 w z
  · exact sqx_3 w z
  · exact sqx_4 w z
  · exact sqx_5 w z
  · exact sqx_6 w z
  · exact sqx_7 w z
  · exact sqx_8 w z
  · exact sqx_9 w z
  · exact sqx_10 w z
  · exact sqx_11 w z
  · exact sqx_12 w z
  · exact sqx_13 w z
  · exact sqx_14 w z
