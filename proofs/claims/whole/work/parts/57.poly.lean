def hb (b : Nat → Nat) (x y : Nat) : Nat := if x = y then 0 else b (pix x y)
def trib (b : Nat → Nat) : Nat := sm (fun c => sm (fun y => sm (fun a => hb b y c * (hb b a y * hb b a c)) y) c) 6
def ov1b (p : Nat) (b : Nat → Nat) : Nat := sm (fun k => hb b (lo p) (oth p k) * hb b (oth p k) (hi p)) 4
theorem tri_b (g : Nat) : tri 6 g = trib (bit g) := rfl
theorem ov1_b (p g : Nat) : ov1 p g = ov1b p (bit g) := rfl
theorem trib_add0 (b : Nat → Nat) (h : b 0 = 0) : trib (fun q => if q = 0 then 1 else b q) = trib b + ov1b 0 b := by
  simp [trib, ov1b, sm, hb, pix, lo, hi, oth, h]
  grind
theorem trib_add7 (b : Nat → Nat) (h : b 7 = 0) : trib (fun q => if q = 7 then 1 else b q) = trib b + ov1b 7 b := by
  simp [trib, ov1b, sm, hb, pix, lo, hi, oth, h]
  grind
