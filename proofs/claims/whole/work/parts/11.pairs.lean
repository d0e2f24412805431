def b_X1_hangTogether_96 (f_lo : Nat → Int32) (f_hi : Nat → Int32) (post : Int32 → Prop) (x3 : Int32) (x4 : Int32) : Prop := ((((x4 >>> (x3 &&& 31)) &&& (1 : Int32)) = 0 → post (0 : Int32) ) ∧ (¬ ((x4 >>> (x3 &&& 31)) &&& (1 : Int32)) = 0 → post (1 : Int32) ))
def b_X1_hangTogether_84 (f_lo : Nat → Int32) (f_hi : Nat → Int32) (post : Int32 → Prop) (k11 : (Int32) → (Int32) → (Int32) → (Int32) → (Int32) → Prop) (k32 : (Int32) → (Int32) → (Int32) → (Int32) → (Int32) → (Int32) → Prop) (x1 : Int32) (x3 : Int32) (x4 : Int32) (x5 : Int32) (x6 : Int32) (x7 : Int32) : Prop := k32 x1 x3 x4 x5 x6 (x7 + 1)
def b_X1_hangTogether_32 (f_lo : Nat → Int32) (f_hi : Nat → Int32) (post : Int32 → Prop) (k11 : (Int32) → (Int32) → (Int32) → (Int32) → (Int32) → Prop) : Nat → (Int32) → (Int32) → (Int32) → (Int32) → (Int32) → (Int32) → Prop
  | 0 => fun x1 x3 x4 x5 x6 x7 => False
  | n32 + 1 => fun x1 x3 x4 x5 x6 x7 => (((15 : Int32) ≤ x7 → k11 x1 x3 x4 x5 (x6 + 1)) ∧ (¬ (15 : Int32) ≤ x7 → (vp_in x7 15 ∧ (vp_in x7 15 ∧ (∀ z7 : Int32, z7 = (((1 : Int32) <<< ((f_lo x7.toNatClampNeg) &&& 31)) ||| ((1 : Int32) <<< ((f_hi x7.toNatClampNeg) &&& 31))) → ((((x1 >>> (x7 &&& 31)) &&& (1 : Int32)) = 0 → b_X1_hangTogether_84 f_lo f_hi post k11 (b_X1_hangTogether_32 f_lo f_hi post k11 n32) x1 x3 x4 x5 x6 x7) ∧ (¬ ((x1 >>> (x7 &&& 31)) &&& (1 : Int32)) = 0 → (((x4 &&& z7) = 0 → b_X1_hangTogether_84 f_lo f_hi post k11 (b_X1_hangTogether_32 f_lo f_hi post k11 n32) x1 x3 x4 x5 x6 x7) ∧ (¬ (x4 &&& z7) = 0 → b_X1_hangTogether_84 f_lo f_hi post k11 (b_X1_hangTogether_32 f_lo f_hi post k11 n32) x1 x3 (x4 ||| z7) x5 x6 x7)))))))))
def b_X1_hangTogether_11 (f_lo : Nat → Int32) (f_hi : Nat → Int32) (post : Int32 → Prop) : Nat → (Int32) → (Int32) → (Int32) → (Int32) → (Int32) → Prop
  | 0 => fun x1 x3 x4 x5 x6 => False
  | n11 + 1 => fun x1 x3 x4 x5 x6 => (((6 : Int32) ≤ x6 → b_X1_hangTogether_96 f_lo f_hi post  x3 x4) ∧ (¬ (6 : Int32) ≤ x6 → ((x4 = x5 → b_X1_hangTogether_96 f_lo f_hi post  x3 x4) ∧ (¬ x4 = x5 → ∃ n : Nat, b_X1_hangTogether_32 f_lo f_hi post (b_X1_hangTogether_11 f_lo f_hi post  n11) n x1 x3 x4 x4 x6 (0 : Int32)))))
def wp_X1_hangTogether (p_graph : Int32) (p_from_ : Int32) (p_to_ : Int32) (f_lo : Nat → Int32) (f_hi : Nat → Int32) (post : Int32 → Prop) : Prop := ∃ n : Nat, b_X1_hangTogether_11 f_lo f_hi post  n p_graph p_to_ ((1 : Int32) <<< (p_from_ &&& 31)) (0 : Int32) (1 : Int32)
abbrev q_X1_hangTogether (g : xG) (a_pr : Nat) (a_lo : Nat) (a_hi : Nat) (a_st : Nat) (f_lo : Nat → Int32) (f_hi : Nat → Int32) (f_st : Nat → Int32) (post : Int32 → Prop) : (Nat → Prop) → Array Value → State → Outcome → State → Prop := xQi g (fun (r : Int32) (u : Unit) => post r ) (fun (_ : Unit) => [(a_pr, .inr (1, [.ref a_lo, .ref a_hi, .ref a_st])), (a_lo, .inl (xcI g, 15, .inl f_lo)), (a_hi, .inl (xcI g, 15, .inl f_hi)), (a_st, .inl (xcI g, 6, .inl f_st))])
theorem in_X1_hangTogether_X1 : ∀ w ∈ u_ws RX1 TX1 3, w ∈ wsX1_hangTogether := by decide +kernel
set_option maxHeartbeats 1000000 in
set_option maxRecDepth 100000 in
theorem w_X1_hangTogether_96 {p : Program} {l : Launch} {e : Env} {s : State} {m : MethodId} {args : Array Value} {below : List Frame} {meth : Method} {c : Code} {A : Nat → Prop} {g : xG} (C0 : vx g p s m args meth c cX1_hangTogether (some .boolean) 9 yX1_hangTogether wsX1_hangTogether A) (a_pr : Nat) (a_lo : Nat) (a_hi : Nat) (a_st : Nat) (f_lo : Nat → Int32) (f_hi : Nat → Int32) (f_st : Nat → Int32) (post : Int32 → Prop) (x3 : Int32) (x4 : Int32) {H : Heap} {locs : List Loc} {ls : Array Slot} (hP : va_P g.1 vwCl [(a_pr, .inr (1, [.ref a_lo, .ref a_hi, .ref a_st])), (a_lo, .inl (xcI g, 15, .inl f_lo)), (a_hi, .inl (xcI g, 15, .inl f_hi)), (a_st, .inl (xcI g, 6, .inl f_st))] H) (hD : va_D A [(a_pr, .inr (1, [.ref a_lo, .ref a_hi, .ref a_st])), (a_lo, .inl (xcI g, 15, .inl f_lo)), (a_hi, .inl (xcI g, 15, .inl f_hi)), (a_st, .inl (xcI g, 6, .inl f_st))]) (hS : va_S A s.heap H locs) (hl : lv_has ls 9 [(3, .int x3), (4, .int x4)]) (h : b_X1_hangTogether_96 f_lo f_hi post  x3 x4) : W p l e ({ frames := 0, cells := 0, slots := 0, locals := 0 } : Room) s m args below meth c H locs 0 0 (MQ below ((q_X1_hangTogether g a_pr a_lo a_hi a_st f_lo f_hi f_st post) A) args s 0 0 A) (F0 m 96 ls []) := by
  obtain ⟨hx, hb, hr, hml, hown, hin, hts, hlocks, hA, hK, hZ⟩ := id C0
  have hown : s.vm.findClass RX1 = some m.cls := hown
  unfold b_X1_hangTogether_96 at h
  refine lv_iload hx hb dX1_hangTogether_96 (lv_at hl 1 rfl) ?_
  refine lv_iload_n hx hb dX1_hangTogether_98 rfl (lv_at hl 0 rfl) ?_
  refine lv_ishr hx hb dX1_hangTogether_99 ?_
  refine lv_iconst (v := 1) hx hb dX1_hangTogether_100 (by decide) ?_
  refine lv_iand hx hb dX1_hangTogether_101 ?_
  refine lv_if_eq (tgt := 109) hx hb dX1_hangTogether_102 (by decide) (fun c3 => ?_) (fun c3 => ?_)
  · have h := h.1 c3
    refine lv_iconst (v := 0) hx hb dX1_hangTogether_109 (by decide) ?_
    exact xretz () C0 rfl hP hD hS h dX1_hangTogether_110
  · have h := h.2 c3
    refine lv_iconst (v := 1) hx hb dX1_hangTogether_105 (by decide) ?_
    refine lv_goto (tgt := 110) hx hb dX1_hangTogether_106 (by decide) ?_
    exact xretz () C0 rfl hP hD hS h dX1_hangTogether_110
set_option maxHeartbeats 1000000 in
set_option maxRecDepth 100000 in
theorem w_X1_hangTogether_84 {p : Program} {l : Launch} {e : Env} {s : State} {m : MethodId} {args : Array Value} {below : List Frame} {meth : Method} {c : Code} {A : Nat → Prop} {g : xG} (C0 : vx g p s m args meth c cX1_hangTogether (some .boolean) 9 yX1_hangTogether wsX1_hangTogether A) (a_pr : Nat) (a_lo : Nat) (a_hi : Nat) (a_st : Nat) (f_lo : Nat → Int32) (f_hi : Nat → Int32) (f_st : Nat → Int32) (post : Int32 → Prop) (k11 : (Int32) → (Int32) → (Int32) → (Int32) → (Int32) → Prop) (k32 : (Int32) → (Int32) → (Int32) → (Int32) → (Int32) → (Int32) → Prop) (hk11 : ∀ (x1 : Int32) (x3 : Int32) (x4 : Int32) (x5 : Int32) (x6 : Int32) {H : Heap} {locs : List Loc} {ls : Array Slot}, va_P g.1 vwCl [(a_pr, .inr (1, [.ref a_lo, .ref a_hi, .ref a_st])), (a_lo, .inl (xcI g, 15, .inl f_lo)), (a_hi, .inl (xcI g, 15, .inl f_hi)), (a_st, .inl (xcI g, 6, .inl f_st))] H → va_D A [(a_pr, .inr (1, [.ref a_lo, .ref a_hi, .ref a_st])), (a_lo, .inl (xcI g, 15, .inl f_lo)), (a_hi, .inl (xcI g, 15, .inl f_hi)), (a_st, .inl (xcI g, 6, .inl f_st))] → va_S A s.heap H locs → lv_has ls 9 [(0, .ref a_pr), (1, .int x1), (3, .int x3), (4, .int x4), (5, .int x5), (6, .int x6)] → k11 x1 x3 x4 x5 x6 → W p l e ({ frames := 0, cells := 0, slots := 0, locals := 0 } : Room) s m args below meth c H locs 0 0 (MQ below ((q_X1_hangTogether g a_pr a_lo a_hi a_st f_lo f_hi f_st post) A) args s 0 0 A) (F0 m 11 ls [])) (hk32 : ∀ (x1 : Int32) (x3 : Int32) (x4 : Int32) (x5 : Int32) (x6 : Int32) (x7 : Int32) {H : Heap} {locs : List Loc} {ls : Array Slot}, va_P g.1 vwCl [(a_pr, .inr (1, [.ref a_lo, .ref a_hi, .ref a_st])), (a_lo, .inl (xcI g, 15, .inl f_lo)), (a_hi, .inl (xcI g, 15, .inl f_hi)), (a_st, .inl (xcI g, 6, .inl f_st))] H → va_D A [(a_pr, .inr (1, [.ref a_lo, .ref a_hi, .ref a_st])), (a_lo, .inl (xcI g, 15, .inl f_lo)), (a_hi, .inl (xcI g, 15, .inl f_hi)), (a_st, .inl (xcI g, 6, .inl f_st))] → va_S A s.heap H locs → lv_has ls 9 [(0, .ref a_pr), (1, .int x1), (3, .int x3), (4, .int x4), (5, .int x5), (6, .int x6), (7, .int x7)] → k32 x1 x3 x4 x5 x6 x7 → W p l e ({ frames := 0, cells := 0, slots := 0, locals := 0 } : Room) s m args below meth c H locs 0 0 (MQ below ((q_X1_hangTogether g a_pr a_lo a_hi a_st f_lo f_hi f_st post) A) args s 0 0 A) (F0 m 32 ls [])) (x1 : Int32) (x3 : Int32) (x4 : Int32) (x5 : Int32) (x6 : Int32) (x7 : Int32) {H : Heap} {locs : List Loc} {ls : Array Slot} (hP : va_P g.1 vwCl [(a_pr, .inr (1, [.ref a_lo, .ref a_hi, .ref a_st])), (a_lo, .inl (xcI g, 15, .inl f_lo)), (a_hi, .inl (xcI g, 15, .inl f_hi)), (a_st, .inl (xcI g, 6, .inl f_st))] H) (hD : va_D A [(a_pr, .inr (1, [.ref a_lo, .ref a_hi, .ref a_st])), (a_lo, .inl (xcI g, 15, .inl f_lo)), (a_hi, .inl (xcI g, 15, .inl f_hi)), (a_st, .inl (xcI g, 6, .inl f_st))]) (hS : va_S A s.heap H locs) (hl : lv_has ls 9 [(0, .ref a_pr), (1, .int x1), (3, .int x3), (4, .int x4), (5, .int x5), (6, .int x6), (7, .int x7)]) (h : b_X1_hangTogether_84 f_lo f_hi post k11 k32 x1 x3 x4 x5 x6 x7) : W p l e ({ frames := 0, cells := 0, slots := 0, locals := 0 } : Room) s m args below meth c H locs 0 0 (MQ below ((q_X1_hangTogether g a_pr a_lo a_hi a_st f_lo f_hi f_st post) A) args s 0 0 A) (F0 m 84 ls []) := by
  obtain ⟨hx, hb, hr, hml, hown, hin, hts, hlocks, hA, hK, hZ⟩ := id C0
  have hown : s.vm.findClass RX1 = some m.cls := hown
  unfold b_X1_hangTogether_84 at h
  refine lv_iinc (v := (x7 + 1)) (lv' := [(7, .int (x7 + 1)), (0, .ref a_pr), (1, .int x1), (3, .int x3), (4, .int x4), (5, .int x5), (6, .int x6)]) hx hb dX1_hangTogether_84 hl (k := 6) rfl rfl (by decide) rfl (fun ls hl => ?_)
  refine lv_goto (tgt := 32) hx hb dX1_hangTogether_87 (by decide) ?_
  exact hk32  x1 x3 x4 x5 x6 (x7 + 1) hP hD hS (lv_sub hl [1, 2, 3, 4, 5, 6, 0] rfl) h
set_option maxHeartbeats 1000000 in
set_option maxRecDepth 100000 in
theorem w_X1_hangTogether_32 {p : Program} {l : Launch} {e : Env} {s : State} {m : MethodId} {args : Array Value} {below : List Frame} {meth : Method} {c : Code} {A : Nat → Prop} {g : xG} (C0 : vx g p s m args meth c cX1_hangTogether (some .boolean) 9 yX1_hangTogether wsX1_hangTogether A) (a_pr : Nat) (a_lo : Nat) (a_hi : Nat) (a_st : Nat) (f_lo : Nat → Int32) (f_hi : Nat → Int32) (f_st : Nat → Int32) (post : Int32 → Prop) (k11 : (Int32) → (Int32) → (Int32) → (Int32) → (Int32) → Prop) (hk11 : ∀ (x1 : Int32) (x3 : Int32) (x4 : Int32) (x5 : Int32) (x6 : Int32) {H : Heap} {locs : List Loc} {ls : Array Slot}, va_P g.1 vwCl [(a_pr, .inr (1, [.ref a_lo, .ref a_hi, .ref a_st])), (a_lo, .inl (xcI g, 15, .inl f_lo)), (a_hi, .inl (xcI g, 15, .inl f_hi)), (a_st, .inl (xcI g, 6, .inl f_st))] H → va_D A [(a_pr, .inr (1, [.ref a_lo, .ref a_hi, .ref a_st])), (a_lo, .inl (xcI g, 15, .inl f_lo)), (a_hi, .inl (xcI g, 15, .inl f_hi)), (a_st, .inl (xcI g, 6, .inl f_st))] → va_S A s.heap H locs → lv_has ls 9 [(0, .ref a_pr), (1, .int x1), (3, .int x3), (4, .int x4), (5, .int x5), (6, .int x6)] → k11 x1 x3 x4 x5 x6 → W p l e ({ frames := 0, cells := 0, slots := 0, locals := 0 } : Room) s m args below meth c H locs 0 0 (MQ below ((q_X1_hangTogether g a_pr a_lo a_hi a_st f_lo f_hi f_st post) A) args s 0 0 A) (F0 m 11 ls [])) : ∀ (n : Nat) (x1 : Int32) (x3 : Int32) (x4 : Int32) (x5 : Int32) (x6 : Int32) (x7 : Int32) {H : Heap} {locs : List Loc} {ls : Array Slot}, va_P g.1 vwCl [(a_pr, .inr (1, [.ref a_lo, .ref a_hi, .ref a_st])), (a_lo, .inl (xcI g, 15, .inl f_lo)), (a_hi, .inl (xcI g, 15, .inl f_hi)), (a_st, .inl (xcI g, 6, .inl f_st))] H → va_D A [(a_pr, .inr (1, [.ref a_lo, .ref a_hi, .ref a_st])), (a_lo, .inl (xcI g, 15, .inl f_lo)), (a_hi, .inl (xcI g, 15, .inl f_hi)), (a_st, .inl (xcI g, 6, .inl f_st))] → va_S A s.heap H locs → lv_has ls 9 [(0, .ref a_pr), (1, .int x1), (3, .int x3), (4, .int x4), (5, .int x5), (6, .int x6), (7, .int x7)] → b_X1_hangTogether_32 f_lo f_hi post k11 n x1 x3 x4 x5 x6 x7 → W p l e ({ frames := 0, cells := 0, slots := 0, locals := 0 } : Room) s m args below meth c H locs 0 0 (MQ below ((q_X1_hangTogether g a_pr a_lo a_hi a_st f_lo f_hi f_st post) A) args s 0 0 A) (F0 m 32 ls []) := by
  obtain ⟨hx, hb, hr, hml, hown, hin, hts, hlocks, hA, hK, hZ⟩ := id C0
  have hown : s.vm.findClass RX1 = some m.cls := hown
  intro n
  induction n with
  | zero =>
    intro  x1 x3 x4 x5 x6 x7 H locs ls hP hD hS hl h
    exact False.elim h
  | succ n32 hk32 =>
    intro  x1 x3 x4 x5 x6 x7 H locs ls hP hD hS hl h
    unfold b_X1_hangTogether_32 at h
    refine lv_iload hx hb dX1_hangTogether_32 (lv_at hl 6 rfl) ?_
    refine lv_bipush (v := 15) hx hb dX1_hangTogether_34 (by decide) ?_
    refine lv_icmp_ge (tgt := 90) hx hb dX1_hangTogether_36 (by decide) (fun c4 => ?_) (fun c4 => ?_)
    · have h := h.1 c4
      refine lv_iinc (v := (x6 + 1)) (lv' := [(6, .int (x6 + 1)), (0, .ref a_pr), (1, .int x1), (3, .int x3), (4, .int x4), (5, .int x5), (7, .int x7)]) hx hb dX1_hangTogether_90 hl (k := 5) rfl rfl (by decide) rfl (fun ls hl => ?_)
      refine lv_goto (tgt := 11) hx hb dX1_hangTogether_93 (by decide) ?_
      exact hk11  x1 x3 x4 x5 (x6 + 1) hP hD hS (lv_sub hl [1, 2, 3, 4, 5, 0] rfl) h
    · have h := h.2 c4
      refine lv_iconst (v := 1) hx hb dX1_hangTogether_39 (by decide) ?_
      refine lv_aload_n hx hb dX1_hangTogether_40 rfl (lv_at hl 0 rfl) ?_
      refine va_get (D := g.1) (ci := 1) (v := .ref a_lo) (C := RX1) (T := TX1) (N := 3) hx hb hts in_X1_hangTogether_X1 hown hK hP 0 rfl rfl 0 (by decide) (hts (.fieldLink RX1 9 "RandomModels$Pairs" "lows" "[I") (by decide +kernel)) (fun _ h9 => h9) rfl dX1_hangTogether_41 ?_
      refine lv_iload hx hb dX1_hangTogether_44 (lv_at hl 6 rfl) ?_
      obtain ⟨c5, h⟩ := h
      refine va_iald hx hb hK hP 1 0 rfl rfl c5 dX1_hangTogether_46 ?_
      refine lv_ishl hx hb dX1_hangTogether_47 ?_
      refine lv_iconst (v := 1) hx hb dX1_hangTogether_48 (by decide) ?_
      refine lv_aload_n hx hb dX1_hangTogether_49 rfl (lv_at hl 0 rfl) ?_
      refine va_get (D := g.1) (ci := 1) (v := .ref a_hi) (C := RX1) (T := TX1) (N := 3) hx hb hts in_X1_hangTogether_X1 hown hK hP 0 rfl rfl 1 (by decide) (hts (.fieldLink RX1 15 "RandomModels$Pairs" "highs" "[I") (by decide +kernel)) (fun _ h9 => h9) rfl dX1_hangTogether_50 ?_
      refine lv_iload hx hb dX1_hangTogether_53 (lv_at hl 6 rfl) ?_
      obtain ⟨c6, h⟩ := h
      refine va_iald hx hb hK hP 2 0 rfl rfl c6 dX1_hangTogether_55 ?_
      refine lv_ishl hx hb dX1_hangTogether_56 ?_
      refine lv_ior hx hb dX1_hangTogether_57 ?_
      refine lv_topi (fun z7 ez7 => ?_)
      have h := h z7 ez7
      refine lv_istore (lv' := [(8, .int z7), (0, .ref a_pr), (1, .int x1), (3, .int x3), (4, .int x4), (5, .int x5), (6, .int x6), (7, .int x7)]) hx hb dX1_hangTogether_58 hl (by decide) rfl (fun ls hl => ?_)
      refine lv_iload_n hx hb dX1_hangTogether_60 rfl (lv_at hl 2 rfl) ?_
      refine lv_iload hx hb dX1_hangTogether_61 (lv_at hl 7 rfl) ?_
      refine lv_ishr hx hb dX1_hangTogether_63 ?_
      refine lv_iconst (v := 1) hx hb dX1_hangTogether_64 (by decide) ?_
      refine lv_iand hx hb dX1_hangTogether_65 ?_
      refine lv_if_eq (tgt := 84) hx hb dX1_hangTogether_66 (by decide) (fun c8 => ?_) (fun c8 => ?_)
      · have h := h.1 c8
        exact w_X1_hangTogether_84 C0 a_pr a_lo a_hi a_st f_lo f_hi f_st post k11 (b_X1_hangTogether_32 f_lo f_hi post k11 n32) hk11 hk32  x1 x3 x4 x5 x6 x7 hP hD hS (lv_sub hl [1, 2, 3, 4, 5, 6, 7] rfl) h
      · have h := h.2 c8
        refine lv_iload hx hb dX1_hangTogether_69 (lv_at hl 4 rfl) ?_
        refine lv_iload hx hb dX1_hangTogether_71 (lv_at hl 0 rfl) ?_
        refine lv_iand hx hb dX1_hangTogether_73 ?_
        refine lv_if_eq (tgt := 84) hx hb dX1_hangTogether_74 (by decide) (fun c9 => ?_) (fun c9 => ?_)
        · have h := h.1 c9
          exact w_X1_hangTogether_84 C0 a_pr a_lo a_hi a_st f_lo f_hi f_st post k11 (b_X1_hangTogether_32 f_lo f_hi post k11 n32) hk11 hk32  x1 x3 x4 x5 x6 x7 hP hD hS (lv_sub hl [1, 2, 3, 4, 5, 6, 7] rfl) h
        · have h := h.2 c9
          refine lv_iload hx hb dX1_hangTogether_77 (lv_at hl 4 rfl) ?_
          refine lv_iload hx hb dX1_hangTogether_79 (lv_at hl 0 rfl) ?_
          refine lv_ior hx hb dX1_hangTogether_81 ?_
          refine lv_istore (lv' := [(4, .int (x4 ||| z7)), (8, .int z7), (0, .ref a_pr), (1, .int x1), (3, .int x3), (5, .int x5), (6, .int x6), (7, .int x7)]) hx hb dX1_hangTogether_82 hl (by decide) rfl (fun ls hl => ?_)
          exact w_X1_hangTogether_84 C0 a_pr a_lo a_hi a_st f_lo f_hi f_st post k11 (b_X1_hangTogether_32 f_lo f_hi post k11 n32) hk11 hk32  x1 x3 (x4 ||| z7) x5 x6 x7 hP hD hS (lv_sub hl [2, 3, 4, 0, 5, 6, 7] rfl) h
set_option maxHeartbeats 1000000 in
set_option maxRecDepth 100000 in
theorem w_X1_hangTogether_11 {p : Program} {l : Launch} {e : Env} {s : State} {m : MethodId} {args : Array Value} {below : List Frame} {meth : Method} {c : Code} {A : Nat → Prop} {g : xG} (C0 : vx g p s m args meth c cX1_hangTogether (some .boolean) 9 yX1_hangTogether wsX1_hangTogether A) (a_pr : Nat) (a_lo : Nat) (a_hi : Nat) (a_st : Nat) (f_lo : Nat → Int32) (f_hi : Nat → Int32) (f_st : Nat → Int32) (post : Int32 → Prop) : ∀ (n : Nat) (x1 : Int32) (x3 : Int32) (x4 : Int32) (x5 : Int32) (x6 : Int32) {H : Heap} {locs : List Loc} {ls : Array Slot}, va_P g.1 vwCl [(a_pr, .inr (1, [.ref a_lo, .ref a_hi, .ref a_st])), (a_lo, .inl (xcI g, 15, .inl f_lo)), (a_hi, .inl (xcI g, 15, .inl f_hi)), (a_st, .inl (xcI g, 6, .inl f_st))] H → va_D A [(a_pr, .inr (1, [.ref a_lo, .ref a_hi, .ref a_st])), (a_lo, .inl (xcI g, 15, .inl f_lo)), (a_hi, .inl (xcI g, 15, .inl f_hi)), (a_st, .inl (xcI g, 6, .inl f_st))] → va_S A s.heap H locs → lv_has ls 9 [(0, .ref a_pr), (1, .int x1), (3, .int x3), (4, .int x4), (5, .int x5), (6, .int x6)] → b_X1_hangTogether_11 f_lo f_hi post  n x1 x3 x4 x5 x6 → W p l e ({ frames := 0, cells := 0, slots := 0, locals := 0 } : Room) s m args below meth c H locs 0 0 (MQ below ((q_X1_hangTogether g a_pr a_lo a_hi a_st f_lo f_hi f_st post) A) args s 0 0 A) (F0 m 11 ls []) := by
  obtain ⟨hx, hb, hr, hml, hown, hin, hts, hlocks, hA, hK, hZ⟩ := id C0
  have hown : s.vm.findClass RX1 = some m.cls := hown
  intro n
  induction n with
  | zero =>
    intro  x1 x3 x4 x5 x6 H locs ls hP hD hS hl h
    exact False.elim h
  | succ n11 hk11 =>
    intro  x1 x3 x4 x5 x6 H locs ls hP hD hS hl h
    unfold b_X1_hangTogether_11 at h
    refine lv_iload hx hb dX1_hangTogether_11 (lv_at hl 5 rfl) ?_
    refine lv_bipush (v := 6) hx hb dX1_hangTogether_13 (by decide) ?_
    refine lv_icmp_ge (tgt := 96) hx hb dX1_hangTogether_15 (by decide) (fun c1 => ?_) (fun c1 => ?_)
    · have h := h.1 c1
      exact w_X1_hangTogether_96 C0 a_pr a_lo a_hi a_st f_lo f_hi f_st post    x3 x4 hP hD hS (lv_sub hl [2, 3] rfl) h
    · have h := h.2 c1
      refine lv_iload hx hb dX1_hangTogether_18 (lv_at hl 3 rfl) ?_
      refine lv_iload hx hb dX1_hangTogether_20 (lv_at hl 4 rfl) ?_
      refine lv_icmp_eq (tgt := 96) hx hb dX1_hangTogether_22 (by decide) (fun c2 => ?_) (fun c2 => ?_)
      · have h := h.1 c2
        exact w_X1_hangTogether_96 C0 a_pr a_lo a_hi a_st f_lo f_hi f_st post    x3 x4 hP hD hS (lv_sub hl [2, 3] rfl) h
      · have h := h.2 c2
        refine lv_iload hx hb dX1_hangTogether_25 (lv_at hl 3 rfl) ?_
        refine lv_istore (lv' := [(5, .int x4), (0, .ref a_pr), (1, .int x1), (3, .int x3), (4, .int x4), (6, .int x6)]) hx hb dX1_hangTogether_27 hl (by decide) rfl (fun ls hl => ?_)
        refine lv_iconst (v := 0) hx hb dX1_hangTogether_29 (by decide) ?_
        refine lv_istore (lv' := [(7, .int (0 : Int32)), (5, .int x4), (0, .ref a_pr), (1, .int x1), (3, .int x3), (4, .int x4), (6, .int x6)]) hx hb dX1_hangTogether_30 hl (by decide) rfl (fun ls hl => ?_)
        obtain ⟨n, h⟩ := h
        exact w_X1_hangTogether_32 C0 a_pr a_lo a_hi a_st f_lo f_hi f_st post (b_X1_hangTogether_11 f_lo f_hi post  n11) hk11 n  x1 x3 x4 x4 x6 (0 : Int32) hP hD hS (lv_sub hl [2, 3, 4, 5, 1, 6, 0] rfl) h
set_option maxHeartbeats 1000000 in
set_option maxRecDepth 100000 in
theorem c_X1_hangTogether (l : Launch) (g : xG) (sz : Nat) (a_pr : Nat) (a_lo : Nat) (a_hi : Nat) (a_st : Nat) (p_graph : Int32) (p_from_ : Int32) (p_to_ : Int32) (f_lo : Nat → Int32) (f_hi : Nat → Int32) (f_st : Nat → Int32) (post : Int32 → Prop) (h : wp_X1_hangTogether p_graph p_from_ p_to_ f_lo f_hi post) : xM l yX1_hangTogether wsX1_hangTogether ({ frames := 0, cells := 0, slots := 0, locals := 0 } : Room) g sz [(a_pr, .inr (1, [.ref a_lo, .ref a_hi, .ref a_st])), (a_lo, .inl (xcI g, 15, .inl f_lo)), (a_hi, .inl (xcI g, 15, .inl f_hi)), (a_st, .inl (xcI g, 6, .inl f_st))] [.ref a_pr, .int p_graph, .int p_from_, .int p_to_] (q_X1_hangTogether g a_pr a_lo a_hi a_st f_lo f_hi f_st post) 0 0 := by
  refine xmet (cc := cX1_hangTogether) (maxL := 9) (ret := (some .boolean)) (by decide) rfl (Nat.le_of_ble_eq_true rfl) ?_
  intro p e s m args below meth c A ls H locs C0 hP hD hS hl
  obtain ⟨hx, hb, hr, hml, hown, hin, hts, hlocks, hA, hK, hZ⟩ := id C0
  have hown : s.vm.findClass RX1 = some m.cls := hown
  have hl : lv_has ls 9 [(0, .ref a_pr), (1, .int p_graph), (2, .int p_from_), (3, .int p_to_)] := hl
  unfold wp_X1_hangTogether at h
  refine lv_iconst (v := 1) hx hb dX1_hangTogether_0 (by decide) ?_
  refine lv_iload_n hx hb dX1_hangTogether_1 rfl (lv_at hl 2 rfl) ?_
  refine lv_ishl hx hb dX1_hangTogether_2 ?_
  refine lv_istore (lv' := [(4, .int ((1 : Int32) <<< (p_from_ &&& 31))), (0, .ref a_pr), (1, .int p_graph), (2, .int p_from_), (3, .int p_to_)]) hx hb dX1_hangTogether_3 hl (by decide) rfl (fun ls hl => ?_)
  refine lv_iconst (v := 0) hx hb dX1_hangTogether_5 (by decide) ?_
  refine lv_istore (lv' := [(5, .int (0 : Int32)), (4, .int ((1 : Int32) <<< (p_from_ &&& 31))), (0, .ref a_pr), (1, .int p_graph), (2, .int p_from_), (3, .int p_to_)]) hx hb dX1_hangTogether_6 hl (by decide) rfl (fun ls hl => ?_)
  refine lv_iconst (v := 1) hx hb dX1_hangTogether_8 (by decide) ?_
  refine lv_istore (lv' := [(6, .int (1 : Int32)), (5, .int (0 : Int32)), (4, .int ((1 : Int32) <<< (p_from_ &&& 31))), (0, .ref a_pr), (1, .int p_graph), (2, .int p_from_), (3, .int p_to_)]) hx hb dX1_hangTogether_9 hl (by decide) rfl (fun ls hl => ?_)
  obtain ⟨n, h⟩ := h
  exact w_X1_hangTogether_11 C0 a_pr a_lo a_hi a_st f_lo f_hi f_st post   n  p_graph p_to_ ((1 : Int32) <<< (p_from_ &&& 31)) (0 : Int32) (1 : Int32) hP hD hS (lv_sub hl [3, 4, 6, 2, 1, 0] rfl) h

def b_X1_init_38 (post : (Nat → Int32) → (Nat → Int32) → (Nat → Int32) → Prop) (k30 : (Int32) → (Nat → Int32) → (Nat → Int32) → (Nat → Int32) → Prop) : Nat → (Int32) → (Int32) → (Nat → Int32) → (Nat → Int32) → (Nat → Int32) → Prop
  | 0 => fun x1 x2 f_lo f_hi f_st => False
  | n38 + 1 => fun x1 x2 f_lo f_hi f_st => ((x1 ≤ x2 → k30 (x1 + 1) f_lo f_hi f_st) ∧ (¬ x1 ≤ x2 → wp_X1_indexOf x2 x1 (fun r9 => (vp_in r9 15 ∧ (vp_in r9 15 ∧ (vp_in x2 6 ∧ (vp_in x2 6 ∧ (vp_in x1 6 ∧ (vp_in x1 6 ∧ (b_X1_init_38 post k30 n38) x1 (x2 + 1) (upd f_lo r9.toNatClampNeg x2) (upd f_hi r9.toNatClampNeg x1) (upd (upd f_st x2.toNatClampNeg ((f_st x2.toNatClampNeg) ||| ((1 : Int32) <<< (r9 &&& 31)))) x1.toNatClampNeg (((upd f_st x2.toNatClampNeg ((f_st x2.toNatClampNeg) ||| ((1 : Int32) <<< (r9 &&& 31)))) x1.toNatClampNeg) ||| ((1 : Int32) <<< (r9 &&& 31)))))))))))))
def b_X1_init_30 (post : (Nat → Int32) → (Nat → Int32) → (Nat → Int32) → Prop) : Nat → (Int32) → (Nat → Int32) → (Nat → Int32) → (Nat → Int32) → Prop
  | 0 => fun x1 f_lo f_hi f_st => False
  | n30 + 1 => fun x1 f_lo f_hi f_st => (((6 : Int32) ≤ x1 → post f_lo f_hi f_st) ∧ (¬ (6 : Int32) ≤ x1 → ∃ n : Nat, b_X1_init_38  post (b_X1_init_30 post  n30) n x1 (0 : Int32) f_lo f_hi f_st))
def wp_X1_init (post : (Nat → Int32) → (Nat → Int32) → (Nat → Int32) → Prop) : Prop := ∃ n : Nat, b_X1_init_30  post  n (1 : Int32) (fun _ => (0 : Int32)) (fun _ => (0 : Int32)) (fun _ => (0 : Int32))
abbrev q_X1_init (g : xG) (a_pr : Nat) (post : (Nat → Int32) → (Nat → Int32) → (Nat → Int32) → Prop) : (Nat → Prop) → Array Value → State → Outcome → State → Prop := xQv g (fun (u : (Nat) × (Nat) × (Nat) × (Nat → Int32) × (Nat → Int32) × (Nat → Int32)) => match u with | (a_lo, a_hi, a_st, f_lo, f_hi, f_st) => post f_lo f_hi f_st) (fun (u : (Nat) × (Nat) × (Nat) × (Nat → Int32) × (Nat → Int32) × (Nat → Int32)) => match u with | (a_lo, a_hi, a_st, f_lo, f_hi, f_st) => [(a_pr, .inr (1, [.ref a_lo, .ref a_hi, .ref a_st])), (a_lo, .inl (xcI g, 15, .inl f_lo)), (a_hi, .inl (xcI g, 15, .inl f_hi)), (a_st, .inl (xcI g, 6, .inl f_st))])
theorem in_X1_init_X1 : ∀ w ∈ u_ws RX1 TX1 3, w ∈ wsX1_init := by decide +kernel
set_option maxHeartbeats 1000000 in
set_option maxRecDepth 100000 in
theorem w_X1_init_38 {p : Program} {l : Launch} {e : Env} {s : State} {m : MethodId} {args : Array Value} {below : List Frame} {meth : Method} {c : Code} {A : Nat → Prop} {g : xG} (C0 : vx g p s m args meth c cX1_init none 4 yX1_init wsX1_init A) (a_pr : Nat) (post : (Nat → Int32) → (Nat → Int32) → (Nat → Int32) → Prop) (k30 : (Int32) → (Nat → Int32) → (Nat → Int32) → (Nat → Int32) → Prop) (hk30 : ∀ (a_lo : Nat) (a_hi : Nat) (a_st : Nat) (x1 : Int32) (f_lo : Nat → Int32) (f_hi : Nat → Int32) (f_st : Nat → Int32) {H : Heap} {locs : List Loc} {ls : Array Slot}, va_P g.1 vwCl [(a_pr, .inr (1, [.ref a_lo, .ref a_hi, .ref a_st])), (a_lo, .inl (xcI g, 15, .inl f_lo)), (a_hi, .inl (xcI g, 15, .inl f_hi)), (a_st, .inl (xcI g, 6, .inl f_st))] H → va_D A [(a_pr, .inr (1, [.ref a_lo, .ref a_hi, .ref a_st])), (a_lo, .inl (xcI g, 15, .inl f_lo)), (a_hi, .inl (xcI g, 15, .inl f_hi)), (a_st, .inl (xcI g, 6, .inl f_st))] → va_S A s.heap H locs → lv_has ls 4 [(0, .ref a_pr), (1, .int x1)] → k30 x1 f_lo f_hi f_st → W p l e ({ frames := 2, cells := 3, slots := 36, locals := 41 } : Room) s m args below meth c H locs 3 36 (MQ below ((q_X1_init g a_pr  post) A) args s 3 36 A) (F0 m 30 ls [])) : ∀ (n : Nat) (a_lo : Nat) (a_hi : Nat) (a_st : Nat) (x1 : Int32) (x2 : Int32) (f_lo : Nat → Int32) (f_hi : Nat → Int32) (f_st : Nat → Int32) {H : Heap} {locs : List Loc} {ls : Array Slot}, va_P g.1 vwCl [(a_pr, .inr (1, [.ref a_lo, .ref a_hi, .ref a_st])), (a_lo, .inl (xcI g, 15, .inl f_lo)), (a_hi, .inl (xcI g, 15, .inl f_hi)), (a_st, .inl (xcI g, 6, .inl f_st))] H → va_D A [(a_pr, .inr (1, [.ref a_lo, .ref a_hi, .ref a_st])), (a_lo, .inl (xcI g, 15, .inl f_lo)), (a_hi, .inl (xcI g, 15, .inl f_hi)), (a_st, .inl (xcI g, 6, .inl f_st))] → va_S A s.heap H locs → lv_has ls 4 [(0, .ref a_pr), (1, .int x1), (2, .int x2)] → b_X1_init_38 post k30 n x1 x2 f_lo f_hi f_st → W p l e ({ frames := 2, cells := 3, slots := 36, locals := 41 } : Room) s m args below meth c H locs 3 36 (MQ below ((q_X1_init g a_pr  post) A) args s 3 36 A) (F0 m 38 ls []) := by
  obtain ⟨hx, hb, hr, hml, hown, hin, hts, hlocks, hA, hK, hZ⟩ := id C0
  have hown : s.vm.findClass RX1 = some m.cls := hown
  intro n
  induction n with
  | zero =>
    intro a_lo a_hi a_st x1 x2 f_lo f_hi f_st H locs ls hP hD hS hl h
    exact False.elim h
  | succ n38 hk38 =>
    intro a_lo a_hi a_st x1 x2 f_lo f_hi f_st H locs ls hP hD hS hl h
    unfold b_X1_init_38 at h
    refine lv_iload_n hx hb dX1_init_38 rfl (lv_at hl 2 rfl) ?_
    refine lv_iload_n hx hb dX1_init_39 rfl (lv_at hl 1 rfl) ?_
    refine lv_icmp_ge (tgt := 93) hx hb dX1_init_40 (by decide) (fun c8 => ?_) (fun c8 => ?_)
    · have h := h.1 c8
      refine lv_iinc (v := (x1 + 1)) (lv' := [(1, .int (x1 + 1)), (0, .ref a_pr), (2, .int x2)]) hx hb dX1_init_93 hl (k := 1) rfl rfl (by decide) rfl (fun ls hl => ?_)
      refine lv_goto (tgt := 30) hx hb dX1_init_96 (by decide) ?_
      exact hk30 a_lo a_hi a_st (x1 + 1) f_lo f_hi f_st hP hD hS (lv_sub hl [1, 0] rfl) h
    · have h := h.2 c8
      refine lv_iload_n hx hb dX1_init_43 rfl (lv_at hl 2 rfl) ?_
      refine lv_iload_n hx hb dX1_init_44 rfl (lv_at hl 1 rfl) ?_
      refine xi (wr := [(a_pr, .inr (1, [.ref a_lo, .ref a_hi, .ref a_st])), (a_lo, .inl (xcI g, 15, .inl f_lo)), (a_hi, .inl (xcI g, 15, .inl f_hi)), (a_st, .inl (xcI g, 6, .inl f_st))]) (xrS (As := [.int x2, .int x1]) (rest := []) C0 hl.1 (c_X1_indexOf l g _  x2 x1 _ h) (va_cwS 2 hts gX1_init_X1_indexOf rfl rfl rfl (by decide +kernel) ⟨Nat.le_of_ble_eq_true rfl, Nat.le_of_ble_eq_true rfl⟩) rfl rfl (Nat.le_of_ble_eq_true rfl) dX1_init_45 ⟨Nat.le_of_ble_eq_true rfl, Nat.le_of_ble_eq_true rfl⟩) C0 hP hD hS [] [0, 1, 2, 3] (by decide) rfl rfl rfl (by decide) (by decide) (fun r9 u H locs h hP hD hS => ?_)
      have hP : va_P g.1 vwCl [(a_pr, .inr (1, [.ref a_lo, .ref a_hi, .ref a_st])), (a_lo, .inl (xcI g, 15, .inl f_lo)), (a_hi, .inl (xcI g, 15, .inl f_hi)), (a_st, .inl (xcI g, 6, .inl f_st))] H := hP
      have hD : va_D A [(a_pr, .inr (1, [.ref a_lo, .ref a_hi, .ref a_st])), (a_lo, .inl (xcI g, 15, .inl f_lo)), (a_hi, .inl (xcI g, 15, .inl f_hi)), (a_st, .inl (xcI g, 6, .inl f_st))] := hD
      refine lv_istore_n (lv' := [(3, .int r9), (0, .ref a_pr), (1, .int x1), (2, .int x2)]) hx hb dX1_init_48 rfl hl (by decide) rfl (fun ls hl => ?_)
      refine lv_aload_n hx hb dX1_init_49 rfl (lv_at hl 1 rfl) ?_
      refine va_get (D := g.1) (ci := 1) (v := .ref a_lo) (C := RX1) (T := TX1) (N := 3) hx hb hts in_X1_init_X1 hown hK hP 0 rfl rfl 0 (by decide) (hts (.fieldLink RX1 9 "RandomModels$Pairs" "lows" "[I") (by decide +kernel)) (fun _ h9 => h9) rfl dX1_init_50 ?_
      refine lv_iload_n hx hb dX1_init_53 rfl (lv_at hl 0 rfl) ?_
      refine lv_iload_n hx hb dX1_init_54 rfl (lv_at hl 3 rfl) ?_
      obtain ⟨c10, h⟩ := h
      refine va_iast hx hb hK hP hD hS 1 0 rfl rfl c10 dX1_init_55 (fun H locs hP hD hS => ?_)
      have hP : va_P g.1 vwCl [(a_pr, .inr (1, [.ref a_lo, .ref a_hi, .ref a_st])), (a_lo, .inl (xcI g, 15, .inl (upd f_lo r9.toNatClampNeg x2))), (a_hi, .inl (xcI g, 15, .inl f_hi)), (a_st, .inl (xcI g, 6, .inl f_st))] H := hP
      have hD : va_D A [(a_pr, .inr (1, [.ref a_lo, .ref a_hi, .ref a_st])), (a_lo, .inl (xcI g, 15, .inl (upd f_lo r9.toNatClampNeg x2))), (a_hi, .inl (xcI g, 15, .inl f_hi)), (a_st, .inl (xcI g, 6, .inl f_st))] := hD
      refine lv_aload_n hx hb dX1_init_56 rfl (lv_at hl 1 rfl) ?_
      refine va_get (D := g.1) (ci := 1) (v := .ref a_hi) (C := RX1) (T := TX1) (N := 3) hx hb hts in_X1_init_X1 hown hK hP 0 rfl rfl 1 (by decide) (hts (.fieldLink RX1 15 "RandomModels$Pairs" "highs" "[I") (by decide +kernel)) (fun _ h9 => h9) rfl dX1_init_57 ?_
      refine lv_iload_n hx hb dX1_init_60 rfl (lv_at hl 0 rfl) ?_
      refine lv_iload_n hx hb dX1_init_61 rfl (lv_at hl 2 rfl) ?_
      obtain ⟨c11, h⟩ := h
      refine va_iast hx hb hK hP hD hS 2 0 rfl rfl c11 dX1_init_62 (fun H locs hP hD hS => ?_)
      have hP : va_P g.1 vwCl [(a_pr, .inr (1, [.ref a_lo, .ref a_hi, .ref a_st])), (a_lo, .inl (xcI g, 15, .inl (upd f_lo r9.toNatClampNeg x2))), (a_hi, .inl (xcI g, 15, .inl (upd f_hi r9.toNatClampNeg x1))), (a_st, .inl (xcI g, 6, .inl f_st))] H := hP
      have hD : va_D A [(a_pr, .inr (1, [.ref a_lo, .ref a_hi, .ref a_st])), (a_lo, .inl (xcI g, 15, .inl (upd f_lo r9.toNatClampNeg x2))), (a_hi, .inl (xcI g, 15, .inl (upd f_hi r9.toNatClampNeg x1))), (a_st, .inl (xcI g, 6, .inl f_st))] := hD
      refine lv_aload_n hx hb dX1_init_63 rfl (lv_at hl 1 rfl) ?_
      refine va_get (D := g.1) (ci := 1) (v := .ref a_st) (C := RX1) (T := TX1) (N := 3) hx hb hts in_X1_init_X1 hown hK hP 0 rfl rfl 2 (by decide) (hts (.fieldLink RX1 18 "RandomModels$Pairs" "stars" "[I") (by decide +kernel)) (fun _ h9 => h9) rfl dX1_init_64 ?_
      refine lv_iload_n hx hb dX1_init_67 rfl (lv_at hl 3 rfl) ?_
      refine lv_dup2_11 hx hb dX1_init_68 rfl rfl ?_
      obtain ⟨c12, h⟩ := h
      refine va_iald hx hb hK hP 3 0 rfl rfl c12 dX1_init_69 ?_
      refine lv_iconst (v := 1) hx hb dX1_init_70 (by decide) ?_
      refine lv_iload_n hx hb dX1_init_71 rfl (lv_at hl 0 rfl) ?_
      refine lv_ishl hx hb dX1_init_72 ?_
      refine lv_ior hx hb dX1_init_73 ?_
      obtain ⟨c13, h⟩ := h
      refine va_iast hx hb hK hP hD hS 3 0 rfl rfl c13 dX1_init_74 (fun H locs hP hD hS => ?_)
      have hP : va_P g.1 vwCl [(a_pr, .inr (1, [.ref a_lo, .ref a_hi, .ref a_st])), (a_lo, .inl (xcI g, 15, .inl (upd f_lo r9.toNatClampNeg x2))), (a_hi, .inl (xcI g, 15, .inl (upd f_hi r9.toNatClampNeg x1))), (a_st, .inl (xcI g, 6, .inl (upd f_st x2.toNatClampNeg ((f_st x2.toNatClampNeg) ||| ((1 : Int32) <<< (r9 &&& 31))))))] H := hP
      have hD : va_D A [(a_pr, .inr (1, [.ref a_lo, .ref a_hi, .ref a_st])), (a_lo, .inl (xcI g, 15, .inl (upd f_lo r9.toNatClampNeg x2))), (a_hi, .inl (xcI g, 15, .inl (upd f_hi r9.toNatClampNeg x1))), (a_st, .inl (xcI g, 6, .inl (upd f_st x2.toNatClampNeg ((f_st x2.toNatClampNeg) ||| ((1 : Int32) <<< (r9 &&& 31))))))] := hD
      refine lv_aload_n hx hb dX1_init_75 rfl (lv_at hl 1 rfl) ?_
      refine va_get (D := g.1) (ci := 1) (v := .ref a_st) (C := RX1) (T := TX1) (N := 3) hx hb hts in_X1_init_X1 hown hK hP 0 rfl rfl 2 (by decide) (hts (.fieldLink RX1 18 "RandomModels$Pairs" "stars" "[I") (by decide +kernel)) (fun _ h9 => h9) rfl dX1_init_76 ?_
      refine lv_iload_n hx hb dX1_init_79 rfl (lv_at hl 2 rfl) ?_
      refine lv_dup2_11 hx hb dX1_init_80 rfl rfl ?_
      obtain ⟨c14, h⟩ := h
      refine va_iald hx hb hK hP 3 0 rfl rfl c14 dX1_init_81 ?_
      refine lv_iconst (v := 1) hx hb dX1_init_82 (by decide) ?_
      refine lv_iload_n hx hb dX1_init_83 rfl (lv_at hl 0 rfl) ?_
      refine lv_ishl hx hb dX1_init_84 ?_
      refine lv_ior hx hb dX1_init_85 ?_
      obtain ⟨c15, h⟩ := h
      refine va_iast hx hb hK hP hD hS 3 0 rfl rfl c15 dX1_init_86 (fun H locs hP hD hS => ?_)
      have hP : va_P g.1 vwCl [(a_pr, .inr (1, [.ref a_lo, .ref a_hi, .ref a_st])), (a_lo, .inl (xcI g, 15, .inl (upd f_lo r9.toNatClampNeg x2))), (a_hi, .inl (xcI g, 15, .inl (upd f_hi r9.toNatClampNeg x1))), (a_st, .inl (xcI g, 6, .inl (upd (upd f_st x2.toNatClampNeg ((f_st x2.toNatClampNeg) ||| ((1 : Int32) <<< (r9 &&& 31)))) x1.toNatClampNeg (((upd f_st x2.toNatClampNeg ((f_st x2.toNatClampNeg) ||| ((1 : Int32) <<< (r9 &&& 31)))) x1.toNatClampNeg) ||| ((1 : Int32) <<< (r9 &&& 31))))))] H := hP
      have hD : va_D A [(a_pr, .inr (1, [.ref a_lo, .ref a_hi, .ref a_st])), (a_lo, .inl (xcI g, 15, .inl (upd f_lo r9.toNatClampNeg x2))), (a_hi, .inl (xcI g, 15, .inl (upd f_hi r9.toNatClampNeg x1))), (a_st, .inl (xcI g, 6, .inl (upd (upd f_st x2.toNatClampNeg ((f_st x2.toNatClampNeg) ||| ((1 : Int32) <<< (r9 &&& 31)))) x1.toNatClampNeg (((upd f_st x2.toNatClampNeg ((f_st x2.toNatClampNeg) ||| ((1 : Int32) <<< (r9 &&& 31)))) x1.toNatClampNeg) ||| ((1 : Int32) <<< (r9 &&& 31))))))] := hD
      refine lv_iinc (v := (x2 + 1)) (lv' := [(2, .int (x2 + 1)), (3, .int r9), (0, .ref a_pr), (1, .int x1)]) hx hb dX1_init_87 hl (k := 3) rfl rfl (by decide) rfl (fun ls hl => ?_)
      refine lv_goto (tgt := 38) hx hb dX1_init_90 (by decide) ?_
      exact hk38 a_lo a_hi a_st x1 (x2 + 1) (upd f_lo r9.toNatClampNeg x2) (upd f_hi r9.toNatClampNeg x1) (upd (upd f_st x2.toNatClampNeg ((f_st x2.toNatClampNeg) ||| ((1 : Int32) <<< (r9 &&& 31)))) x1.toNatClampNeg (((upd f_st x2.toNatClampNeg ((f_st x2.toNatClampNeg) ||| ((1 : Int32) <<< (r9 &&& 31)))) x1.toNatClampNeg) ||| ((1 : Int32) <<< (r9 &&& 31)))) hP hD hS (lv_sub hl [2, 3, 0] rfl) h
set_option maxHeartbeats 1000000 in
set_option maxRecDepth 100000 in
theorem w_X1_init_30 {p : Program} {l : Launch} {e : Env} {s : State} {m : MethodId} {args : Array Value} {below : List Frame} {meth : Method} {c : Code} {A : Nat → Prop} {g : xG} (C0 : vx g p s m args meth c cX1_init none 4 yX1_init wsX1_init A) (a_pr : Nat) (post : (Nat → Int32) → (Nat → Int32) → (Nat → Int32) → Prop) : ∀ (n : Nat) (a_lo : Nat) (a_hi : Nat) (a_st : Nat) (x1 : Int32) (f_lo : Nat → Int32) (f_hi : Nat → Int32) (f_st : Nat → Int32) {H : Heap} {locs : List Loc} {ls : Array Slot}, va_P g.1 vwCl [(a_pr, .inr (1, [.ref a_lo, .ref a_hi, .ref a_st])), (a_lo, .inl (xcI g, 15, .inl f_lo)), (a_hi, .inl (xcI g, 15, .inl f_hi)), (a_st, .inl (xcI g, 6, .inl f_st))] H → va_D A [(a_pr, .inr (1, [.ref a_lo, .ref a_hi, .ref a_st])), (a_lo, .inl (xcI g, 15, .inl f_lo)), (a_hi, .inl (xcI g, 15, .inl f_hi)), (a_st, .inl (xcI g, 6, .inl f_st))] → va_S A s.heap H locs → lv_has ls 4 [(0, .ref a_pr), (1, .int x1)] → b_X1_init_30 post  n x1 f_lo f_hi f_st → W p l e ({ frames := 2, cells := 3, slots := 36, locals := 41 } : Room) s m args below meth c H locs 3 36 (MQ below ((q_X1_init g a_pr  post) A) args s 3 36 A) (F0 m 30 ls []) := by
  obtain ⟨hx, hb, hr, hml, hown, hin, hts, hlocks, hA, hK, hZ⟩ := id C0
  have hown : s.vm.findClass RX1 = some m.cls := hown
  intro n
  induction n with
  | zero =>
    intro a_lo a_hi a_st x1 f_lo f_hi f_st H locs ls hP hD hS hl h
    exact False.elim h
  | succ n30 hk30 =>
    intro a_lo a_hi a_st x1 f_lo f_hi f_st H locs ls hP hD hS hl h
    unfold b_X1_init_30 at h
    refine lv_iload_n hx hb dX1_init_30 rfl (lv_at hl 1 rfl) ?_
    refine lv_bipush (v := 6) hx hb dX1_init_31 (by decide) ?_
    refine lv_icmp_ge (tgt := 99) hx hb dX1_init_33 (by decide) (fun c7 => ?_) (fun c7 => ?_)
    · have h := h.1 c7
      exact xretv (a_lo, a_hi, a_st, f_lo, f_hi, f_st) C0 hP hD hS h dX1_init_99
    · have h := h.2 c7
      refine lv_iconst (v := 0) hx hb dX1_init_36 (by decide) ?_
      refine lv_istore_n (lv' := [(2, .int (0 : Int32)), (0, .ref a_pr), (1, .int x1)]) hx hb dX1_init_37 rfl hl (by decide) rfl (fun ls hl => ?_)
      obtain ⟨n, h⟩ := h
      exact w_X1_init_38 C0 a_pr  post (b_X1_init_30 post  n30) hk30 n a_lo a_hi a_st x1 (0 : Int32) f_lo f_hi f_st hP hD hS (lv_sub hl [1, 2, 0] rfl) h
set_option maxHeartbeats 1000000 in
set_option maxRecDepth 100000 in
theorem c_X1_init (l : Launch) (g : xG) (sz : Nat) (a_pr : Nat) (post : (Nat → Int32) → (Nat → Int32) → (Nat → Int32) → Prop) (h : wp_X1_init  post) : xM l yX1_init wsX1_init ({ frames := 2, cells := 3, slots := 36, locals := 41 } : Room) g sz [(a_pr, .inr (1, [.null, .null, .null]))] [.ref a_pr] (q_X1_init g a_pr  post) 3 36 := by
  refine xmet (cc := cX1_init) (maxL := 4) (ret := none) (by decide) rfl (Nat.le_of_ble_eq_true rfl) ?_
  intro p e s m args below meth c A ls H locs C0 hP hD hS hl
  obtain ⟨hx, hb, hr, hml, hown, hin, hts, hlocks, hA, hK, hZ⟩ := id C0
  have hown : s.vm.findClass RX1 = some m.cls := hown
  have hl : lv_has ls 4 [(0, .ref a_pr)] := hl
  unfold wp_X1_init at h
  refine lv_aload_n hx hb dX1_init_0 rfl (lv_at hl 0 rfl) ?_
  refine W.objInit hx hb hown (hts (.methodLink RX1 3 objectInit) (by decide +kernel)) (hts (.instanceMethod objectInit) (by decide +kernel)) (hts (.code objectInit ⟨#[0xb1]⟩ 1 none) (by decide +kernel)) rfl (by rw [hml]; exact hl.1) rfl dX1_init_1 (Nat.le_of_ble_eq_true rfl) (Nat.le_of_ble_eq_true rfl) ?_
  refine W.eq (g2 := F0 m 4 ls []) rfl ?_
  refine lv_aload_n hx hb dX1_init_4 rfl (lv_at hl 0 rfl) ?_
  refine lv_bipush (v := 15) hx hb dX1_init_5 (by decide) ?_
  refine va_newa (atype := .int) (ty := .int) (n := (15 : Int32)) (N' := 15) (a0 := (15, (.inl (fun _ => 0)))) hx hb (hts (.arrayClass .int) (by decide +kernel)) rfl hK hP hD hS hA (fun _ => rfl) (by decide +kernel) (by decide +kernel) (by decide +kernel) (by decide +kernel) (by decide +kernel) dX1_init_7 (fun q1 cA H hKn hP hD hS => ?_)
  obtain rfl := xarr (k := 0) (fun _ q9 => by cases q9) hKn rfl
  have hP : va_P g.1 vwCl [(a_pr, .inr (1, [.null, .null, .null])), (q1, .inl (xcI g, 15, .inl (fun _ => (0 : Int32))))] H := hP
  have hD : va_D A [(a_pr, .inr (1, [.null, .null, .null])), (q1, .inl (xcI g, 15, .inl (fun _ => (0 : Int32))))] := hD
  refine W.widen (k := 1) (n := 15) (by decide) (by decide) ?_
  refine va_putF (D := g.1) (ci := 1) (v := .ref q1) (ty := .array .int) (C := RX1) (T := TX1) (N := 3) hx hb hts in_X1_init_X1 tyX1 tyX1_ok nmX1 hown hK hP hD hS 0 rfl rfl 0 (by decide) (hts (.fieldLink RX1 9 "RandomModels$Pairs" "lows" "[I") (by decide +kernel)) (fun _ h9 => h9) rfl hin rfl (by decide +kernel) rfl rfl (Nat.le_of_ble_eq_true rfl) dX1_init_9 (fun H locs hP hD hS => ?_)
  have hP : va_P g.1 vwCl [(a_pr, .inr (1, [.ref q1, .null, .null])), (q1, .inl (xcI g, 15, .inl (fun _ => (0 : Int32))))] H := hP
  have hD : va_D A [(a_pr, .inr (1, [.ref q1, .null, .null])), (q1, .inl (xcI g, 15, .inl (fun _ => (0 : Int32))))] := hD
  refine lv_aload_n hx hb dX1_init_12 rfl (lv_at hl 0 rfl) ?_
  refine lv_bipush (v := 15) hx hb dX1_init_13 (by decide) ?_
  refine va_newa (atype := .int) (ty := .int) (n := (15 : Int32)) (N' := 15) (a0 := (15, (.inl (fun _ => 0)))) hx hb (hts (.arrayClass .int) (by decide +kernel)) rfl hK hP hD hS hA (fun _ => rfl) (by decide +kernel) (by decide +kernel) (by decide +kernel) (by decide +kernel) (by decide +kernel) dX1_init_15 (fun q3 cA H hKn hP hD hS => ?_)
  obtain rfl := xarr (k := 0) (fun _ q9 => by cases q9) hKn rfl
  have hP : va_P g.1 vwCl [(a_pr, .inr (1, [.ref q1, .null, .null])), (q1, .inl (xcI g, 15, .inl (fun _ => (0 : Int32)))), (q3, .inl (xcI g, 15, .inl (fun _ => (0 : Int32))))] H := hP
  have hD : va_D A [(a_pr, .inr (1, [.ref q1, .null, .null])), (q1, .inl (xcI g, 15, .inl (fun _ => (0 : Int32)))), (q3, .inl (xcI g, 15, .inl (fun _ => (0 : Int32))))] := hD
  refine W.widen (k := 2) (n := 30) (by decide) (by decide) ?_
  refine va_putF (D := g.1) (ci := 1) (v := .ref q3) (ty := .array .int) (C := RX1) (T := TX1) (N := 3) hx hb hts in_X1_init_X1 tyX1 tyX1_ok nmX1 hown hK hP hD hS 0 rfl rfl 1 (by decide) (hts (.fieldLink RX1 15 "RandomModels$Pairs" "highs" "[I") (by decide +kernel)) (fun _ h9 => h9) rfl hin rfl (by decide +kernel) rfl rfl (Nat.le_of_ble_eq_true rfl) dX1_init_17 (fun H locs hP hD hS => ?_)
  have hP : va_P g.1 vwCl [(a_pr, .inr (1, [.ref q1, .ref q3, .null])), (q1, .inl (xcI g, 15, .inl (fun _ => (0 : Int32)))), (q3, .inl (xcI g, 15, .inl (fun _ => (0 : Int32))))] H := hP
  have hD : va_D A [(a_pr, .inr (1, [.ref q1, .ref q3, .null])), (q1, .inl (xcI g, 15, .inl (fun _ => (0 : Int32)))), (q3, .inl (xcI g, 15, .inl (fun _ => (0 : Int32))))] := hD
  refine lv_aload_n hx hb dX1_init_20 rfl (lv_at hl 0 rfl) ?_
  refine lv_bipush (v := 6) hx hb dX1_init_21 (by decide) ?_
  refine va_newa (atype := .int) (ty := .int) (n := (6 : Int32)) (N' := 6) (a0 := (6, (.inl (fun _ => 0)))) hx hb (hts (.arrayClass .int) (by decide +kernel)) rfl hK hP hD hS hA (fun _ => rfl) (by decide +kernel) (by decide +kernel) (by decide +kernel) (by decide +kernel) (by decide +kernel) dX1_init_23 (fun q5 cA H hKn hP hD hS => ?_)
  obtain rfl := xarr (k := 0) (fun _ q9 => by cases q9) hKn rfl
  have hP : va_P g.1 vwCl [(a_pr, .inr (1, [.ref q1, .ref q3, .null])), (q1, .inl (xcI g, 15, .inl (fun _ => (0 : Int32)))), (q3, .inl (xcI g, 15, .inl (fun _ => (0 : Int32)))), (q5, .inl (xcI g, 6, .inl (fun _ => (0 : Int32))))] H := hP
  have hD : va_D A [(a_pr, .inr (1, [.ref q1, .ref q3, .null])), (q1, .inl (xcI g, 15, .inl (fun _ => (0 : Int32)))), (q3, .inl (xcI g, 15, .inl (fun _ => (0 : Int32)))), (q5, .inl (xcI g, 6, .inl (fun _ => (0 : Int32))))] := hD
  refine W.widen (k := 3) (n := 36) (by decide) (by decide) ?_
  refine va_putF (D := g.1) (ci := 1) (v := .ref q5) (ty := .array .int) (C := RX1) (T := TX1) (N := 3) hx hb hts in_X1_init_X1 tyX1 tyX1_ok nmX1 hown hK hP hD hS 0 rfl rfl 2 (by decide) (hts (.fieldLink RX1 18 "RandomModels$Pairs" "stars" "[I") (by decide +kernel)) (fun _ h9 => h9) rfl hin rfl (by decide +kernel) rfl rfl (Nat.le_of_ble_eq_true rfl) dX1_init_25 (fun H locs hP hD hS => ?_)
  have hP : va_P g.1 vwCl [(a_pr, .inr (1, [.ref q1, .ref q3, .ref q5])), (q1, .inl (xcI g, 15, .inl (fun _ => (0 : Int32)))), (q3, .inl (xcI g, 15, .inl (fun _ => (0 : Int32)))), (q5, .inl (xcI g, 6, .inl (fun _ => (0 : Int32))))] H := hP
  have hD : va_D A [(a_pr, .inr (1, [.ref q1, .ref q3, .ref q5])), (q1, .inl (xcI g, 15, .inl (fun _ => (0 : Int32)))), (q3, .inl (xcI g, 15, .inl (fun _ => (0 : Int32)))), (q5, .inl (xcI g, 6, .inl (fun _ => (0 : Int32))))] := hD
  refine lv_iconst (v := 1) hx hb dX1_init_28 (by decide) ?_
  refine lv_istore_n (lv' := [(1, .int (1 : Int32)), (0, .ref a_pr)]) hx hb dX1_init_29 rfl hl (by decide) rfl (fun ls hl => ?_)
  obtain ⟨n, h⟩ := h
  exact w_X1_init_30 C0 a_pr  post   n q1 q3 q5 (1 : Int32) (fun _ => (0 : Int32)) (fun _ => (0 : Int32)) (fun _ => (0 : Int32)) hP hD hS (lv_sub hl [1, 0] rfl) h
