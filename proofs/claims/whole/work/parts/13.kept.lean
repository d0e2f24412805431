def b_X3_keptOf_35 (f_tw : Nat → Int32) (f_tr : Nat → Int32) (kn : Nat) (f_lo : Nat → Int32) (f_hi : Nat → Int32) (f_st : Nat → Int32) (rc : (Int32) → (Int32) → (Nat → Int32) → (Nat → Int32) → (Nat) → (Nat → Int32) → (Nat → Int32) → (Nat → Int32) → (Nat → Int32) → (Int32 → (Nat → Int32) → Prop) → Prop) (post : Int32 → (Nat → Int32) → Prop) : Nat → (Int32) → (Int32) → (Nat → Int32) → Prop
  | 0 => fun x1 x3 f_ke => False
  | n35 + 1 => fun x1 x3 f_ke => ((x3 < 0 → post (0 : Int32) f_ke) ∧ (¬ x3 < 0 → ((((x1 >>> (x3 &&& 31)) &&& (1 : Int32)) = 0 → (b_X3_keptOf_35 f_tw f_tr kn f_lo f_hi f_st rc post  n35) x1 (x3 + (-1)) f_ke) ∧ (¬ ((x1 >>> (x3 &&& 31)) &&& (1 : Int32)) = 0 → (∀ z8 : Int32, z8 = (x1 &&& (((1 : Int32) <<< (x3 &&& 31)) ^^^ (-1 : Int32))) → rc z8 x3 f_tw f_tr kn f_lo f_hi f_st f_ke (fun r9 f_ke_10 => wp_X3_withEdge r9 z8 x3 f_tw f_tr f_lo f_hi f_st (fun r11 => (vp_in x1 kn ∧ (vp_in x1 kn ∧ post ((upd f_ke_10 x1.toNatClampNeg r11) x1.toNatClampNeg) (upd f_ke_10 x1.toNatClampNeg r11))))))))))
def wp_X3_keptOf : Nat → (Int32) → (Int32) → (Nat → Int32) → (Nat → Int32) → (Nat) → (Nat → Int32) → (Nat → Int32) → (Nat → Int32) → (Nat → Int32) → (Int32 → (Nat → Int32) → Prop) → Prop
  | 0 => fun p_graph p_end_ f_tw f_tr kn f_lo f_hi f_st f_ke post => False
  | d + 1 => fun p_graph p_end_ f_tw f_tr kn f_lo f_hi f_st f_ke post => ((p_graph < 0 → post (0 : Int32) f_ke) ∧ (¬ p_graph < 0 → ((p_graph < (Int32.ofNat kn) → (vp_in p_graph kn ∧ (((f_ke p_graph.toNatClampNeg) = 0 → ∃ n : Nat, b_X3_keptOf_35 f_tw f_tr kn f_lo f_hi f_st (wp_X3_keptOf d) post  n p_graph (p_end_ - (1 : Int32)) f_ke) ∧ (¬ (f_ke p_graph.toNatClampNeg) = 0 → (vp_in p_graph kn ∧ post (f_ke p_graph.toNatClampNeg) f_ke))))) ∧ (¬ p_graph < (Int32.ofNat kn) → post (0 : Int32) f_ke))))
abbrev q_X3_keptOf (g : xG) (a_th : Nat) (a_tw : Nat) (a_tr : Nat) (a_ke : Nat) (a_pr : Nat) (a_lo : Nat) (a_hi : Nat) (a_st : Nat) (sl : Int32) (f_tw : Nat → Int32) (f_tr : Nat → Int32) (kn : Nat) (f_lo : Nat → Int32) (f_hi : Nat → Int32) (f_st : Nat → Int32) (post : Int32 → (Nat → Int32) → Prop) : (Nat → Prop) → Array Value → State → Outcome → State → Prop := xQi g (fun (r : Int32) (f_ke : (Nat → Int32)) => post r f_ke) (fun (f_ke : (Nat → Int32)) => [(a_th, .inr (3, [.ref a_pr, .ref a_tw, .ref a_tr, .ref a_ke, .int sl])), (a_tw, .inl (xcI g, 60, .inl f_tw)), (a_tr, .inl (xcI g, 180, .inl f_tr)), (a_ke, .inl (xcI g, kn, .inl f_ke)), (a_pr, .inr (1, [.ref a_lo, .ref a_hi, .ref a_st])), (a_lo, .inl (xcI g, 15, .inl f_lo)), (a_hi, .inl (xcI g, 15, .inl f_hi)), (a_st, .inl (xcI g, 6, .inl f_st))])
theorem in_X3_keptOf_X3 : ∀ w ∈ u_ws RX3 TX3 5, w ∈ wsX3_keptOf := by decide +kernel
set_option maxHeartbeats 1000000 in
set_option maxRecDepth 100000 in
theorem w_X3_keptOf_35 {p : Program} {l : Launch} {e : Env} {s : State} {m : MethodId} {args : Array Value} {below : List Frame} {meth : Method} {c : Code} {A : Nat → Prop} {d : Nat} {g : xG} (C0 : vx g p s m args meth c cX3_keptOf (some .int) 5 yX3_keptOf wsX3_keptOf A) (a_th : Nat) (a_tw : Nat) (a_tr : Nat) (a_ke : Nat) (a_pr : Nat) (a_lo : Nat) (a_hi : Nat) (a_st : Nat) (sl : Int32) (f_tw : Nat → Int32) (f_tr : Nat → Int32) (kn : Nat) (f_lo : Nat → Int32) (f_hi : Nat → Int32) (f_st : Nat → Int32) (rc : (Int32) → (Int32) → (Nat → Int32) → (Nat → Int32) → (Nat) → (Nat → Int32) → (Nat → Int32) → (Nat → Int32) → (Nat → Int32) → (Int32 → (Nat → Int32) → Prop) → Prop) (post : Int32 → (Nat → Int32) → Prop) (hrc : ∀ (sz : Nat) (a_th : Nat) (a_tw : Nat) (a_tr : Nat) (a_ke : Nat) (a_pr : Nat) (a_lo : Nat) (a_hi : Nat) (a_st : Nat) (p_graph : Int32) (p_end_ : Int32) (sl : Int32) (f_tw : Nat → Int32) (f_tr : Nat → Int32) (kn : Nat) (f_lo : Nat → Int32) (f_hi : Nat → Int32) (f_st : Nat → Int32) (f_ke : Nat → Int32) (post : Int32 → (Nat → Int32) → Prop), rc p_graph p_end_ f_tw f_tr kn f_lo f_hi f_st f_ke post → xM l yX3_keptOf wsX3_keptOf ({ frames := d + 3, cells := 0, slots := 0, locals := 24 * d + 72 } : Room) g sz [(a_th, .inr (3, [.ref a_pr, .ref a_tw, .ref a_tr, .ref a_ke, .int sl])), (a_tw, .inl (xcI g, 60, .inl f_tw)), (a_tr, .inl (xcI g, 180, .inl f_tr)), (a_ke, .inl (xcI g, kn, .inl f_ke)), (a_pr, .inr (1, [.ref a_lo, .ref a_hi, .ref a_st])), (a_lo, .inl (xcI g, 15, .inl f_lo)), (a_hi, .inl (xcI g, 15, .inl f_hi)), (a_st, .inl (xcI g, 6, .inl f_st))] [.ref a_th, .int p_graph, .int p_end_] (q_X3_keptOf g a_th a_tw a_tr a_ke a_pr a_lo a_hi a_st sl f_tw f_tr kn f_lo f_hi f_st post) 0 0) : ∀ (n : Nat) (x1 : Int32) (x3 : Int32) (f_ke : Nat → Int32) {H : Heap} {locs : List Loc} {ls : Array Slot}, va_P g.1 vwCl [(a_th, .inr (3, [.ref a_pr, .ref a_tw, .ref a_tr, .ref a_ke, .int sl])), (a_tw, .inl (xcI g, 60, .inl f_tw)), (a_tr, .inl (xcI g, 180, .inl f_tr)), (a_ke, .inl (xcI g, kn, .inl f_ke)), (a_pr, .inr (1, [.ref a_lo, .ref a_hi, .ref a_st])), (a_lo, .inl (xcI g, 15, .inl f_lo)), (a_hi, .inl (xcI g, 15, .inl f_hi)), (a_st, .inl (xcI g, 6, .inl f_st))] H → va_D A [(a_th, .inr (3, [.ref a_pr, .ref a_tw, .ref a_tr, .ref a_ke, .int sl])), (a_tw, .inl (xcI g, 60, .inl f_tw)), (a_tr, .inl (xcI g, 180, .inl f_tr)), (a_ke, .inl (xcI g, kn, .inl f_ke)), (a_pr, .inr (1, [.ref a_lo, .ref a_hi, .ref a_st])), (a_lo, .inl (xcI g, 15, .inl f_lo)), (a_hi, .inl (xcI g, 15, .inl f_hi)), (a_st, .inl (xcI g, 6, .inl f_st))] → va_S A s.heap H locs → lv_has ls 5 [(0, .ref a_th), (1, .int x1), (3, .int x3)] → b_X3_keptOf_35 f_tw f_tr kn f_lo f_hi f_st rc post  n x1 x3 f_ke → W p l e ({ frames := d + 1 + 3, cells := 0, slots := 0, locals := 24 * (d + 1) + 72 } : Room) s m args below meth c H locs 0 0 (MQ below ((q_X3_keptOf g a_th a_tw a_tr a_ke a_pr a_lo a_hi a_st sl f_tw f_tr kn f_lo f_hi f_st post) A) args s 0 0 A) (F0 m 35 ls []) := by
  obtain ⟨hx, hb, hr, hml, hown, hin, hts, hlocks, hA, hK, hZ⟩ := id C0
  have hown : s.vm.findClass RX3 = some m.cls := hown
  intro n
  induction n with
  | zero =>
    intro  x1 x3 f_ke H locs ls hP hD hS hl h
    exact False.elim h
  | succ n35 hk35 =>
    intro  x1 x3 f_ke H locs ls hP hD hS hl h
    unfold b_X3_keptOf_35 at h
    refine lv_iload_n hx hb dX3_keptOf_35 rfl (lv_at hl 2 rfl) ?_
    refine lv_if_lt (tgt := 89) hx hb dX3_keptOf_36 (by decide) (fun c6 => ?_) (fun c6 => ?_)
    · have h := h.1 c6
      refine lv_iconst (v := 0) hx hb dX3_keptOf_89 (by decide) ?_
      exact xreti f_ke C0 hP hD hS h dX3_keptOf_90
    · have h := h.2 c6
      refine lv_iload_n hx hb dX3_keptOf_39 rfl (lv_at hl 1 rfl) ?_
      refine lv_iload_n hx hb dX3_keptOf_40 rfl (lv_at hl 2 rfl) ?_
      refine lv_ishr hx hb dX3_keptOf_41 ?_
      refine lv_iconst (v := 1) hx hb dX3_keptOf_42 (by decide) ?_
      refine lv_iand hx hb dX3_keptOf_43 ?_
      refine lv_if_eq (tgt := 83) hx hb dX3_keptOf_44 (by decide) (fun c7 => ?_) (fun c7 => ?_)
      · have h := h.1 c7
        refine lv_iinc (v := (x3 + (-1))) (lv' := [(3, .int (x3 + (-1))), (0, .ref a_th), (1, .int x1)]) hx hb dX3_keptOf_83 hl (k := 2) rfl rfl (by decide) rfl (fun ls hl => ?_)
        refine lv_goto (tgt := 35) hx hb dX3_keptOf_86 (by decide) ?_
        exact hk35  x1 (x3 + (-1)) f_ke hP hD hS (lv_sub hl [1, 2, 0] rfl) h
      · have h := h.2 c7
        refine lv_iload_n hx hb dX3_keptOf_47 rfl (lv_at hl 1 rfl) ?_
        refine lv_iconst (v := 1) hx hb dX3_keptOf_48 (by decide) ?_
        refine lv_iload_n hx hb dX3_keptOf_49 rfl (lv_at hl 2 rfl) ?_
        refine lv_ishl hx hb dX3_keptOf_50 ?_
        refine lv_iconst (v := -1) hx hb dX3_keptOf_51 (by decide) ?_
        refine lv_ixor hx hb dX3_keptOf_52 ?_
        refine lv_iand hx hb dX3_keptOf_53 ?_
        refine lv_topi (fun z8 ez8 => ?_)
        have h := h z8 ez8
        refine lv_istore (lv' := [(4, .int z8), (0, .ref a_th), (1, .int x1), (3, .int x3)]) hx hb dX3_keptOf_54 hl (by decide) rfl (fun ls hl => ?_)
        refine lv_aload_n hx hb dX3_keptOf_56 rfl (lv_at hl 1 rfl) ?_
        refine va_get (D := g.1) (ci := 3) (v := .ref a_ke) (C := RX3) (T := TX3) (N := 5) hx hb hts in_X3_keptOf_X3 hown hK hP 0 rfl rfl 3 (by decide) (hts (.fieldLink RX3 22 "RandomModels$Things" "kept" "[I") (by decide +kernel)) (fun _ h9 => h9) rfl dX3_keptOf_57 ?_
        refine lv_iload_n hx hb dX3_keptOf_60 rfl (lv_at hl 2 rfl) ?_
        refine lv_aload_n hx hb dX3_keptOf_61 rfl (lv_at hl 1 rfl) ?_
        refine lv_aload_n hx hb dX3_keptOf_62 rfl (lv_at hl 1 rfl) ?_
        refine lv_iload hx hb dX3_keptOf_63 (lv_at hl 0 rfl) ?_
        refine lv_iload_n hx hb dX3_keptOf_65 rfl (lv_at hl 3 rfl) ?_
        refine xi (wr := []) (xrV (As := [.int z8, .int x3]) (rest := [.ref a_th, .int x1, .ref a_ke]) C0 hl.1 (hrc _ a_th a_tw a_tr a_ke a_pr a_lo a_hi a_st z8 x3 sl f_tw f_tr kn f_lo f_hi f_st f_ke _ h) (cwV 2 hts gX3_keptOf_X3_keptOf rfl rfl rfl (by decide +kernel) ⟨by show d + 3 + 1 ≤ d + 1 + 3; omega, by show 8 + (5 + 11) + (24 * d + 72) ≤ 24 * (d + 1) + 72; omega⟩) 0 3 rfl rfl rfl rfl rfl (Nat.le_of_ble_eq_true rfl) dX3_keptOf_66 ⟨Nat.le_of_ble_eq_true rfl, Nat.le_of_ble_eq_true rfl⟩) C0 hP hD hS [0, 1, 2, 3, 4, 5, 6, 7] [] (by decide) rfl rfl rfl (by decide) (by decide) (fun r9 u H locs h hP hD hS => ?_)
        obtain ⟨f_ke_10, rfl⟩ : ∃ z, z = u := ⟨_, rfl⟩
        have hP : va_P g.1 vwCl [(a_th, .inr (3, [.ref a_pr, .ref a_tw, .ref a_tr, .ref a_ke, .int sl])), (a_tw, .inl (xcI g, 60, .inl f_tw)), (a_tr, .inl (xcI g, 180, .inl f_tr)), (a_ke, .inl (xcI g, kn, .inl f_ke_10)), (a_pr, .inr (1, [.ref a_lo, .ref a_hi, .ref a_st])), (a_lo, .inl (xcI g, 15, .inl f_lo)), (a_hi, .inl (xcI g, 15, .inl f_hi)), (a_st, .inl (xcI g, 6, .inl f_st))] H := hP
        have hD : va_D A [(a_th, .inr (3, [.ref a_pr, .ref a_tw, .ref a_tr, .ref a_ke, .int sl])), (a_tw, .inl (xcI g, 60, .inl f_tw)), (a_tr, .inl (xcI g, 180, .inl f_tr)), (a_ke, .inl (xcI g, kn, .inl f_ke_10)), (a_pr, .inr (1, [.ref a_lo, .ref a_hi, .ref a_st])), (a_lo, .inl (xcI g, 15, .inl f_lo)), (a_hi, .inl (xcI g, 15, .inl f_hi)), (a_st, .inl (xcI g, 6, .inl f_st))] := hD
        refine lv_iload hx hb dX3_keptOf_69 (lv_at hl 0 rfl) ?_
        refine lv_iload_n hx hb dX3_keptOf_71 rfl (lv_at hl 3 rfl) ?_
        refine xi (wr := []) (xrV (As := [.int r9, .int z8, .int x3]) (rest := [.int x1, .ref a_ke]) C0 hl.1 (c_X3_withEdge l g _ a_th a_tw a_tr a_ke a_pr a_lo a_hi a_st r9 z8 x3 sl f_tw f_tr kn f_ke_10 f_lo f_hi f_st _ h) (cwV 3 hts gX3_keptOf_X3_withEdge rfl rfl rfl (by decide +kernel) ⟨by show 2 + 1 ≤ d + 1 + 3; omega, by show 8 + (11 + 11) + (42) ≤ 24 * (d + 1) + 72; omega⟩) 0 3 rfl rfl rfl rfl rfl (Nat.le_of_ble_eq_true rfl) dX3_keptOf_72 ⟨Nat.le_of_ble_eq_true rfl, Nat.le_of_ble_eq_true rfl⟩) C0 hP hD hS [0, 1, 2, 3, 4, 5, 6, 7] [] (by decide) rfl rfl rfl (by decide) (by decide) (fun r11 u H locs h hP hD hS => ?_)
        have hP : va_P g.1 vwCl [(a_th, .inr (3, [.ref a_pr, .ref a_tw, .ref a_tr, .ref a_ke, .int sl])), (a_tw, .inl (xcI g, 60, .inl f_tw)), (a_tr, .inl (xcI g, 180, .inl f_tr)), (a_ke, .inl (xcI g, kn, .inl f_ke_10)), (a_pr, .inr (1, [.ref a_lo, .ref a_hi, .ref a_st])), (a_lo, .inl (xcI g, 15, .inl f_lo)), (a_hi, .inl (xcI g, 15, .inl f_hi)), (a_st, .inl (xcI g, 6, .inl f_st))] H := hP
        have hD : va_D A [(a_th, .inr (3, [.ref a_pr, .ref a_tw, .ref a_tr, .ref a_ke, .int sl])), (a_tw, .inl (xcI g, 60, .inl f_tw)), (a_tr, .inl (xcI g, 180, .inl f_tr)), (a_ke, .inl (xcI g, kn, .inl f_ke_10)), (a_pr, .inr (1, [.ref a_lo, .ref a_hi, .ref a_st])), (a_lo, .inl (xcI g, 15, .inl f_lo)), (a_hi, .inl (xcI g, 15, .inl f_hi)), (a_st, .inl (xcI g, 6, .inl f_st))] := hD
        obtain ⟨c12, h⟩ := h
        refine va_iast hx hb hK hP hD hS 3 0 rfl rfl c12 dX3_keptOf_75 (fun H locs hP hD hS => ?_)
        have hP : va_P g.1 vwCl [(a_th, .inr (3, [.ref a_pr, .ref a_tw, .ref a_tr, .ref a_ke, .int sl])), (a_tw, .inl (xcI g, 60, .inl f_tw)), (a_tr, .inl (xcI g, 180, .inl f_tr)), (a_ke, .inl (xcI g, kn, .inl (upd f_ke_10 x1.toNatClampNeg r11))), (a_pr, .inr (1, [.ref a_lo, .ref a_hi, .ref a_st])), (a_lo, .inl (xcI g, 15, .inl f_lo)), (a_hi, .inl (xcI g, 15, .inl f_hi)), (a_st, .inl (xcI g, 6, .inl f_st))] H := hP
        have hD : va_D A [(a_th, .inr (3, [.ref a_pr, .ref a_tw, .ref a_tr, .ref a_ke, .int sl])), (a_tw, .inl (xcI g, 60, .inl f_tw)), (a_tr, .inl (xcI g, 180, .inl f_tr)), (a_ke, .inl (xcI g, kn, .inl (upd f_ke_10 x1.toNatClampNeg r11))), (a_pr, .inr (1, [.ref a_lo, .ref a_hi, .ref a_st])), (a_lo, .inl (xcI g, 15, .inl f_lo)), (a_hi, .inl (xcI g, 15, .inl f_hi)), (a_st, .inl (xcI g, 6, .inl f_st))] := hD
        refine lv_aload_n hx hb dX3_keptOf_76 rfl (lv_at hl 1 rfl) ?_
        refine va_get (D := g.1) (ci := 3) (v := .ref a_ke) (C := RX3) (T := TX3) (N := 5) hx hb hts in_X3_keptOf_X3 hown hK hP 0 rfl rfl 3 (by decide) (hts (.fieldLink RX3 22 "RandomModels$Things" "kept" "[I") (by decide +kernel)) (fun _ h9 => h9) rfl dX3_keptOf_77 ?_
        refine lv_iload_n hx hb dX3_keptOf_80 rfl (lv_at hl 2 rfl) ?_
        obtain ⟨c13, h⟩ := h
        refine va_iald hx hb hK hP 3 0 rfl rfl c13 dX3_keptOf_81 ?_
        exact xreti (upd f_ke_10 x1.toNatClampNeg r11) C0 hP hD hS h dX3_keptOf_82
set_option maxHeartbeats 1000000 in
set_option maxRecDepth 100000 in
theorem c_X3_keptOf (l : Launch) (g : xG) : ∀ (d : Nat) (sz : Nat) (a_th : Nat) (a_tw : Nat) (a_tr : Nat) (a_ke : Nat) (a_pr : Nat) (a_lo : Nat) (a_hi : Nat) (a_st : Nat) (p_graph : Int32) (p_end_ : Int32) (sl : Int32) (f_tw : Nat → Int32) (f_tr : Nat → Int32) (kn : Nat) (f_lo : Nat → Int32) (f_hi : Nat → Int32) (f_st : Nat → Int32) (f_ke : Nat → Int32) (post : Int32 → (Nat → Int32) → Prop), wp_X3_keptOf d p_graph p_end_ f_tw f_tr kn f_lo f_hi f_st f_ke post → xM l yX3_keptOf wsX3_keptOf ({ frames := d + 3, cells := 0, slots := 0, locals := 24 * d + 72 } : Room) g sz [(a_th, .inr (3, [.ref a_pr, .ref a_tw, .ref a_tr, .ref a_ke, .int sl])), (a_tw, .inl (xcI g, 60, .inl f_tw)), (a_tr, .inl (xcI g, 180, .inl f_tr)), (a_ke, .inl (xcI g, kn, .inl f_ke)), (a_pr, .inr (1, [.ref a_lo, .ref a_hi, .ref a_st])), (a_lo, .inl (xcI g, 15, .inl f_lo)), (a_hi, .inl (xcI g, 15, .inl f_hi)), (a_st, .inl (xcI g, 6, .inl f_st))] [.ref a_th, .int p_graph, .int p_end_] (q_X3_keptOf g a_th a_tw a_tr a_ke a_pr a_lo a_hi a_st sl f_tw f_tr kn f_lo f_hi f_st post) 0 0 := by
  intro d
  induction d with
  | zero =>
    intros
    exact False.elim (by assumption)
  | succ d ih =>
  intro sz a_th a_tw a_tr a_ke a_pr a_lo a_hi a_st p_graph p_end_ sl f_tw f_tr kn f_lo f_hi f_st f_ke post h
  refine xmet (cc := cX3_keptOf) (maxL := 5) (ret := (some .int)) (by decide) rfl (Nat.le_of_ble_eq_true rfl) ?_
  intro p e s m args below meth c A ls H locs C0 hP hD hS hl
  obtain ⟨hx, hb, hr, hml, hown, hin, hts, hlocks, hA, hK, hZ⟩ := id C0
  have hown : s.vm.findClass RX3 = some m.cls := hown
  have hl : lv_has ls 5 [(0, .ref a_th), (1, .int p_graph), (2, .int p_end_)] := hl
  unfold wp_X3_keptOf at h
  refine lv_iload_n hx hb dX3_keptOf_0 rfl (lv_at hl 1 rfl) ?_
  refine lv_if_lt (tgt := 13) hx hb dX3_keptOf_1 (by decide) (fun c1 => ?_) (fun c1 => ?_)
  · have h := h.1 c1
    refine lv_iconst (v := 0) hx hb dX3_keptOf_13 (by decide) ?_
    exact xreti f_ke C0 hP hD hS h dX3_keptOf_14
  · have h := h.2 c1
    refine lv_iload_n hx hb dX3_keptOf_4 rfl (lv_at hl 1 rfl) ?_
    refine lv_aload_n hx hb dX3_keptOf_5 rfl (lv_at hl 0 rfl) ?_
    refine va_get (D := g.1) (ci := 3) (v := .ref a_ke) (C := RX3) (T := TX3) (N := 5) hx hb hts in_X3_keptOf_X3 hown hK hP 0 rfl rfl 3 (by decide) (hts (.fieldLink RX3 22 "RandomModels$Things" "kept" "[I") (by decide +kernel)) (fun _ h9 => h9) rfl dX3_keptOf_6 ?_
    refine va_alen (v := Int32.ofNat kn) hx hb hK hP 3 0 rfl rfl rfl dX3_keptOf_9 ?_
    refine lv_icmp_lt (tgt := 15) hx hb dX3_keptOf_10 (by decide) (fun c2 => ?_) (fun c2 => ?_)
    · have h := h.1 c2
      refine lv_aload_n hx hb dX3_keptOf_15 rfl (lv_at hl 0 rfl) ?_
      refine va_get (D := g.1) (ci := 3) (v := .ref a_ke) (C := RX3) (T := TX3) (N := 5) hx hb hts in_X3_keptOf_X3 hown hK hP 0 rfl rfl 3 (by decide) (hts (.fieldLink RX3 22 "RandomModels$Things" "kept" "[I") (by decide +kernel)) (fun _ h9 => h9) rfl dX3_keptOf_16 ?_
      refine lv_iload_n hx hb dX3_keptOf_19 rfl (lv_at hl 1 rfl) ?_
      obtain ⟨c3, h⟩ := h
      refine va_iald hx hb hK hP 3 0 rfl rfl c3 dX3_keptOf_20 ?_
      refine lv_if_eq (tgt := 31) hx hb dX3_keptOf_21 (by decide) (fun c4 => ?_) (fun c4 => ?_)
      · have h := h.1 c4
        refine lv_iload_n hx hb dX3_keptOf_31 rfl (lv_at hl 2 rfl) ?_
        refine lv_iconst (v := 1) hx hb dX3_keptOf_32 (by decide) ?_
        refine lv_isub hx hb dX3_keptOf_33 ?_
        refine lv_istore_n (lv' := [(3, .int (p_end_ - (1 : Int32))), (0, .ref a_th), (1, .int p_graph), (2, .int p_end_)]) hx hb dX3_keptOf_34 rfl hl (by decide) rfl (fun ls hl => ?_)
        obtain ⟨n, h⟩ := h
        exact w_X3_keptOf_35 C0 a_th a_tw a_tr a_ke a_pr a_lo a_hi a_st sl f_tw f_tr kn f_lo f_hi f_st (wp_X3_keptOf d) post ih   n  p_graph (p_end_ - (1 : Int32)) f_ke hP hD hS (lv_sub hl [1, 2, 0] rfl) h
      · have h := h.2 c4
        refine lv_aload_n hx hb dX3_keptOf_24 rfl (lv_at hl 0 rfl) ?_
        refine va_get (D := g.1) (ci := 3) (v := .ref a_ke) (C := RX3) (T := TX3) (N := 5) hx hb hts in_X3_keptOf_X3 hown hK hP 0 rfl rfl 3 (by decide) (hts (.fieldLink RX3 22 "RandomModels$Things" "kept" "[I") (by decide +kernel)) (fun _ h9 => h9) rfl dX3_keptOf_25 ?_
        refine lv_iload_n hx hb dX3_keptOf_28 rfl (lv_at hl 1 rfl) ?_
        obtain ⟨c5, h⟩ := h
        refine va_iald hx hb hK hP 3 0 rfl rfl c5 dX3_keptOf_29 ?_
        exact xreti f_ke C0 hP hD hS h dX3_keptOf_30
    · have h := h.2 c2
      refine lv_iconst (v := 0) hx hb dX3_keptOf_13 (by decide) ?_
      exact xreti f_ke C0 hP hD hS h dX3_keptOf_14

def b_X3_look_20 (sl : Int32) (f_tw : Nat → Int32) (f_tr : Nat → Int32) (kn : Nat) (f_lo : Nat → Int32) (f_hi : Nat → Int32) (f_st : Nat → Int32) (post : Int32 → (Nat → Int32) → Prop) (x2 : Int32) (x3 : Int32) (y0 : Int32) (y1 : Int32) (f_ke : Nat → Int32) : Prop := wp_X3_read y1 y0 x2 x3 sl (fun r5 => post r5 f_ke)
def wp_X3_look (p_what : Int32) (p_graph : Int32) (p_nodes : Int32) (sl : Int32) (f_tw : Nat → Int32) (f_tr : Nat → Int32) (kn : Nat) (f_lo : Nat → Int32) (f_hi : Nat → Int32) (f_st : Nat → Int32) (f_ke : Nat → Int32) (post : Int32 → (Nat → Int32) → Prop) : Prop := wp_X3_isQuick p_what (fun r1 => ((r1 = 0 → wp_X3_keptOf 16 p_graph (15 : Int32) f_tw f_tr kn f_lo f_hi f_st f_ke (fun r3 f_ke_4 => b_X3_look_20 sl f_tw f_tr kn f_lo f_hi f_st post  p_graph p_nodes r3 p_what f_ke_4)) ∧ (¬ r1 = 0 → b_X3_look_20 sl f_tw f_tr kn f_lo f_hi f_st post  p_graph p_nodes (0 : Int32) p_what f_ke)))
abbrev q_X3_look (g : xG) (a_th : Nat) (a_tw : Nat) (a_tr : Nat) (a_ke : Nat) (a_pr : Nat) (a_lo : Nat) (a_hi : Nat) (a_st : Nat) (sl : Int32) (f_tw : Nat → Int32) (f_tr : Nat → Int32) (kn : Nat) (f_lo : Nat → Int32) (f_hi : Nat → Int32) (f_st : Nat → Int32) (post : Int32 → (Nat → Int32) → Prop) : (Nat → Prop) → Array Value → State → Outcome → State → Prop := xQi g (fun (r : Int32) (f_ke : (Nat → Int32)) => post r f_ke) (fun (f_ke : (Nat → Int32)) => [(a_th, .inr (3, [.ref a_pr, .ref a_tw, .ref a_tr, .ref a_ke, .int sl])), (a_tw, .inl (xcI g, 60, .inl f_tw)), (a_tr, .inl (xcI g, 180, .inl f_tr)), (a_ke, .inl (xcI g, kn, .inl f_ke)), (a_pr, .inr (1, [.ref a_lo, .ref a_hi, .ref a_st])), (a_lo, .inl (xcI g, 15, .inl f_lo)), (a_hi, .inl (xcI g, 15, .inl f_hi)), (a_st, .inl (xcI g, 6, .inl f_st))])
set_option maxHeartbeats 1000000 in
set_option maxRecDepth 100000 in
theorem w_X3_look_20 {p : Program} {l : Launch} {e : Env} {s : State} {m : MethodId} {args : Array Value} {below : List Frame} {meth : Method} {c : Code} {A : Nat → Prop} {g : xG} (C0 : vx g p s m args meth c cX3_look (some .int) 4 yX3_look wsX3_look A) (a_th : Nat) (a_tw : Nat) (a_tr : Nat) (a_ke : Nat) (a_pr : Nat) (a_lo : Nat) (a_hi : Nat) (a_st : Nat) (sl : Int32) (f_tw : Nat → Int32) (f_tr : Nat → Int32) (kn : Nat) (f_lo : Nat → Int32) (f_hi : Nat → Int32) (f_st : Nat → Int32) (post : Int32 → (Nat → Int32) → Prop) (x2 : Int32) (x3 : Int32) (y0 : Int32) (y1 : Int32) (f_ke : Nat → Int32) {H : Heap} {locs : List Loc} {ls : Array Slot} (hP : va_P g.1 vwCl [(a_th, .inr (3, [.ref a_pr, .ref a_tw, .ref a_tr, .ref a_ke, .int sl])), (a_tw, .inl (xcI g, 60, .inl f_tw)), (a_tr, .inl (xcI g, 180, .inl f_tr)), (a_ke, .inl (xcI g, kn, .inl f_ke)), (a_pr, .inr (1, [.ref a_lo, .ref a_hi, .ref a_st])), (a_lo, .inl (xcI g, 15, .inl f_lo)), (a_hi, .inl (xcI g, 15, .inl f_hi)), (a_st, .inl (xcI g, 6, .inl f_st))] H) (hD : va_D A [(a_th, .inr (3, [.ref a_pr, .ref a_tw, .ref a_tr, .ref a_ke, .int sl])), (a_tw, .inl (xcI g, 60, .inl f_tw)), (a_tr, .inl (xcI g, 180, .inl f_tr)), (a_ke, .inl (xcI g, kn, .inl f_ke)), (a_pr, .inr (1, [.ref a_lo, .ref a_hi, .ref a_st])), (a_lo, .inl (xcI g, 15, .inl f_lo)), (a_hi, .inl (xcI g, 15, .inl f_hi)), (a_st, .inl (xcI g, 6, .inl f_st))]) (hS : va_S A s.heap H locs) (hl : lv_has ls 4 [(2, .int x2), (3, .int x3)]) (h : b_X3_look_20 sl f_tw f_tr kn f_lo f_hi f_st post  x2 x3 y0 y1 f_ke) : W p l e ({ frames := 20, cells := 0, slots := 0, locals := 480 } : Room) s m args below meth c H locs 0 0 (MQ below ((q_X3_look g a_th a_tw a_tr a_ke a_pr a_lo a_hi a_st sl f_tw f_tr kn f_lo f_hi f_st post) A) args s 0 0 A) (F0 m 20 ls [.int y0, .int y1, .ref a_th]) := by
  obtain ⟨hx, hb, hr, hml, hown, hin, hts, hlocks, hA, hK, hZ⟩ := id C0
  have hown : s.vm.findClass RX3 = some m.cls := hown
  unfold b_X3_look_20 at h
  refine lv_iload_n hx hb dX3_look_20 rfl (lv_at hl 0 rfl) ?_
  refine lv_iload_n hx hb dX3_look_21 rfl (lv_at hl 1 rfl) ?_
  refine xi (wr := []) (xrV (As := [.int y1, .int y0, .int x2, .int x3]) (rest := []) C0 hl.1 (c_X3_read l g _ a_th a_tw a_tr a_ke a_pr a_lo a_hi a_st y1 y0 x2 x3 sl f_tw f_tr kn f_ke f_lo f_hi f_st _ h) (cwV 4 hts gX3_look_X3_read rfl rfl rfl (by decide +kernel) ⟨Nat.le_of_ble_eq_true rfl, Nat.le_of_ble_eq_true rfl⟩) 0 3 rfl rfl rfl rfl rfl (Nat.le_of_ble_eq_true rfl) dX3_look_22 ⟨Nat.le_of_ble_eq_true rfl, Nat.le_of_ble_eq_true rfl⟩) C0 hP hD hS [0, 1, 2, 3, 4, 5, 6, 7] [] (by decide) rfl rfl rfl (by decide) (by decide) (fun r5 u H locs h hP hD hS => ?_)
  have hP : va_P g.1 vwCl [(a_th, .inr (3, [.ref a_pr, .ref a_tw, .ref a_tr, .ref a_ke, .int sl])), (a_tw, .inl (xcI g, 60, .inl f_tw)), (a_tr, .inl (xcI g, 180, .inl f_tr)), (a_ke, .inl (xcI g, kn, .inl f_ke)), (a_pr, .inr (1, [.ref a_lo, .ref a_hi, .ref a_st])), (a_lo, .inl (xcI g, 15, .inl f_lo)), (a_hi, .inl (xcI g, 15, .inl f_hi)), (a_st, .inl (xcI g, 6, .inl f_st))] H := hP
  have hD : va_D A [(a_th, .inr (3, [.ref a_pr, .ref a_tw, .ref a_tr, .ref a_ke, .int sl])), (a_tw, .inl (xcI g, 60, .inl f_tw)), (a_tr, .inl (xcI g, 180, .inl f_tr)), (a_ke, .inl (xcI g, kn, .inl f_ke)), (a_pr, .inr (1, [.ref a_lo, .ref a_hi, .ref a_st])), (a_lo, .inl (xcI g, 15, .inl f_lo)), (a_hi, .inl (xcI g, 15, .inl f_hi)), (a_st, .inl (xcI g, 6, .inl f_st))] := hD
  exact xreti f_ke C0 hP hD hS h dX3_look_25
set_option maxHeartbeats 1000000 in
set_option maxRecDepth 100000 in
theorem c_X3_look (l : Launch) (g : xG) (sz : Nat) (a_th : Nat) (a_tw : Nat) (a_tr : Nat) (a_ke : Nat) (a_pr : Nat) (a_lo : Nat) (a_hi : Nat) (a_st : Nat) (p_what : Int32) (p_graph : Int32) (p_nodes : Int32) (sl : Int32) (f_tw : Nat → Int32) (f_tr : Nat → Int32) (kn : Nat) (f_lo : Nat → Int32) (f_hi : Nat → Int32) (f_st : Nat → Int32) (f_ke : Nat → Int32) (post : Int32 → (Nat → Int32) → Prop) (h : wp_X3_look p_what p_graph p_nodes sl f_tw f_tr kn f_lo f_hi f_st f_ke post) : xM l yX3_look wsX3_look ({ frames := 20, cells := 0, slots := 0, locals := 480 } : Room) g sz [(a_th, .inr (3, [.ref a_pr, .ref a_tw, .ref a_tr, .ref a_ke, .int sl])), (a_tw, .inl (xcI g, 60, .inl f_tw)), (a_tr, .inl (xcI g, 180, .inl f_tr)), (a_ke, .inl (xcI g, kn, .inl f_ke)), (a_pr, .inr (1, [.ref a_lo, .ref a_hi, .ref a_st])), (a_lo, .inl (xcI g, 15, .inl f_lo)), (a_hi, .inl (xcI g, 15, .inl f_hi)), (a_st, .inl (xcI g, 6, .inl f_st))] [.ref a_th, .int p_what, .int p_graph, .int p_nodes] (q_X3_look g a_th a_tw a_tr a_ke a_pr a_lo a_hi a_st sl f_tw f_tr kn f_lo f_hi f_st post) 0 0 := by
  refine xmet (cc := cX3_look) (maxL := 4) (ret := (some .int)) (by decide) rfl (Nat.le_of_ble_eq_true rfl) ?_
  intro p e s m args below meth c A ls H locs C0 hP hD hS hl
  obtain ⟨hx, hb, hr, hml, hown, hin, hts, hlocks, hA, hK, hZ⟩ := id C0
  have hown : s.vm.findClass RX3 = some m.cls := hown
  have hl : lv_has ls 4 [(0, .ref a_th), (1, .int p_what), (2, .int p_graph), (3, .int p_nodes)] := hl
  unfold wp_X3_look at h
  refine lv_aload_n hx hb dX3_look_0 rfl (lv_at hl 0 rfl) ?_
  refine lv_iload_n hx hb dX3_look_1 rfl (lv_at hl 1 rfl) ?_
  refine lv_iload_n hx hb dX3_look_2 rfl (lv_at hl 1 rfl) ?_
  refine xi (wr := [(a_th, .inr (3, [.ref a_pr, .ref a_tw, .ref a_tr, .ref a_ke, .int sl])), (a_tw, .inl (xcI g, 60, .inl f_tw)), (a_tr, .inl (xcI g, 180, .inl f_tr)), (a_ke, .inl (xcI g, kn, .inl f_ke)), (a_pr, .inr (1, [.ref a_lo, .ref a_hi, .ref a_st])), (a_lo, .inl (xcI g, 15, .inl f_lo)), (a_hi, .inl (xcI g, 15, .inl f_hi)), (a_st, .inl (xcI g, 6, .inl f_st))]) (xrS (As := [.int p_what]) (rest := [.int p_what, .ref a_th]) C0 hl.1 (c_X3_isQuick l g _  p_what _ h) (va_cwS 1 hts gX3_look_X3_isQuick rfl rfl rfl (by decide +kernel) ⟨Nat.le_of_ble_eq_true rfl, Nat.le_of_ble_eq_true rfl⟩) rfl rfl (Nat.le_of_ble_eq_true rfl) dX3_look_3 ⟨Nat.le_of_ble_eq_true rfl, Nat.le_of_ble_eq_true rfl⟩) C0 hP hD hS [] [0, 1, 2, 3, 4, 5, 6, 7] (by decide) rfl rfl rfl (by decide) (by decide) (fun r1 u H locs h hP hD hS => ?_)
  have hP : va_P g.1 vwCl [(a_th, .inr (3, [.ref a_pr, .ref a_tw, .ref a_tr, .ref a_ke, .int sl])), (a_tw, .inl (xcI g, 60, .inl f_tw)), (a_tr, .inl (xcI g, 180, .inl f_tr)), (a_ke, .inl (xcI g, kn, .inl f_ke)), (a_pr, .inr (1, [.ref a_lo, .ref a_hi, .ref a_st])), (a_lo, .inl (xcI g, 15, .inl f_lo)), (a_hi, .inl (xcI g, 15, .inl f_hi)), (a_st, .inl (xcI g, 6, .inl f_st))] H := hP
  have hD : va_D A [(a_th, .inr (3, [.ref a_pr, .ref a_tw, .ref a_tr, .ref a_ke, .int sl])), (a_tw, .inl (xcI g, 60, .inl f_tw)), (a_tr, .inl (xcI g, 180, .inl f_tr)), (a_ke, .inl (xcI g, kn, .inl f_ke)), (a_pr, .inr (1, [.ref a_lo, .ref a_hi, .ref a_st])), (a_lo, .inl (xcI g, 15, .inl f_lo)), (a_hi, .inl (xcI g, 15, .inl f_hi)), (a_st, .inl (xcI g, 6, .inl f_st))] := hD
  refine lv_if_eq (tgt := 13) hx hb dX3_look_6 (by decide) (fun c2 => ?_) (fun c2 => ?_)
  · have h := h.1 c2
    refine lv_aload_n hx hb dX3_look_13 rfl (lv_at hl 0 rfl) ?_
    refine lv_iload_n hx hb dX3_look_14 rfl (lv_at hl 2 rfl) ?_
    refine lv_bipush (v := 15) hx hb dX3_look_15 (by decide) ?_
    refine xi (wr := []) (xrV (As := [.int p_graph, .int (15 : Int32)]) (rest := [.int p_what, .ref a_th]) C0 hl.1 (c_X3_keptOf l g 16 _ a_th a_tw a_tr a_ke a_pr a_lo a_hi a_st p_graph (15 : Int32) sl f_tw f_tr kn f_lo f_hi f_st f_ke _ h) (cwV 2 hts gX3_look_X3_keptOf rfl rfl rfl (by decide +kernel) ⟨Nat.le_of_ble_eq_true rfl, Nat.le_of_ble_eq_true rfl⟩) 0 3 rfl rfl rfl rfl rfl (Nat.le_of_ble_eq_true rfl) dX3_look_17 ⟨Nat.le_of_ble_eq_true rfl, Nat.le_of_ble_eq_true rfl⟩) C0 hP hD hS [0, 1, 2, 3, 4, 5, 6, 7] [] (by decide) rfl rfl rfl (by decide) (by decide) (fun r3 u H locs h hP hD hS => ?_)
    obtain ⟨f_ke_4, rfl⟩ : ∃ z, z = u := ⟨_, rfl⟩
    have hP : va_P g.1 vwCl [(a_th, .inr (3, [.ref a_pr, .ref a_tw, .ref a_tr, .ref a_ke, .int sl])), (a_tw, .inl (xcI g, 60, .inl f_tw)), (a_tr, .inl (xcI g, 180, .inl f_tr)), (a_ke, .inl (xcI g, kn, .inl f_ke_4)), (a_pr, .inr (1, [.ref a_lo, .ref a_hi, .ref a_st])), (a_lo, .inl (xcI g, 15, .inl f_lo)), (a_hi, .inl (xcI g, 15, .inl f_hi)), (a_st, .inl (xcI g, 6, .inl f_st))] H := hP
    have hD : va_D A [(a_th, .inr (3, [.ref a_pr, .ref a_tw, .ref a_tr, .ref a_ke, .int sl])), (a_tw, .inl (xcI g, 60, .inl f_tw)), (a_tr, .inl (xcI g, 180, .inl f_tr)), (a_ke, .inl (xcI g, kn, .inl f_ke_4)), (a_pr, .inr (1, [.ref a_lo, .ref a_hi, .ref a_st])), (a_lo, .inl (xcI g, 15, .inl f_lo)), (a_hi, .inl (xcI g, 15, .inl f_hi)), (a_st, .inl (xcI g, 6, .inl f_st))] := hD
    exact w_X3_look_20 C0 a_th a_tw a_tr a_ke a_pr a_lo a_hi a_st sl f_tw f_tr kn f_lo f_hi f_st post    p_graph p_nodes r3 p_what f_ke_4 hP hD hS (lv_sub hl [2, 3] rfl) h
  · have h := h.2 c2
    refine lv_iconst (v := 0) hx hb dX3_look_9 (by decide) ?_
    refine lv_goto (tgt := 20) hx hb dX3_look_10 (by decide) ?_
    exact w_X3_look_20 C0 a_th a_tw a_tr a_ke a_pr a_lo a_hi a_st sl f_tw f_tr kn f_lo f_hi f_st post    p_graph p_nodes (0 : Int32) p_what f_ke hP hD hS (lv_sub hl [2, 3] rfl) h
