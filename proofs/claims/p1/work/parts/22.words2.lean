/-! the words of a text, on: find and begin -/
set_option maxHeartbeats 4000000 in
set_option maxRecDepth 100000 in
theorem lp_Wd_find1 {p : Program} {l : Launch} {e : Env} {s : State} {m : MethodId} {args : Array Value} {below : List Frame} {meth : Method} {c : Code} {Q : State → Prop} {A : Nat → Prop} (D : va_G) (cI cB cJ cZ : ClassId) (hx : p.tables.exec = Jvm.exec) (hb : c.code = b_Wd_find) (hml : c.maxLocals = 7) (hown : s.vm.findClass R_Wd = some m.cls) (hG : ∀ w ∈ gG, w.before args s = true) (hK : va_K D kl (tyL cI cB cJ cZ) s) (hA : ∀ q : Nat, s.heap.size ≤ q → A q) (wd tx w1 w2 w3 w4 w5 w6 w7 z : Nat) (F hd fr ln nx vr ow no : Nat → Int32) (a k : Nat) (hI : WI z hd fr ln nx) (ha : a + k ≤ 65638) (H : Heap) (locs : List Loc) (hP : va_P D kl [(wd, .inr (11, [.ref tx, .ref w1, .ref w2, .ref w3, .ref w4, .ref w5, .ref w6, .ref w7, .int (nI z)])), (tx, .inl (cB, 65638, .inl F)), (w1, .inl (cI, 512, .inl hd)), (w2, .inl (cI, 5923, .inl fr)), (w3, .inl (cI, 5923, .inl ln)), (w4, .inl (cI, 5923, .inl nx)), (w5, .inl (cI, 5923, .inl vr)), (w6, .inl (cI, 5923, .inl ow)), (w7, .inl (cI, 5923, .inl no))] H) (hD : va_D A [(wd, .inr (11, [.ref tx, .ref w1, .ref w2, .ref w3, .ref w4, .ref w5, .ref w6, .ref w7, .int (nI z)])), (tx, .inl (cB, 65638, .inl F)), (w1, .inl (cI, 512, .inl hd)), (w2, .inl (cI, 5923, .inl fr)), (w3, .inl (cI, 5923, .inl ln)), (w4, .inl (cI, 5923, .inl nx)), (w5, .inl (cI, 5923, .inl vr)), (w6, .inl (cI, 5923, .inl ow)), (w7, .inl (cI, 5923, .inl no))]) (hS : va_S A s.heap H locs) (kk : ∀ (hs : Int32) (ls : Array Slot), lv_has ls 7 [(4, .int (nI k)), (3, .int hs), (0, .ref wd), (1, .int (nI a)), (2, .int (nI k))] → W p l e ({ frames := 1, cells := 0, slots := 0, locals := 40 } : Room) s m args below meth c H locs 0 0 Q (F0 m 32 ls [])) : ∀ (j i : Nat) (hs : Int32) (ls : Array Slot), i + j = k → lv_has ls 7 [(4, .int (nI i)), (3, .int hs), (0, .ref wd), (1, .int (nI a)), (2, .int (nI k))] → W p l e ({ frames := 1, cells := 0, slots := 0, locals := 40 } : Room) s m args below meth c H locs 0 0 Q (F0 m 5 ls []) := by
  intro j
  induction j with
  | zero =>
    intro i hs ls hi hl
    obtain rfl : i = k := by omega
    refine lv_iload hx hb d_Wd_find_5 (lv_at hl 0 rfl) ?_
    refine lv_iload_n hx hb d_Wd_find_7 rfl (lv_at hl 4 rfl) ?_
    exact lv_icmp_ge (tgt := 32) hx hb d_Wd_find_8 (by decide) (fun _ => kk hs ls hl) (fun h9 => absurd (nI_le (Nat.le_refl i) (by omega)) h9)
  | succ j ih =>
    intro i hs ls hi hl
    refine lv_iload hx hb d_Wd_find_5 (lv_at hl 0 rfl) ?_
    refine lv_iload_n hx hb d_Wd_find_7 rfl (lv_at hl 4 rfl) ?_
    refine lv_icmp_ge (tgt := 32) hx hb d_Wd_find_8 (by decide) (fun zz1 => absurd zz1 (nI_ge (by omega) (by omega))) (fun _ => ?_)
    refine lv_iload_n hx hb d_Wd_find_11 rfl (lv_at hl 1 rfl) ?_
    refine lv_bipush (v := 31) hx hb d_Wd_find_12 (by decide) ?_
    refine lv_imul hx hb d_Wd_find_14 ?_
    refine lv_aload_n hx hb d_Wd_find_15 rfl (lv_at hl 2 rfl) ?_
    refine va_get (D := D) (ci := 11) (v := .ref tx) (C := R_Wd) (T := T_Wd) (N := 9) hx hb hG gi_Wd hown hK hP 0 rfl rfl 0 (by decide) (hG _ fl_Wd_33) (fun _ h9 => h9) rfl d_Wd_find_16 ?_
    refine lv_iload_n hx hb d_Wd_find_19 rfl (lv_at hl 3 rfl) ?_
    refine lv_iload hx hb d_Wd_find_20 (lv_at hl 0 rfl) ?_
    refine lv_iadd hx hb d_Wd_find_22 ?_
    rw [show nI a + nI i = nI (a + i) from nI_add a i]
    refine va_bald (D := D) hx hb hK hP 1 1 rfl rfl (vp_in_nI (by omega) (by decide)) d_Wd_find_23 ?_
    refine lv_topi (fun v2 ev2 => ?_)
    refine lv_iadd hx hb d_Wd_find_24 ?_
    refine lv_topi (fun hs2 eh => ?_)
    refine lv_istore_n (lv' := [(3, .int hs2), (4, .int (nI i)), (0, .ref wd), (1, .int (nI a)), (2, .int (nI k))]) hx hb d_Wd_find_25 rfl hl (by decide) rfl (fun ls hl => ?_)
    refine lv_iinc (k := 1) (x := (nI i)) (v := ((nI i) + 1)) (lv' := [(4, .int ((nI i) + 1)), (3, .int hs2), (0, .ref wd), (1, .int (nI a)), (2, .int (nI k))]) hx hb d_Wd_find_26 hl rfl (congrArg ((nI i) + ·) (by decide)) (by decide) rfl (fun ls hl => ?_)
    refine lv_goto (tgt := 5) hx hb d_Wd_find_29 (by decide) ?_
    refine ih (i + 1) hs2 ls (by omega) ?_
    rw [nI_succ]
    exact lv_sub hl [0, 1, 2, 3, 4] rfl

set_option maxHeartbeats 4000000 in
set_option maxRecDepth 100000 in
theorem lp_Wd_find2 {p : Program} {l : Launch} {e : Env} {s : State} {m : MethodId} {args : Array Value} {below : List Frame} {meth : Method} {c : Code} {Q : State → Prop} {A : Nat → Prop} (D : va_G) (cI cB cJ cZ : ClassId) (hx : p.tables.exec = Jvm.exec) (hb : c.code = b_Wd_find) (hml : c.maxLocals = 7) (hown : s.vm.findClass R_Wd = some m.cls) (hG : ∀ w ∈ gG, w.before args s = true) (hK : va_K D kl (tyL cI cB cJ cZ) s) (hA : ∀ q : Nat, s.heap.size ≤ q → A q) (wd tx w1 w2 w3 w4 w5 w6 w7 z : Nat) (F hd fr ln nx vr ow no : Nat → Int32) (a k : Nat) (hI : WI z hd fr ln nx) (ha : a + k ≤ 65638) (b : Nat) (H : Heap) (locs : List Loc) (hP : va_P D kl [(wd, .inr (11, [.ref tx, .ref w1, .ref w2, .ref w3, .ref w4, .ref w5, .ref w6, .ref w7, .int (nI z)])), (tx, .inl (cB, 65638, .inl F)), (w1, .inl (cI, 512, .inl hd)), (w2, .inl (cI, 5923, .inl fr)), (w3, .inl (cI, 5923, .inl ln)), (w4, .inl (cI, 5923, .inl nx)), (w5, .inl (cI, 5923, .inl vr)), (w6, .inl (cI, 5923, .inl ow)), (w7, .inl (cI, 5923, .inl no))] H) (hD : va_D A [(wd, .inr (11, [.ref tx, .ref w1, .ref w2, .ref w3, .ref w4, .ref w5, .ref w6, .ref w7, .int (nI z)])), (tx, .inl (cB, 65638, .inl F)), (w1, .inl (cI, 512, .inl hd)), (w2, .inl (cI, 5923, .inl fr)), (w3, .inl (cI, 5923, .inl ln)), (w4, .inl (cI, 5923, .inl nx)), (w5, .inl (cI, 5923, .inl vr)), (w6, .inl (cI, 5923, .inl ow)), (w7, .inl (cI, 5923, .inl no))]) (hS : va_S A s.heap H locs) (kk : ∀ (wv i6 : Int32) (ls : Array Slot), lv_has ls 7 [(6, .int i6), (5, .int wv), (4, .int (nI b)), (0, .ref wd), (1, .int (nI a)), (2, .int (nI k))] → W p l e ({ frames := 1, cells := 0, slots := 0, locals := 40 } : Room) s m args below meth c H locs 0 0 Q (F0 m 104 ls [])) (kr : ∀ (w : Nat) (ls : Array Slot), w < z → W p l e ({ frames := 1, cells := 0, slots := 0, locals := 40 } : Room) s m args below meth c H locs 0 0 Q (F0 m 88 ls [.int (nI w)])) : ∀ (n j : Nat) (wv : Int32) (ls : Array Slot), j + n = z → (wv = -1 ∨ ∃ w, w < z ∧ wv = nI w) → lv_has ls 7 [(6, .int (nI j)), (5, .int wv), (4, .int (nI b)), (0, .ref wd), (1, .int (nI a)), (2, .int (nI k))] → W p l e ({ frames := 1, cells := 0, slots := 0, locals := 40 } : Room) s m args below meth c H locs 0 0 Q (F0 m 51 ls []) := by
  have hz5 := hI.1
  intro n
  induction n with
  | zero =>
    intro j wv ls hj hw hl
    obtain rfl : j = z := by omega
    refine lv_iload hx hb d_Wd_find_51 (lv_at hl 0 rfl) ?_
    refine lv_aload_n hx hb d_Wd_find_53 rfl (lv_at hl 3 rfl) ?_
    refine va_get (D := D) (ci := 11) (v := .int (nI j)) (C := R_Wd) (T := T_Wd) (N := 9) hx hb hG gi_Wd hown hK hP 0 rfl rfl 8 (by decide) (hG _ fl_Wd_43) (fun _ h9 => h9) rfl d_Wd_find_54 ?_
    exact lv_icmp_ge (tgt := 104) hx hb d_Wd_find_57 (by decide) (fun _ => kk wv (nI j) ls hl) (fun h9 => absurd (nI_le (Nat.le_refl j) (by omega)) h9)
  | succ n ih =>
    intro j wv ls hj hw hl
    refine lv_iload hx hb d_Wd_find_51 (lv_at hl 0 rfl) ?_
    refine lv_aload_n hx hb d_Wd_find_53 rfl (lv_at hl 3 rfl) ?_
    refine va_get (D := D) (ci := 11) (v := .int (nI z)) (C := R_Wd) (T := T_Wd) (N := 9) hx hb hG gi_Wd hown hK hP 0 rfl rfl 8 (by decide) (hG _ fl_Wd_43) (fun _ h9 => h9) rfl d_Wd_find_54 ?_
    refine lv_icmp_ge (tgt := 104) hx hb d_Wd_find_57 (by decide) (fun zz1 => absurd zz1 (nI_ge (by omega) (by omega))) (fun _ => ?_)
    refine lv_iload hx hb d_Wd_find_60 (lv_at hl 1 rfl) ?_
    refine lv_if_lt (tgt := 104) hx hb d_Wd_find_62 (by decide) (fun z7 => ?_) (fun z7 => ?_)
    · exact kk wv (nI j) ls hl
    · obtain ⟨w, hw1, rfl⟩ : ∃ w, w < z ∧ wv = nI w := by
        rcases hw with h | h
        · rw [h] at z7; exact absurd (by decide) z7
        · exact h
      obtain ⟨hn1, f, c5, hf1, hf2, hf3⟩ := hI.2.2 w hw1
      refine lv_aload_n hx hb d_Wd_find_65 rfl (lv_at hl 3 rfl) ?_
      refine va_get (D := D) (ci := 11) (v := .ref w3) (C := R_Wd) (T := T_Wd) (N := 9) hx hb hG gi_Wd hown hK hP 0 rfl rfl 3 (by decide) (hG _ fl_Wd_18) (fun _ h9 => h9) rfl d_Wd_find_66 ?_
      refine lv_iload hx hb d_Wd_find_69 (lv_at hl 1 rfl) ?_
      refine va_iald (D := D) hx hb hK hP 4 0 rfl rfl (vp_in_nI (by omega) (by decide)) d_Wd_find_71 ?_
      refine lv_topi (fun v2 ev2 => ?_)
      rw [nI_clamp (by omega), hf2] at ev2
      subst ev2
      refine lv_iload_n hx hb d_Wd_find_72 rfl (lv_at hl 5 rfl) ?_
      refine lv_icmp_ne (tgt := 89) hx hb d_Wd_find_73 (by decide) (fun z8 => ?_) (fun z8 => ?_)
      · refine lv_aload_n hx hb d_Wd_find_89 rfl (lv_at hl 3 rfl) ?_
        refine va_get (D := D) (ci := 11) (v := .ref w4) (C := R_Wd) (T := T_Wd) (N := 9) hx hb hG gi_Wd hown hK hP 0 rfl rfl 4 (by decide) (hG _ fl_Wd_21) (fun _ h9 => h9) rfl d_Wd_find_90 ?_
        refine lv_iload hx hb d_Wd_find_93 (lv_at hl 1 rfl) ?_
        refine va_iald (D := D) hx hb hK hP 5 0 rfl rfl (vp_in_nI (by omega) (by decide)) d_Wd_find_95 ?_
        refine lv_topi (fun v3 ev3 => ?_)
        rw [nI_clamp (by omega)] at ev3
        refine lv_istore (lv' := [(5, .int v3), (6, .int (nI j)), (4, .int (nI b)), (0, .ref wd), (1, .int (nI a)), (2, .int (nI k))]) hx hb d_Wd_find_96 hl (by decide) rfl (fun ls hl => ?_)
        refine lv_iinc (k := 1) (x := (nI j)) (v := ((nI j) + 1)) (lv' := [(6, .int ((nI j) + 1)), (5, .int v3), (4, .int (nI b)), (0, .ref wd), (1, .int (nI a)), (2, .int (nI k))]) hx hb d_Wd_find_98 hl rfl (congrArg ((nI j) + ·) (by decide)) (by decide) rfl (fun ls hl => ?_)
        refine lv_goto (tgt := 51) hx hb d_Wd_find_101 (by decide) ?_
        refine ih (j + 1) v3 ls (by omega) (by rw [ev3]; exact hn1) ?_
        rw [nI_succ]
        exact lv_sub hl [0, 1, 2, 3, 4, 5] rfl
      · have ek : c5 = k := by
          have := (nI_eq (by omega) (by omega)).mp z8
          exact this
        refine lv_aload_n hx hb d_Wd_find_76 rfl (lv_at hl 3 rfl) ?_
        refine lv_iload hx hb d_Wd_find_77 (lv_at hl 1 rfl) ?_
        refine lv_iload_n hx hb d_Wd_find_79 rfl (lv_at hl 4 rfl) ?_
        have hPc := hP.sub (ws' := [(wd, .inr (11, [.ref tx, .ref w1, .ref w2, .ref w3, .ref w4, .ref w5, .ref w6, .ref w7, .int (nI z)])), (tx, .inl (cB, 65638, .inl F)), (w1, .inl (cI, 512, .inl hd)), (w2, .inl (cI, 5923, .inl fr)), (w3, .inl (cI, 5923, .inl ln)), (w4, .inl (cI, 5923, .inl nx)), (w5, .inl (cI, 5923, .inl vr)), (w6, .inl (cI, 5923, .inl ow)), (w7, .inl (cI, 5923, .inl no))]) [0, 1, 2, 3, 4, 5, 6, 7, 8] rfl
        have hDc := hD.sub (ws' := [(wd, .inr (11, [.ref tx, .ref w1, .ref w2, .ref w3, .ref w4, .ref w5, .ref w6, .ref w7, .int (nI z)])), (tx, .inl (cB, 65638, .inl F)), (w1, .inl (cI, 512, .inl hd)), (w2, .inl (cI, 5923, .inl fr)), (w3, .inl (cI, 5923, .inl ln)), (w4, .inl (cI, 5923, .inl nx)), (w5, .inl (cI, 5923, .inl vr)), (w6, .inl (cI, 5923, .inl ow)), (w7, .inl (cI, 5923, .inl no))]) [0, 1, 2, 3, 4, 5, 6, 7, 8] (by decide) rfl
        refine W.callA (W.runV (As := [.int (nI w), .int (nI a)]) (rest := []) (C := R_Wd) ⟨hx, hb, hml, hown, hG⟩ (c_Wd_isAt l D cI cB cJ cZ H.size wd tx w1 w2 w3 w4 w5 w6 w7 z F hd fr ln nx vr ow no w a f c5 hz5 hw1 hf1 hf2 hf3 (by omega)) (gcV 2 gG_good hG ml_Wd_52 im_Wd_isAt se_Wd_isAt in_Wd co_Wd_isAt rfl rfl (by decide +kernel) ⟨(Nat.le_of_ble_eq_true rfl), (Nat.le_of_ble_eq_true rfl)⟩) (ct_preV hPc hK hDc (ci := 11) (q0 := 0) rfl rfl) rfl rfl hl.1 rfl (lv_room (Nat.le_of_ble_eq_true rfl)) d_Wd_find_80 ⟨(Nat.le_of_ble_eq_true rfl), (Nat.le_of_ble_eq_true rfl)⟩) (fun iv => ?_)
        refine W.eq (g2 := F0 m 83 ls [.int iv]) rfl ?_
        refine lv_if_eq (tgt := 89) hx hb d_Wd_find_83 (by decide) (fun zz4 => ?_) (fun zz4 => ?_)
        · refine lv_aload_n hx hb d_Wd_find_89 rfl (lv_at hl 3 rfl) ?_
          refine va_get (D := D) (ci := 11) (v := .ref w4) (C := R_Wd) (T := T_Wd) (N := 9) hx hb hG gi_Wd hown hK hP 0 rfl rfl 4 (by decide) (hG _ fl_Wd_21) (fun _ h9 => h9) rfl d_Wd_find_90 ?_
          refine lv_iload hx hb d_Wd_find_93 (lv_at hl 1 rfl) ?_
          refine va_iald (D := D) hx hb hK hP 5 0 rfl rfl (vp_in_nI (by omega) (by decide)) d_Wd_find_95 ?_
          refine lv_topi (fun v5 ev5 => ?_)
          rw [nI_clamp (by omega)] at ev5
          refine lv_istore (lv' := [(5, .int v5), (6, .int (nI j)), (4, .int (nI b)), (0, .ref wd), (1, .int (nI a)), (2, .int (nI k))]) hx hb d_Wd_find_96 hl (by decide) rfl (fun ls hl => ?_)
          refine lv_iinc (k := 1) (x := (nI j)) (v := ((nI j) + 1)) (lv' := [(6, .int ((nI j) + 1)), (5, .int v5), (4, .int (nI b)), (0, .ref wd), (1, .int (nI a)), (2, .int (nI k))]) hx hb d_Wd_find_98 hl rfl (congrArg ((nI j) + ·) (by decide)) (by decide) rfl (fun ls hl => ?_)
          refine lv_goto (tgt := 51) hx hb d_Wd_find_101 (by decide) ?_
          refine ih (j + 1) v5 ls (by omega) (by rw [ev5]; exact hn1) ?_
          rw [nI_succ]
          exact lv_sub hl [0, 1, 2, 3, 4, 5] rfl
        · refine lv_iload hx hb d_Wd_find_86 (lv_at hl 1 rfl) ?_
          exact kr w ls hw1

set_option maxHeartbeats 4000000 in
set_option maxRecDepth 100000 in
theorem c_Wd_find (l : Launch) (D : va_G) (cI cB cJ cZ : ClassId) (sz : Nat) (wd tx w1 w2 w3 w4 w5 w6 w7 z : Nat) (F hd fr ln nx vr ow no : Nat → Int32) (a k : Nat) (hI : WI z hd fr ln nx) (ha : a + k ≤ 65638) : Met l y_Wd_find (Cond.code y_Wd_find b_Wd_find 7 (some .int) :: gG) { frames := 1, cells := 0, slots := 0, locals := 40 } (va_Pc [.ref wd, .int (nI a), .int (nI k)] (ct_P D (tyL cI cB cJ cZ) [(wd, .inr (11, [.ref tx, .ref w1, .ref w2, .ref w3, .ref w4, .ref w5, .ref w6, .ref w7, .int (nI z)])), (tx, .inl (cB, 65638, .inl F)), (w1, .inl (cI, 512, .inl hd)), (w2, .inl (cI, 5923, .inl fr)), (w3, .inl (cI, 5923, .inl ln)), (w4, .inl (cI, 5923, .inl nx)), (w5, .inl (cI, 5923, .inl vr)), (w6, .inl (cI, 5923, .inl ow)), (w7, .inl (cI, 5923, .inl no))] sz)) (va_Qi (fun (r : Int32) (z1 : Nat) => (r = -1 ∨ ∃ w, w < z1 ∧ r = nI w) ∧ z ≤ z1 ∧ z1 ≤ z + 1) (fun z1 t => ∃ hd1 fr1 ln1 nx1 vr1 ow1 no1 : Nat → Int32, WI z1 hd1 fr1 ln1 nx1 ∧ va_P D kl [(wd, .inr (11, [.ref tx, .ref w1, .ref w2, .ref w3, .ref w4, .ref w5, .ref w6, .ref w7, .int (nI z1)])), (tx, .inl (cB, 65638, .inl F)), (w1, .inl (cI, 512, .inl hd1)), (w2, .inl (cI, 5923, .inl fr1)), (w3, .inl (cI, 5923, .inl ln1)), (w4, .inl (cI, 5923, .inl nx1)), (w5, .inl (cI, 5923, .inl vr1)), (w6, .inl (cI, 5923, .inl ow1)), (w7, .inl (cI, 5923, .inl no1))] t.heap ∧ va_D (va_A [(wd, .inr (11, [.ref tx, .ref w1, .ref w2, .ref w3, .ref w4, .ref w5, .ref w6, .ref w7, .int (nI z)])), (tx, .inl (cB, 65638, .inl F)), (w1, .inl (cI, 512, .inl hd)), (w2, .inl (cI, 5923, .inl fr)), (w3, .inl (cI, 5923, .inl ln)), (w4, .inl (cI, 5923, .inl nx)), (w5, .inl (cI, 5923, .inl vr)), (w6, .inl (cI, 5923, .inl ow)), (w7, .inl (cI, 5923, .inl no))] sz) [(wd, .inr (11, [.ref tx, .ref w1, .ref w2, .ref w3, .ref w4, .ref w5, .ref w6, .ref w7, .int (nI z1)])), (tx, .inl (cB, 65638, .inl F)), (w1, .inl (cI, 512, .inl hd1)), (w2, .inl (cI, 5923, .inl fr1)), (w3, .inl (cI, 5923, .inl ln1)), (w4, .inl (cI, 5923, .inl nx1)), (w5, .inl (cI, 5923, .inl vr1)), (w6, .inl (cI, 5923, .inl ow1)), (w7, .inl (cI, 5923, .inl no1))]) (va_A [(wd, .inr (11, [.ref tx, .ref w1, .ref w2, .ref w3, .ref w4, .ref w5, .ref w6, .ref w7, .int (nI z)])), (tx, .inl (cB, 65638, .inl F)), (w1, .inl (cI, 512, .inl hd)), (w2, .inl (cI, 5923, .inl fr)), (w3, .inl (cI, 5923, .inl ln)), (w4, .inl (cI, 5923, .inl nx)), (w5, .inl (cI, 5923, .inl vr)), (w6, .inl (cI, 5923, .inl ow)), (w7, .inl (cI, 5923, .inl no))] sz)) 0 0 (va_A [(wd, .inr (11, [.ref tx, .ref w1, .ref w2, .ref w3, .ref w4, .ref w5, .ref w6, .ref w7, .int (nI z)])), (tx, .inl (cB, 65638, .inl F)), (w1, .inl (cI, 512, .inl hd)), (w2, .inl (cI, 5923, .inl fr)), (w3, .inl (cI, 5923, .inl ln)), (w4, .inl (cI, 5923, .inl nx)), (w5, .inl (cI, 5923, .inl vr)), (w6, .inl (cI, 5923, .inl ow)), (w7, .inl (cI, 5923, .inl no))] sz) := by
  refine Met.ofW (cc := b_Wd_find) (maxL := 7) (ret := (some .int)) (by decide) rfl ?_
  intro p e s m args below meth c s₁ B hml hv
  obtain ⟨rfl, hsz, hP, hK, hD0⟩ := hv
  have hx := B.exec
  have hb := B.bytes
  have hr := B.returns
  have hts := atoms_spec (ws := Cond.code y_Wd_find b_Wd_find 7 (some .int) :: gG) B.pre
  have hG : ∀ w9 ∈ gG, w9.before [.ref wd, .int (nI a), .int (nI k)].toArray s = true := fun w9 h => hts w9 (List.mem_cons_of_mem _ h)
  have hown : s.vm.findClass R_Wd = some m.cls := findClass_of_methodNamed B.named
  have hlocks := B.notSynchronized
  subst hsz
  have hD := hD0.self (sz := s.heap.size)
  generalize hAe : va_A [(wd, .inr (11, [.ref tx, .ref w1, .ref w2, .ref w3, .ref w4, .ref w5, .ref w6, .ref w7, .int (nI z)])), (tx, .inl (cB, 65638, .inl F)), (w1, .inl (cI, 512, .inl hd)), (w2, .inl (cI, 5923, .inl fr)), (w3, .inl (cI, 5923, .inl ln)), (w4, .inl (cI, 5923, .inl nx)), (w5, .inl (cI, 5923, .inl vr)), (w6, .inl (cI, 5923, .inl ow)), (w7, .inl (cI, 5923, .inl no))] s.heap.size = A at hD ⊢
  have hA : ∀ q : Nat, s.heap.size ≤ q → A q := fun q h => by rw [← hAe]; exact Or.inr h
  have hS : va_S A s.heap s.heap [] := va_S.rf
  have hl := lv_entry ([.ref wd, .int (nI a), .int (nI k)]) (n := 7) (Nat.le_of_ble_eq_true rfl)
  rw [lg_entry_eq]
  generalize (lg_sl ([.ref wd, .int (nI a), .int (nI k)]) ++ List.replicate (7 - (lg_sl ([.ref wd, .int (nI a), .int (nI k)])).length) Slot.unset).toArray = ls at hl ⊢
  have hl : lv_has ls 7 [(0, .ref wd), (1, .int (nI a)), (2, .int (nI k))] := hl
  have hz5 := hI.1
  refine lv_iconst (v := 0) hx hb d_Wd_find_0 (by decide) ?_
  refine lv_istore_n (lv' := [(3, .int 0), (0, .ref wd), (1, .int (nI a)), (2, .int (nI k))]) hx hb d_Wd_find_1 rfl hl (by decide) rfl (fun ls hl => ?_)
  refine lv_iconst (v := 0) hx hb d_Wd_find_2 (by decide) ?_
  refine lv_istore (lv' := [(4, .int 0), (3, .int 0), (0, .ref wd), (1, .int (nI a)), (2, .int (nI k))]) hx hb d_Wd_find_3 hl (by decide) rfl (fun ls hl => ?_)
  have e9 := hAe
  refine lp_Wd_find1 D cI cB cJ cZ hx hb hml hown hG hK hA wd tx w1 w2 w3 w4 w5 w6 w7 z F hd fr ln nx vr ow no a k hI ha s.heap [] hP hD hS (fun hs ls hl => ?_) k 0 0 ls (by omega) (lv_sub hl [0, 1, 2, 3, 4] rfl)
  refine lv_iload_n hx hb d_Wd_find_32 rfl (lv_at hl 1 rfl) ?_
  refine lv_sipush (v := 511) hx hb d_Wd_find_33 (by decide) ?_
  refine lv_iand hx hb d_Wd_find_36 ?_
  obtain ⟨b, hb5, eb⟩ := pk_andE hs (m := 511) 9 (by decide)
  rw [eb]
  refine lv_istore (lv' := [(4, .int (nI b)), (3, .int hs), (0, .ref wd), (1, .int (nI a)), (2, .int (nI k))]) hx hb d_Wd_find_37 hl (by decide) rfl (fun ls hl => ?_)
  refine lv_aload_n hx hb d_Wd_find_39 rfl (lv_at hl 2 rfl) ?_
  refine va_get (D := D) (ci := 11) (v := .ref w1) (C := R_Wd) (T := T_Wd) (N := 9) hx hb hG gi_Wd hown hK hP 0 rfl rfl 1 (by decide) (hG _ fl_Wd_11) (fun _ h9 => h9) rfl d_Wd_find_40 ?_
  refine lv_iload hx hb d_Wd_find_43 (lv_at hl 0 rfl) ?_
  refine va_iald (D := D) hx hb hK hP 2 0 rfl rfl (vp_in_nI (by omega) (by decide)) d_Wd_find_45 ?_
  refine lv_topi (fun v1 ev1 => ?_)
  rw [nI_clamp (by omega)] at ev1
  refine lv_istore (lv' := [(5, .int v1), (4, .int (nI b)), (3, .int hs), (0, .ref wd), (1, .int (nI a)), (2, .int (nI k))]) hx hb d_Wd_find_46 hl (by decide) rfl (fun ls hl => ?_)
  refine lv_iconst (v := 0) hx hb d_Wd_find_48 (by decide) ?_
  refine lv_istore (lv' := [(6, .int 0), (5, .int v1), (4, .int (nI b)), (3, .int hs), (0, .ref wd), (1, .int (nI a)), (2, .int (nI k))]) hx hb d_Wd_find_49 hl (by decide) rfl (fun ls hl => ?_)
  refine lp_Wd_find2 D cI cB cJ cZ hx hb hml hown hG hK hA wd tx w1 w2 w3 w4 w5 w6 w7 z F hd fr ln nx vr ow no a k hI ha b s.heap [] hP hD hS (fun wv i6 ls hl => ?_) (fun w2 ls hw2 => ?_) z 0 v1 ls (by omega) (by rw [ev1]; exact hI.2.1 b hb5) (lv_sub hl [0, 1, 2, 4, 5, 6] rfl)
  · skip
    refine lv_aload_n hx hb d_Wd_find_104 rfl (lv_at hl 3 rfl) ?_
    refine va_get (D := D) (ci := 11) (v := .int (nI z)) (C := R_Wd) (T := T_Wd) (N := 9) hx hb hG gi_Wd hown hK hP 0 rfl rfl 8 (by decide) (hG _ fl_Wd_43) (fun _ h9 => h9) rfl d_Wd_find_105 ?_
    refine lv_sipush (v := 5923) hx hb d_Wd_find_108 (by decide) ?_
    refine lv_icmp_ge (tgt := 125) hx hb d_Wd_find_111 (by decide) (fun z6 => ?_) (fun z6 => ?_)
    · refine lv_iconst (v := (-1)) hx hb d_Wd_find_125 (by decide) ?_
      exact W.iret (v := (-1)) hx hb hr (fun t ht hW => ⟨⟨(-1), z, rfl, ⟨Or.inl rfl, by omega, by omega⟩, hd, fr, ln, nx, vr, ow, no, hI, by rw [ht]; exact hP, hD⟩, hS.F ht⟩) hS.2.2 d_Wd_find_126
    · have hz9 : z < 5923 := by
        apply Nat.lt_of_not_le; intro h; exact z6 (nI_le (a := 5923) h (by omega))
      refine lv_aload_n hx hb d_Wd_find_114 rfl (lv_at hl 3 rfl) ?_
      refine lv_iload_n hx hb d_Wd_find_115 rfl (lv_at hl 4 rfl) ?_
      refine lv_iload_n hx hb d_Wd_find_116 rfl (lv_at hl 5 rfl) ?_
      refine lv_iload hx hb d_Wd_find_117 (lv_at hl 2 rfl) ?_
      have hPc := hP.sub (ws' := [(wd, .inr (11, [.ref tx, .ref w1, .ref w2, .ref w3, .ref w4, .ref w5, .ref w6, .ref w7, .int (nI z)])), (tx, .inl (cB, 65638, .inl F)), (w1, .inl (cI, 512, .inl hd)), (w2, .inl (cI, 5923, .inl fr)), (w3, .inl (cI, 5923, .inl ln)), (w4, .inl (cI, 5923, .inl nx)), (w5, .inl (cI, 5923, .inl vr)), (w6, .inl (cI, 5923, .inl ow)), (w7, .inl (cI, 5923, .inl no))]) [0, 1, 2, 3, 4, 5, 6, 7, 8] rfl
      have hDc := hD.sub (ws' := [(wd, .inr (11, [.ref tx, .ref w1, .ref w2, .ref w3, .ref w4, .ref w5, .ref w6, .ref w7, .int (nI z)])), (tx, .inl (cB, 65638, .inl F)), (w1, .inl (cI, 512, .inl hd)), (w2, .inl (cI, 5923, .inl fr)), (w3, .inl (cI, 5923, .inl ln)), (w4, .inl (cI, 5923, .inl nx)), (w5, .inl (cI, 5923, .inl vr)), (w6, .inl (cI, 5923, .inl ow)), (w7, .inl (cI, 5923, .inl no))]) [0, 1, 2, 3, 4, 5, 6, 7, 8] (by decide) rfl
      have hFc := va_free (wc := [(wd, .inr (11, [.ref tx, .ref w1, .ref w2, .ref w3, .ref w4, .ref w5, .ref w6, .ref w7, .int (nI z)])), (tx, .inl (cB, 65638, .inl F)), (w1, .inl (cI, 512, .inl hd)), (w2, .inl (cI, 5923, .inl fr)), (w3, .inl (cI, 5923, .inl ln)), (w4, .inl (cI, 5923, .inl nx)), (w5, .inl (cI, 5923, .inl vr)), (w6, .inl (cI, 5923, .inl ow)), (w7, .inl (cI, 5923, .inl no))]) hD hS hA [0, 1, 2, 3, 4, 5, 6, 7, 8] rfl
      refine va_calli (va_runV (As := [.int (nI a), .int (nI k), .int (nI b)]) (rest := []) ⟨hx, hb, hml, hown, hG⟩ (c_Wd_add l D cI cB cJ cZ s.heap.size wd tx w1 w2 w3 w4 w5 w6 w7 z F hd fr ln nx vr ow no a k b hz9 hb5) (gcV 3 gG_good hG ml_Wd_56 im_Wd_add se_Wd_add in_Wd co_Wd_add rfl rfl (by decide +kernel) ⟨(Nat.le_of_ble_eq_true rfl), (Nat.le_of_ble_eq_true rfl)⟩) (ct_preV hPc hK hDc (ci := 11) (q0 := 0) rfl rfl) rfl rfl hl.1 rfl (lv_room (Nat.le_of_ble_eq_true rfl)) d_Wd_find_119 ⟨(Nat.le_of_ble_eq_true rfl), (Nat.le_of_ble_eq_true rfl)⟩) hS (fun q _ h => hFc q h) hFc (fun rr _ t H1 locs ht hvm hw hB hz1 hk1 hS => ?_)
      obtain ⟨hP1, hD1⟩ := hB
      rw [ht] at hP1
      obtain ⟨hP, hD⟩ := va_join (wr := []) (w1 := [(wd, .inr (11, [.ref tx, .ref w1, .ref w2, .ref w3, .ref w4, .ref w5, .ref w6, .ref w7, .int (nI (z + 1))])), (tx, .inl (cB, 65638, .inl F)), (w1, .inl (cI, 512, .inl (upd hd b (nI z)))), (w2, .inl (cI, 5923, .inl (upd fr z (nI a)))), (w3, .inl (cI, 5923, .inl (upd ln z (nI k)))), (w4, .inl (cI, 5923, .inl (upd nx z (hd b)))), (w5, .inl (cI, 5923, .inl (upd vr z (-1)))), (w6, .inl (cI, 5923, .inl (upd ow z 0))), (w7, .inl (cI, 5923, .inl (upd no z 0)))]) hP hD [0, 1, 2, 3, 4, 5, 6, 7, 8] [] rfl rfl (by decide) (by decide) hk1 hFc hP1 hD1
      generalize H1 = H at hP hS ⊢
      have hP : va_P D kl [(wd, .inr (11, [.ref tx, .ref w1, .ref w2, .ref w3, .ref w4, .ref w5, .ref w6, .ref w7, .int (nI (z + 1))])), (tx, .inl (cB, 65638, .inl F)), (w1, .inl (cI, 512, .inl (upd hd b (nI z)))), (w2, .inl (cI, 5923, .inl (upd fr z (nI a)))), (w3, .inl (cI, 5923, .inl (upd ln z (nI k)))), (w4, .inl (cI, 5923, .inl (upd nx z (hd b)))), (w5, .inl (cI, 5923, .inl (upd vr z (-1)))), (w6, .inl (cI, 5923, .inl (upd ow z 0))), (w7, .inl (cI, 5923, .inl (upd no z 0)))] H := hP
      have hD : va_D A [(wd, .inr (11, [.ref tx, .ref w1, .ref w2, .ref w3, .ref w4, .ref w5, .ref w6, .ref w7, .int (nI (z + 1))])), (tx, .inl (cB, 65638, .inl F)), (w1, .inl (cI, 512, .inl (upd hd b (nI z)))), (w2, .inl (cI, 5923, .inl (upd fr z (nI a)))), (w3, .inl (cI, 5923, .inl (upd ln z (nI k)))), (w4, .inl (cI, 5923, .inl (upd nx z (hd b)))), (w5, .inl (cI, 5923, .inl (upd vr z (-1)))), (w6, .inl (cI, 5923, .inl (upd ow z 0))), (w7, .inl (cI, 5923, .inl (upd no z 0)))] := hD
      rw [hw]
      refine lv_goto (tgt := 126) hx hb d_Wd_find_122 (by decide) ?_
      exact W.iret (v := (nI z)) hx hb hr (fun t ht hW => ⟨⟨(nI z), (z + 1), rfl, ⟨Or.inr ⟨z, by omega, rfl⟩, by omega, by omega⟩, (upd hd b (nI z)), (upd fr z (nI a)), (upd ln z (nI k)), (upd nx z (hd b)), (upd vr z (-1)), (upd ow z 0), (upd no z 0), WI_add hI hz9 hb5 ha, by rw [ht]; exact hP, hD⟩, hS.F ht⟩) hS.2.2 d_Wd_find_126
  exact W.iret (v := (nI w2)) hx hb hr (fun t ht hW => ⟨⟨(nI w2), z, rfl, ⟨Or.inr ⟨w2, hw2, rfl⟩, by omega, by omega⟩, hd, fr, ln, nx, vr, ow, no, hI, by rw [ht]; exact hP, hD⟩, hS.F ht⟩) hS.2.2 d_Wd_find_88

set_option maxHeartbeats 4000000 in
set_option maxRecDepth 100000 in
theorem lp_Wd_begin {p : Program} {l : Launch} {e : Env} {s : State} {m : MethodId} {args : Array Value} {below : List Frame} {meth : Method} {c : Code} {Q : State → Prop} {A : Nat → Prop} (D : va_G) (cI cB cJ cZ : ClassId) (hx : p.tables.exec = Jvm.exec) (hb : c.code = b_Wd_begin) (hml : c.maxLocals = 3) (hown : s.vm.findClass R_Wd = some m.cls) (hG : ∀ w ∈ gG, w.before args s = true) (hK : va_K D kl (tyL cI cB cJ cZ) s) (hA : ∀ q : Nat, s.heap.size ≤ q → A q) (wd tx w1 w2 w3 w4 w5 w6 w7 : Nat) (F : Nat → Int32) (kk : ∀ (z : Nat) (hd fr ln nx vr ow no : Nat → Int32) (st : Nat) (H : Heap) (locs : List Loc) (ls : Array Slot), WI z hd fr ln nx → lv_has ls 3 [(2, .int (nI 65638)), (1, .int (nI st)), (0, .ref wd)] → va_P D kl [(wd, .inr (11, [.ref tx, .ref w1, .ref w2, .ref w3, .ref w4, .ref w5, .ref w6, .ref w7, .int (nI z)])), (tx, .inl (cB, 65638, .inl F)), (w1, .inl (cI, 512, .inl hd)), (w2, .inl (cI, 5923, .inl fr)), (w3, .inl (cI, 5923, .inl ln)), (w4, .inl (cI, 5923, .inl nx)), (w5, .inl (cI, 5923, .inl vr)), (w6, .inl (cI, 5923, .inl ow)), (w7, .inl (cI, 5923, .inl no))] H → va_D A [(wd, .inr (11, [.ref tx, .ref w1, .ref w2, .ref w3, .ref w4, .ref w5, .ref w6, .ref w7, .int (nI z)])), (tx, .inl (cB, 65638, .inl F)), (w1, .inl (cI, 512, .inl hd)), (w2, .inl (cI, 5923, .inl fr)), (w3, .inl (cI, 5923, .inl ln)), (w4, .inl (cI, 5923, .inl nx)), (w5, .inl (cI, 5923, .inl vr)), (w6, .inl (cI, 5923, .inl ow)), (w7, .inl (cI, 5923, .inl no))] → va_S A s.heap H locs → W p l e ({ frames := 2, cells := 0, slots := 0, locals := 70 } : Room) s m args below meth c H locs 0 0 Q (F0 m 58 ls [])) : ∀ (n i st : Nat) (z : Nat) (hd fr ln nx vr ow no : Nat → Int32) (H : Heap) (locs : List Loc) (ls : Array Slot), i + n = 65638 → st ≤ i → WI z hd fr ln nx → lv_has ls 3 [(2, .int (nI i)), (1, .int (nI st)), (0, .ref wd)] → va_P D kl [(wd, .inr (11, [.ref tx, .ref w1, .ref w2, .ref w3, .ref w4, .ref w5, .ref w6, .ref w7, .int (nI z)])), (tx, .inl (cB, 65638, .inl F)), (w1, .inl (cI, 512, .inl hd)), (w2, .inl (cI, 5923, .inl fr)), (w3, .inl (cI, 5923, .inl ln)), (w4, .inl (cI, 5923, .inl nx)), (w5, .inl (cI, 5923, .inl vr)), (w6, .inl (cI, 5923, .inl ow)), (w7, .inl (cI, 5923, .inl no))] H → va_D A [(wd, .inr (11, [.ref tx, .ref w1, .ref w2, .ref w3, .ref w4, .ref w5, .ref w6, .ref w7, .int (nI z)])), (tx, .inl (cB, 65638, .inl F)), (w1, .inl (cI, 512, .inl hd)), (w2, .inl (cI, 5923, .inl fr)), (w3, .inl (cI, 5923, .inl ln)), (w4, .inl (cI, 5923, .inl nx)), (w5, .inl (cI, 5923, .inl vr)), (w6, .inl (cI, 5923, .inl ow)), (w7, .inl (cI, 5923, .inl no))] → va_S A s.heap H locs → W p l e ({ frames := 2, cells := 0, slots := 0, locals := 70 } : Room) s m args below meth c H locs 0 0 Q (F0 m 19 ls []) := by
  intro n
  induction n with
  | zero =>
    intro i st z hd fr ln nx vr ow no H locs ls hi hst hI hl hP hD hS
    obtain rfl : i = 65638 := by omega
    refine lv_iload_n hx hb d_Wd_begin_19 rfl (lv_at hl 0 rfl) ?_
    refine lv_aload_n hx hb d_Wd_begin_20 rfl (lv_at hl 2 rfl) ?_
    refine va_get (D := D) (ci := 11) (v := .ref tx) (C := R_Wd) (T := T_Wd) (N := 9) hx hb hG gi_Wd hown hK hP 0 rfl rfl 0 (by decide) (hG _ fl_Wd_33) (fun _ h9 => h9) rfl d_Wd_begin_21 ?_
    refine va_alen (D := D) (v := (Int32.ofNat 65638)) hx hb hK hP 1 1 rfl rfl rfl d_Wd_begin_24 ?_
    exact lv_icmp_ge (tgt := 58) hx hb d_Wd_begin_25 (by decide) (fun _ => kk z hd fr ln nx vr ow no st H locs ls hI hl hP hD hS) (fun h9 => absurd (nI_le (a := 65638) (b := 65638) (Nat.le_refl _) (by decide)) h9)
  | succ n ih =>
    intro i st z hd fr ln nx vr ow no H locs ls hi hst hI hl hP hD hS
    refine lv_iload_n hx hb d_Wd_begin_19 rfl (lv_at hl 0 rfl) ?_
    refine lv_aload_n hx hb d_Wd_begin_20 rfl (lv_at hl 2 rfl) ?_
    refine va_get (D := D) (ci := 11) (v := .ref tx) (C := R_Wd) (T := T_Wd) (N := 9) hx hb hG gi_Wd hown hK hP 0 rfl rfl 0 (by decide) (hG _ fl_Wd_33) (fun _ h9 => h9) rfl d_Wd_begin_21 ?_
    refine va_alen (D := D) (v := (Int32.ofNat 65638)) hx hb hK hP 1 1 rfl rfl rfl d_Wd_begin_24 ?_
    refine lv_icmp_ge (tgt := 58) hx hb d_Wd_begin_25 (by decide) (fun zz1 => absurd zz1 (nI_ge (b := 65638) (by omega) (by decide))) (fun _ => ?_)
    refine lv_aload_n hx hb d_Wd_begin_28 rfl (lv_at hl 2 rfl) ?_
    refine va_get (D := D) (ci := 11) (v := .ref tx) (C := R_Wd) (T := T_Wd) (N := 9) hx hb hG gi_Wd hown hK hP 0 rfl rfl 0 (by decide) (hG _ fl_Wd_33) (fun _ h9 => h9) rfl d_Wd_begin_29 ?_
    refine lv_iload_n hx hb d_Wd_begin_32 rfl (lv_at hl 0 rfl) ?_
    refine va_bald (D := D) hx hb hK hP 1 1 rfl rfl (vp_in_nI (by omega) (by decide)) d_Wd_begin_33 ?_
    refine lv_topi (fun v2 ev2 => ?_)
    refine lv_bipush (v := 32) hx hb d_Wd_begin_34 (by decide) ?_
    refine lv_icmp_ne (tgt := 52) hx hb d_Wd_begin_36 (by decide) (fun zz3 => ?_) (fun zz3 => ?_)
    · refine lv_iinc (k := 0) (x := (nI i)) (v := ((nI i) + 1)) (lv' := [(2, .int ((nI i) + 1)), (1, .int (nI st)), (0, .ref wd)]) hx hb d_Wd_begin_52 hl rfl (congrArg ((nI i) + ·) (by decide)) (by decide) rfl (fun ls hl => ?_)
      refine lv_goto (tgt := 19) hx hb d_Wd_begin_55 (by decide) ?_
      refine ih (i + 1) st z hd fr ln nx vr ow no H locs ls (by omega) (by omega) hI ?_ hP hD hS
      rw [nI_succ]
      exact hl
    · refine lv_aload_n hx hb d_Wd_begin_39 rfl (lv_at hl 2 rfl) ?_
      refine lv_iload_n hx hb d_Wd_begin_40 rfl (lv_at hl 1 rfl) ?_
      refine lv_iload_n hx hb d_Wd_begin_41 rfl (lv_at hl 0 rfl) ?_
      refine lv_iload_n hx hb d_Wd_begin_42 rfl (lv_at hl 1 rfl) ?_
      refine lv_isub hx hb d_Wd_begin_43 ?_
      rw [show nI i - nI st = nI (i - st) from pk_sub hst]
      have hPc := hP.sub (ws' := [(wd, .inr (11, [.ref tx, .ref w1, .ref w2, .ref w3, .ref w4, .ref w5, .ref w6, .ref w7, .int (nI z)])), (tx, .inl (cB, 65638, .inl F)), (w1, .inl (cI, 512, .inl hd)), (w2, .inl (cI, 5923, .inl fr)), (w3, .inl (cI, 5923, .inl ln)), (w4, .inl (cI, 5923, .inl nx)), (w5, .inl (cI, 5923, .inl vr)), (w6, .inl (cI, 5923, .inl ow)), (w7, .inl (cI, 5923, .inl no))]) [0, 1, 2, 3, 4, 5, 6, 7, 8] rfl
      have hDc := hD.sub (ws' := [(wd, .inr (11, [.ref tx, .ref w1, .ref w2, .ref w3, .ref w4, .ref w5, .ref w6, .ref w7, .int (nI z)])), (tx, .inl (cB, 65638, .inl F)), (w1, .inl (cI, 512, .inl hd)), (w2, .inl (cI, 5923, .inl fr)), (w3, .inl (cI, 5923, .inl ln)), (w4, .inl (cI, 5923, .inl nx)), (w5, .inl (cI, 5923, .inl vr)), (w6, .inl (cI, 5923, .inl ow)), (w7, .inl (cI, 5923, .inl no))]) [0, 1, 2, 3, 4, 5, 6, 7, 8] (by decide) rfl
      have hFc := va_free (wc := [(wd, .inr (11, [.ref tx, .ref w1, .ref w2, .ref w3, .ref w4, .ref w5, .ref w6, .ref w7, .int (nI z)])), (tx, .inl (cB, 65638, .inl F)), (w1, .inl (cI, 512, .inl hd)), (w2, .inl (cI, 5923, .inl fr)), (w3, .inl (cI, 5923, .inl ln)), (w4, .inl (cI, 5923, .inl nx)), (w5, .inl (cI, 5923, .inl vr)), (w6, .inl (cI, 5923, .inl ow)), (w7, .inl (cI, 5923, .inl no))]) hD hS hA [0, 1, 2, 3, 4, 5, 6, 7, 8] rfl
      refine va_calli (va_runV (As := [.int (nI st), .int (nI (i - st))]) (rest := []) ⟨hx, hb, hml, hown, hG⟩ (c_Wd_find l D cI cB cJ cZ H.size wd tx w1 w2 w3 w4 w5 w6 w7 z F hd fr ln nx vr ow no st (i - st) hI (by omega)) (gcV 2 gG_good hG ml_Wd_48 im_Wd_find se_Wd_find in_Wd co_Wd_find rfl rfl (by decide +kernel) ⟨(Nat.le_of_ble_eq_true rfl), (Nat.le_of_ble_eq_true rfl)⟩) (ct_preV hPc hK hDc (ci := 11) (q0 := 0) rfl rfl) rfl rfl hl.1 rfl (lv_room (Nat.le_of_ble_eq_true rfl)) d_Wd_begin_44 ⟨(Nat.le_of_ble_eq_true rfl), (Nat.le_of_ble_eq_true rfl)⟩) hS (fun q _ h => hFc q h) hFc (fun rr z1 t H1 locs ht hvm hw hB hz1 hk1 hS => ?_)
      obtain ⟨hd1, fr1, ln1, nx1, vr1, ow1, no1, hI1, hP1, hD1⟩ := hB
      rw [ht] at hP1
      obtain ⟨hP, hD⟩ := va_join (wr := []) (w1 := [(wd, .inr (11, [.ref tx, .ref w1, .ref w2, .ref w3, .ref w4, .ref w5, .ref w6, .ref w7, .int (nI z1)])), (tx, .inl (cB, 65638, .inl F)), (w1, .inl (cI, 512, .inl hd1)), (w2, .inl (cI, 5923, .inl fr1)), (w3, .inl (cI, 5923, .inl ln1)), (w4, .inl (cI, 5923, .inl nx1)), (w5, .inl (cI, 5923, .inl vr1)), (w6, .inl (cI, 5923, .inl ow1)), (w7, .inl (cI, 5923, .inl no1))]) hP hD [0, 1, 2, 3, 4, 5, 6, 7, 8] [] rfl rfl (by decide) (by decide) hk1 hFc hP1 hD1
      generalize H1 = H at hP hS ⊢
      have hP : va_P D kl [(wd, .inr (11, [.ref tx, .ref w1, .ref w2, .ref w3, .ref w4, .ref w5, .ref w6, .ref w7, .int (nI z1)])), (tx, .inl (cB, 65638, .inl F)), (w1, .inl (cI, 512, .inl hd1)), (w2, .inl (cI, 5923, .inl fr1)), (w3, .inl (cI, 5923, .inl ln1)), (w4, .inl (cI, 5923, .inl nx1)), (w5, .inl (cI, 5923, .inl vr1)), (w6, .inl (cI, 5923, .inl ow1)), (w7, .inl (cI, 5923, .inl no1))] H := hP
      have hD : va_D A [(wd, .inr (11, [.ref tx, .ref w1, .ref w2, .ref w3, .ref w4, .ref w5, .ref w6, .ref w7, .int (nI z1)])), (tx, .inl (cB, 65638, .inl F)), (w1, .inl (cI, 512, .inl hd1)), (w2, .inl (cI, 5923, .inl fr1)), (w3, .inl (cI, 5923, .inl ln1)), (w4, .inl (cI, 5923, .inl nx1)), (w5, .inl (cI, 5923, .inl vr1)), (w6, .inl (cI, 5923, .inl ow1)), (w7, .inl (cI, 5923, .inl no1))] := hD
      refine lv_pop hx hb d_Wd_begin_47 rfl ?_
      refine lv_iload_n hx hb d_Wd_begin_48 rfl (lv_at hl 0 rfl) ?_
      refine lv_iconst (v := 1) hx hb d_Wd_begin_49 (by decide) ?_
      refine lv_iadd hx hb d_Wd_begin_50 ?_
      refine lv_istore_n (lv' := [(1, .int ((nI i) + 1)), (2, .int (nI i)), (0, .ref wd)]) hx hb d_Wd_begin_51 rfl hl (by decide) rfl (fun ls hl => ?_)
      refine lv_iinc (k := 1) (x := (nI i)) (v := ((nI i) + 1)) (lv' := [(2, .int ((nI i) + 1)), (1, .int ((nI i) + 1)), (0, .ref wd)]) hx hb d_Wd_begin_52 hl rfl (congrArg ((nI i) + ·) (by decide)) (by decide) rfl (fun ls hl => ?_)
      refine lv_goto (tgt := 19) hx hb d_Wd_begin_55 (by decide) ?_
      refine ih (i + 1) (i + 1) z1 hd1 fr1 ln1 nx1 vr1 ow1 no1 H locs ls (by omega) (by omega) hI1 ?_ hP hD hS
      rw [nI_succ]
      exact lv_sub hl [0, 1, 2] rfl

set_option maxHeartbeats 4000000 in
set_option maxRecDepth 100000 in
theorem c_Wd_begin (l : Launch) (D : va_G) (cI cB cJ cZ : ClassId) (sz : Nat) (wd tx w1 w2 w3 w4 w5 w6 w7 z : Nat) (F hd fr ln nx vr ow no : Nat → Int32) : Met l y_Wd_begin (Cond.code y_Wd_begin b_Wd_begin 3 none :: gG) { frames := 2, cells := 0, slots := 0, locals := 70 } (va_Pc [.ref wd] (ct_P D (tyL cI cB cJ cZ) [(wd, .inr (11, [.ref tx, .ref w1, .ref w2, .ref w3, .ref w4, .ref w5, .ref w6, .ref w7, .int (nI z)])), (tx, .inl (cB, 65638, .inl F)), (w1, .inl (cI, 512, .inl hd)), (w2, .inl (cI, 5923, .inl fr)), (w3, .inl (cI, 5923, .inl ln)), (w4, .inl (cI, 5923, .inl nx)), (w5, .inl (cI, 5923, .inl vr)), (w6, .inl (cI, 5923, .inl ow)), (w7, .inl (cI, 5923, .inl no))] sz)) (va_Qv (fun _ : Unit => True) (fun _ t => ∃ (z1 : Nat) (hd1 fr1 ln1 nx1 vr1 ow1 no1 : Nat → Int32), WI z1 hd1 fr1 ln1 nx1 ∧ va_P D kl [(wd, .inr (11, [.ref tx, .ref w1, .ref w2, .ref w3, .ref w4, .ref w5, .ref w6, .ref w7, .int (nI z1)])), (tx, .inl (cB, 65638, .inl F)), (w1, .inl (cI, 512, .inl hd1)), (w2, .inl (cI, 5923, .inl fr1)), (w3, .inl (cI, 5923, .inl ln1)), (w4, .inl (cI, 5923, .inl nx1)), (w5, .inl (cI, 5923, .inl vr1)), (w6, .inl (cI, 5923, .inl ow1)), (w7, .inl (cI, 5923, .inl no1))] t.heap ∧ va_D (va_A [(wd, .inr (11, [.ref tx, .ref w1, .ref w2, .ref w3, .ref w4, .ref w5, .ref w6, .ref w7, .int (nI z)])), (tx, .inl (cB, 65638, .inl F)), (w1, .inl (cI, 512, .inl hd)), (w2, .inl (cI, 5923, .inl fr)), (w3, .inl (cI, 5923, .inl ln)), (w4, .inl (cI, 5923, .inl nx)), (w5, .inl (cI, 5923, .inl vr)), (w6, .inl (cI, 5923, .inl ow)), (w7, .inl (cI, 5923, .inl no))] sz) [(wd, .inr (11, [.ref tx, .ref w1, .ref w2, .ref w3, .ref w4, .ref w5, .ref w6, .ref w7, .int (nI z1)])), (tx, .inl (cB, 65638, .inl F)), (w1, .inl (cI, 512, .inl hd1)), (w2, .inl (cI, 5923, .inl fr1)), (w3, .inl (cI, 5923, .inl ln1)), (w4, .inl (cI, 5923, .inl nx1)), (w5, .inl (cI, 5923, .inl vr1)), (w6, .inl (cI, 5923, .inl ow1)), (w7, .inl (cI, 5923, .inl no1))]) (va_A [(wd, .inr (11, [.ref tx, .ref w1, .ref w2, .ref w3, .ref w4, .ref w5, .ref w6, .ref w7, .int (nI z)])), (tx, .inl (cB, 65638, .inl F)), (w1, .inl (cI, 512, .inl hd)), (w2, .inl (cI, 5923, .inl fr)), (w3, .inl (cI, 5923, .inl ln)), (w4, .inl (cI, 5923, .inl nx)), (w5, .inl (cI, 5923, .inl vr)), (w6, .inl (cI, 5923, .inl ow)), (w7, .inl (cI, 5923, .inl no))] sz)) 0 0 (va_A [(wd, .inr (11, [.ref tx, .ref w1, .ref w2, .ref w3, .ref w4, .ref w5, .ref w6, .ref w7, .int (nI z)])), (tx, .inl (cB, 65638, .inl F)), (w1, .inl (cI, 512, .inl hd)), (w2, .inl (cI, 5923, .inl fr)), (w3, .inl (cI, 5923, .inl ln)), (w4, .inl (cI, 5923, .inl nx)), (w5, .inl (cI, 5923, .inl vr)), (w6, .inl (cI, 5923, .inl ow)), (w7, .inl (cI, 5923, .inl no))] sz) := by
  refine Met.ofW (cc := b_Wd_begin) (maxL := 3) (ret := none) (by decide) rfl ?_
  intro p e s m args below meth c s₁ B hml hv
  obtain ⟨rfl, hsz, hP, hK, hD0⟩ := hv
  have hx := B.exec
  have hb := B.bytes
  have hr := B.returns
  have hts := atoms_spec (ws := Cond.code y_Wd_begin b_Wd_begin 3 none :: gG) B.pre
  have hG : ∀ w9 ∈ gG, w9.before [.ref wd].toArray s = true := fun w9 h => hts w9 (List.mem_cons_of_mem _ h)
  have hown : s.vm.findClass R_Wd = some m.cls := findClass_of_methodNamed B.named
  have hlocks := B.notSynchronized
  subst hsz
  have hD := hD0.self (sz := s.heap.size)
  generalize hAe : va_A [(wd, .inr (11, [.ref tx, .ref w1, .ref w2, .ref w3, .ref w4, .ref w5, .ref w6, .ref w7, .int (nI z)])), (tx, .inl (cB, 65638, .inl F)), (w1, .inl (cI, 512, .inl hd)), (w2, .inl (cI, 5923, .inl fr)), (w3, .inl (cI, 5923, .inl ln)), (w4, .inl (cI, 5923, .inl nx)), (w5, .inl (cI, 5923, .inl vr)), (w6, .inl (cI, 5923, .inl ow)), (w7, .inl (cI, 5923, .inl no))] s.heap.size = A at hD ⊢
  have hA : ∀ q : Nat, s.heap.size ≤ q → A q := fun q h => by rw [← hAe]; exact Or.inr h
  have hS : va_S A s.heap s.heap [] := va_S.rf
  have hl := lv_entry ([.ref wd]) (n := 3) (Nat.le_of_ble_eq_true rfl)
  rw [lg_entry_eq]
  generalize (lg_sl ([.ref wd]) ++ List.replicate (3 - (lg_sl ([.ref wd])).length) Slot.unset).toArray = ls at hl ⊢
  have hl : lv_has ls 3 [(0, .ref wd)] := hl
  refine lv_aload_n hx hb d_Wd_begin_0 rfl (lv_at hl 0 rfl) ?_
  refine va_get (D := D) (ci := 11) (v := .ref w1) (C := R_Wd) (T := T_Wd) (N := 9) hx hb hG gi_Wd hown hK hP 0 rfl rfl 1 (by decide) (hG _ fl_Wd_11) (fun _ h9 => h9) rfl d_Wd_begin_1 ?_
  refine lv_iconst (v := (-1)) hx hb d_Wd_begin_4 (by decide) ?_
  have hPc := hP.sub (ws' := [(w1, .inl (cI, 512, .inl hd))]) [2] rfl
  have hDc := hD.sub (ws' := [(w1, .inl (cI, 512, .inl hd))]) [2] (by decide) rfl
  have hFc := va_free (wc := [(w1, .inl (cI, 512, .inl hd))]) hD hS hA [2] rfl
  refine va_callv (va_runS (As := [.ref w1, .int (-1)]) (rest := []) ⟨hx, hb, hml, hown, hG⟩ (c_fill l D cI cB cJ cZ s.heap.size w1 512 hd (-1) (by decide)) (gcS2 2 gG_good hG ml_Wd_37 sm_java_util_Arrays_fill_0 in_java_util_Arrays co_java_util_Arrays_fill_0 rfl rfl (by decide +kernel) ⟨(Nat.le_of_ble_eq_true rfl), (Nat.le_of_ble_eq_true rfl)⟩) (ct_pre hPc hK hDc) rfl rfl hl.1 rfl (lv_room (Nat.le_of_ble_eq_true rfl)) d_Wd_begin_5 ⟨(Nat.le_of_ble_eq_true rfl), (Nat.le_of_ble_eq_true rfl)⟩) hS (fun q _ h => hFc q h) hFc (fun _ t H1 locs ht hvm hw hB hz1 hk1 hS => ?_)
  obtain ⟨hP1, hD1⟩ := hB
  rw [ht] at hP1
  obtain ⟨hP, hD⟩ := va_join (wr := [(wd, .inr (11, [.ref tx, .ref w1, .ref w2, .ref w3, .ref w4, .ref w5, .ref w6, .ref w7, .int (nI z)])), (tx, .inl (cB, 65638, .inl F)), (w2, .inl (cI, 5923, .inl fr)), (w3, .inl (cI, 5923, .inl ln)), (w4, .inl (cI, 5923, .inl nx)), (w5, .inl (cI, 5923, .inl vr)), (w6, .inl (cI, 5923, .inl ow)), (w7, .inl (cI, 5923, .inl no))]) (w1 := [(w1, .inl (cI, 512, .inl (flT hd (-1) 512)))]) hP hD [2] [0, 1, 3, 4, 5, 6, 7, 8] rfl rfl (by decide) (by decide) hk1 hFc hP1 hD1
  generalize H1 = H at hP hS ⊢
  have hP : va_P D kl [(wd, .inr (11, [.ref tx, .ref w1, .ref w2, .ref w3, .ref w4, .ref w5, .ref w6, .ref w7, .int (nI z)])), (tx, .inl (cB, 65638, .inl F)), (w2, .inl (cI, 5923, .inl fr)), (w3, .inl (cI, 5923, .inl ln)), (w4, .inl (cI, 5923, .inl nx)), (w5, .inl (cI, 5923, .inl vr)), (w6, .inl (cI, 5923, .inl ow)), (w7, .inl (cI, 5923, .inl no)), (w1, .inl (cI, 512, .inl (flT hd (-1) 512)))] H := hP
  have hD : va_D A [(wd, .inr (11, [.ref tx, .ref w1, .ref w2, .ref w3, .ref w4, .ref w5, .ref w6, .ref w7, .int (nI z)])), (tx, .inl (cB, 65638, .inl F)), (w2, .inl (cI, 5923, .inl fr)), (w3, .inl (cI, 5923, .inl ln)), (w4, .inl (cI, 5923, .inl nx)), (w5, .inl (cI, 5923, .inl vr)), (w6, .inl (cI, 5923, .inl ow)), (w7, .inl (cI, 5923, .inl no)), (w1, .inl (cI, 512, .inl (flT hd (-1) 512)))] := hD
  refine lv_aload_n hx hb d_Wd_begin_8 rfl (lv_at hl 0 rfl) ?_
  refine lv_iconst (v := 0) hx hb d_Wd_begin_9 (by decide) ?_
  refine va_put (D := D) (ci := 11) (v := .int 0) (ty := .int) (C := R_Wd) (T := T_Wd) (N := 9) hx hb hG gi_Wd ty_Wd to_Wd nm_Wd hown hK hP hD hS 0 rfl rfl 8 (by decide) (hG _ fl_Wd_43) (fun _ h9 => h9) rfl (by decide +kernel) rfl rfl (Nat.le_of_ble_eq_true rfl) d_Wd_begin_10 (fun H locs hP hD hS => ?_)
  have hP : va_P D kl [(wd, .inr (11, [.ref tx, .ref w1, .ref w2, .ref w3, .ref w4, .ref w5, .ref w6, .ref w7, .int 0])), (tx, .inl (cB, 65638, .inl F)), (w2, .inl (cI, 5923, .inl fr)), (w3, .inl (cI, 5923, .inl ln)), (w4, .inl (cI, 5923, .inl nx)), (w5, .inl (cI, 5923, .inl vr)), (w6, .inl (cI, 5923, .inl ow)), (w7, .inl (cI, 5923, .inl no)), (w1, .inl (cI, 512, .inl (flT hd (-1) 512)))] H := hP
  have hD : va_D A [(wd, .inr (11, [.ref tx, .ref w1, .ref w2, .ref w3, .ref w4, .ref w5, .ref w6, .ref w7, .int 0])), (tx, .inl (cB, 65638, .inl F)), (w2, .inl (cI, 5923, .inl fr)), (w3, .inl (cI, 5923, .inl ln)), (w4, .inl (cI, 5923, .inl nx)), (w5, .inl (cI, 5923, .inl vr)), (w6, .inl (cI, 5923, .inl ow)), (w7, .inl (cI, 5923, .inl no)), (w1, .inl (cI, 512, .inl (flT hd (-1) 512)))] := hD
  refine lv_ldc (v := 65536) hx hb hown (hG _ ct_Wd_47) d_Wd_begin_13 ?_
  refine lv_istore_n (lv' := [(1, .int 65536), (0, .ref wd)]) hx hb d_Wd_begin_15 rfl hl (by decide) rfl (fun ls hl => ?_)
  refine lv_ldc (v := 65536) hx hb hown (hG _ ct_Wd_47) d_Wd_begin_16 ?_
  refine lv_istore_n (lv' := [(2, .int 65536), (1, .int 65536), (0, .ref wd)]) hx hb d_Wd_begin_18 rfl hl (by decide) rfl (fun ls hl => ?_)
  have hI0 : WI 0 (flT hd (-1) 512) fr ln nx := WI_0 (fun b hb => by unfold flT; rw [if_pos hb])
  have hP : va_P D kl [(wd, .inr (11, [.ref tx, .ref w1, .ref w2, .ref w3, .ref w4, .ref w5, .ref w6, .ref w7, .int (nI 0)])), (tx, .inl (cB, 65638, .inl F)), (w1, .inl (cI, 512, .inl (flT hd (-1) 512))), (w2, .inl (cI, 5923, .inl fr)), (w3, .inl (cI, 5923, .inl ln)), (w4, .inl (cI, 5923, .inl nx)), (w5, .inl (cI, 5923, .inl vr)), (w6, .inl (cI, 5923, .inl ow)), (w7, .inl (cI, 5923, .inl no))] H := hP.sub [0, 1, 8, 2, 3, 4, 5, 6, 7] rfl
  have hD : va_D A [(wd, .inr (11, [.ref tx, .ref w1, .ref w2, .ref w3, .ref w4, .ref w5, .ref w6, .ref w7, .int (nI 0)])), (tx, .inl (cB, 65638, .inl F)), (w1, .inl (cI, 512, .inl (flT hd (-1) 512))), (w2, .inl (cI, 5923, .inl fr)), (w3, .inl (cI, 5923, .inl ln)), (w4, .inl (cI, 5923, .inl nx)), (w5, .inl (cI, 5923, .inl vr)), (w6, .inl (cI, 5923, .inl ow)), (w7, .inl (cI, 5923, .inl no))] := hD.sub [0, 1, 8, 2, 3, 4, 5, 6, 7] (by decide) rfl
  refine lp_Wd_begin D cI cB cJ cZ hx hb hml hown hG hK hA wd tx w1 w2 w3 w4 w5 w6 w7 F (fun z1 hd1 fr1 ln1 nx1 vr1 ow1 no1 st H locs ls hI hl hP hD hS => ?_) 102 65536 65536 0 (flT hd (-1) 512) fr ln nx vr ow no H locs ls rfl (Nat.le_refl _) hI0 hl hP hD hS
  exact W.vret hx hb hr (fun t ht hW => ⟨⟨(), rfl, trivial, z1, hd1, fr1, ln1, nx1, vr1, ow1, no1, hI, by rw [ht]; exact hP, hD⟩, hS.F ht⟩) hS.2.2 d_Wd_begin_58

