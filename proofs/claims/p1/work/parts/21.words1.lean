/-! Arrays.fill; the words of a text: that they are found or added within their rows -/
abbrev b_java_util_Arrays_fill_0 : ByteArray := prog_26_method_103_code
abbrev y_java_util_Arrays_fill_0 : MethodName := ⟨"java/util/Arrays", "fill", "([II)V"⟩
theorem d_java_util_Arrays_fill_0_0 : decode b_java_util_Arrays_fill_0 0 = .ok (.iconst 0, 1) := by decide +kernel
theorem d_java_util_Arrays_fill_0_1 : decode b_java_util_Arrays_fill_0 1 = .ok (.istore_n 2, 1) := by decide +kernel
theorem d_java_util_Arrays_fill_0_2 : decode b_java_util_Arrays_fill_0 2 = .ok (.aload_n 0, 1) := by decide +kernel
theorem d_java_util_Arrays_fill_0_3 : decode b_java_util_Arrays_fill_0 3 = .ok (.arraylength, 1) := by decide +kernel
theorem d_java_util_Arrays_fill_0_4 : decode b_java_util_Arrays_fill_0 4 = .ok (.istore_n 3, 1) := by decide +kernel
theorem d_java_util_Arrays_fill_0_5 : decode b_java_util_Arrays_fill_0 5 = .ok (.iload_n 2, 1) := by decide +kernel
theorem d_java_util_Arrays_fill_0_6 : decode b_java_util_Arrays_fill_0 6 = .ok (.iload_n 3, 1) := by decide +kernel
theorem d_java_util_Arrays_fill_0_7 : decode b_java_util_Arrays_fill_0 7 = .ok (.if_icmp .ge 13, 3) := by decide +kernel
theorem d_java_util_Arrays_fill_0_10 : decode b_java_util_Arrays_fill_0 10 = .ok (.aload_n 0, 1) := by decide +kernel
theorem d_java_util_Arrays_fill_0_11 : decode b_java_util_Arrays_fill_0 11 = .ok (.iload_n 2, 1) := by decide +kernel
theorem d_java_util_Arrays_fill_0_12 : decode b_java_util_Arrays_fill_0 12 = .ok (.iload_n 1, 1) := by decide +kernel
theorem d_java_util_Arrays_fill_0_13 : decode b_java_util_Arrays_fill_0 13 = .ok (.iastore, 1) := by decide +kernel
theorem d_java_util_Arrays_fill_0_14 : decode b_java_util_Arrays_fill_0 14 = .ok (.iinc 2 1, 3) := by decide +kernel
theorem d_java_util_Arrays_fill_0_17 : decode b_java_util_Arrays_fill_0 17 = .ok (.goto (-12), 3) := by decide +kernel
theorem d_java_util_Arrays_fill_0_20 : decode b_java_util_Arrays_fill_0 20 = .ok (.return_, 1) := by decide +kernel
/-- the first i places hold x -/
def flT (f : Nat → Int32) (x : Int32) (i : Nat) : Nat → Int32 := fun q => if q < i then x else f q
theorem flT_0 {f : Nat → Int32} {x : Int32} : f = flT f x 0 := by
  funext q
  unfold flT
  rw [if_neg (by omega)]
theorem flT_s {f : Nat → Int32} {x : Int32} {i : Nat} (hi : i < 2 ^ 31) : upd (flT f x i) (nI i).toNatClampNeg x = flT f x (i + 1) := by
  rw [nI_clamp hi]
  funext q
  by_cases h : q = i
  · subst h
    rw [pk_us]
    unfold flT
    rw [if_pos (by omega)]
  · rw [pk_un h]
    unfold flT
    by_cases h2 : q < i
    · rw [if_pos h2, if_pos (by omega)]
    · rw [if_neg h2, if_neg (by omega)]
set_option maxHeartbeats 4000000 in
set_option maxRecDepth 100000 in
theorem lp_fill {p : Program} {l : Launch} {e : Env} {s : State} {m : MethodId} {args : Array Value} {below : List Frame} {meth : Method} {c : Code} {Q : State → Prop} {A : Nat → Prop} (D : va_G) (cI cB cJ cZ : ClassId) (hx : p.tables.exec = Jvm.exec) (hb : c.code = b_java_util_Arrays_fill_0) (hml : c.maxLocals = 4) (hown : s.vm.findClass "java/util/Arrays" = some m.cls) (hG : ∀ w ∈ gG, w.before args s = true) (hK : va_K D kl (tyL cI cB cJ cZ) s) (hA : ∀ q : Nat, s.heap.size ≤ q → A q) (a n : Nat) (f : Nat → Int32) (x : Int32) (hn : n < 2 ^ 31) (kk : ∀ (H : Heap) (locs : List Loc) (ls : Array Slot), lv_has ls 4 [(2, .int (nI n)), (3, .int (nI n)), (0, .ref a), (1, .int x)] → va_P D kl [(a, .inl (cI, n, .inl (flT f x n)))] H → va_D A [(a, .inl (cI, n, .inl (flT f x n)))] → va_S A s.heap H locs → W p l e ({ frames := 0, cells := 0, slots := 0, locals := 0 } : Room) s m args below meth c H locs 0 0 Q (F0 m 20 ls [])) : ∀ (k i : Nat) (H : Heap) (locs : List Loc) (ls : Array Slot), i + k = n → lv_has ls 4 [(2, .int (nI i)), (3, .int (nI n)), (0, .ref a), (1, .int x)] → va_P D kl [(a, .inl (cI, n, .inl (flT f x i)))] H → va_D A [(a, .inl (cI, n, .inl (flT f x i)))] → va_S A s.heap H locs → W p l e ({ frames := 0, cells := 0, slots := 0, locals := 0 } : Room) s m args below meth c H locs 0 0 Q (F0 m 5 ls []) := by
  intro k
  induction k with
  | zero =>
    intro i H locs ls hi hl hP hD hS
    obtain rfl : i = n := by omega
    refine lv_iload_n hx hb d_java_util_Arrays_fill_0_5 rfl (lv_at hl 0 rfl) ?_
    refine lv_iload_n hx hb d_java_util_Arrays_fill_0_6 rfl (lv_at hl 1 rfl) ?_
    exact lv_icmp_ge (tgt := 20) hx hb d_java_util_Arrays_fill_0_7 (by decide) (fun _ => kk H locs ls hl hP hD hS) (fun h9 => absurd (nI_le (Nat.le_refl i) hn) h9)
  | succ k ih =>
    intro i H locs ls hi hl hP hD hS
    refine lv_iload_n hx hb d_java_util_Arrays_fill_0_5 rfl (lv_at hl 0 rfl) ?_
    refine lv_iload_n hx hb d_java_util_Arrays_fill_0_6 rfl (lv_at hl 1 rfl) ?_
    refine lv_icmp_ge (tgt := 20) hx hb d_java_util_Arrays_fill_0_7 (by decide) (fun zz1 => absurd zz1 (nI_ge (by omega) hn)) (fun _ => ?_)
    refine lv_aload_n hx hb d_java_util_Arrays_fill_0_10 rfl (lv_at hl 2 rfl) ?_
    refine lv_iload_n hx hb d_java_util_Arrays_fill_0_11 rfl (lv_at hl 0 rfl) ?_
    refine lv_iload_n hx hb d_java_util_Arrays_fill_0_12 rfl (lv_at hl 3 rfl) ?_
    refine va_iast (D := D) hx hb hK hP hD hS 0 0 rfl rfl (vp_in_nI (by omega) hn) d_java_util_Arrays_fill_0_13 (fun H locs hP hD hS => ?_)
    have hP : va_P D kl [(a, .inl (cI, n, .inl (upd (flT f x i) (nI i).toNatClampNeg x)))] H := hP
    have hD : va_D A [(a, .inl (cI, n, .inl (upd (flT f x i) (nI i).toNatClampNeg x)))] := hD
    rw [flT_s (by omega)] at hP hD
    refine lv_iinc (k := 0) (x := (nI i)) (v := ((nI i) + 1)) (lv' := [(2, .int ((nI i) + 1)), (3, .int (nI n)), (0, .ref a), (1, .int x)]) hx hb d_java_util_Arrays_fill_0_14 hl rfl (congrArg ((nI i) + ·) (by decide)) (by decide) rfl (fun ls hl => ?_)
    refine lv_goto (tgt := 5) hx hb d_java_util_Arrays_fill_0_17 (by decide) ?_
    refine ih (i + 1) H locs ls (by omega) ?_ hP hD hS
    rw [nI_succ]
    exact hl

set_option maxHeartbeats 4000000 in
set_option maxRecDepth 100000 in
theorem c_fill (l : Launch) (D : va_G) (cI cB cJ cZ : ClassId) (sz : Nat) (a n : Nat) (f : Nat → Int32) (x : Int32) (hn : n < 2 ^ 31) : Met l y_java_util_Arrays_fill_0 (Cond.code y_java_util_Arrays_fill_0 b_java_util_Arrays_fill_0 4 none :: gG) { frames := 0, cells := 0, slots := 0, locals := 0 } (va_Pc [.ref a, .int x] (ct_P D (tyL cI cB cJ cZ) [(a, .inl (cI, n, .inl f))] sz)) (va_Qv (fun _ : Unit => True) (fun _ t => va_P D kl [(a, .inl (cI, n, .inl (flT f x n)))] t.heap ∧ va_D (va_A [(a, .inl (cI, n, .inl f))] sz) [(a, .inl (cI, n, .inl (flT f x n)))]) (va_A [(a, .inl (cI, n, .inl f))] sz)) 0 0 (va_A [(a, .inl (cI, n, .inl f))] sz) := by
  refine Met.ofW (cc := b_java_util_Arrays_fill_0) (maxL := 4) (ret := none) (by decide) rfl ?_
  intro p e s m args below meth c s₁ B hml hv
  obtain ⟨rfl, hsz, hP, hK, hD0⟩ := hv
  have hx := B.exec
  have hb := B.bytes
  have hr := B.returns
  have hts := atoms_spec (ws := Cond.code y_java_util_Arrays_fill_0 b_java_util_Arrays_fill_0 4 none :: gG) B.pre
  have hG : ∀ w9 ∈ gG, w9.before [.ref a, .int x].toArray s = true := fun w9 h => hts w9 (List.mem_cons_of_mem _ h)
  have hown : s.vm.findClass "java/util/Arrays" = some m.cls := findClass_of_methodNamed B.named
  have hlocks := B.notSynchronized
  subst hsz
  have hD := hD0.self (sz := s.heap.size)
  generalize hAe : va_A [(a, .inl (cI, n, .inl f))] s.heap.size = A at hD ⊢
  have hA : ∀ q : Nat, s.heap.size ≤ q → A q := fun q h => by rw [← hAe]; exact Or.inr h
  have hS : va_S A s.heap s.heap [] := va_S.rf
  have hl := lv_entry ([.ref a, .int x]) (n := 4) (Nat.le_of_ble_eq_true rfl)
  rw [lg_entry_eq]
  generalize (lg_sl ([.ref a, .int x]) ++ List.replicate (4 - (lg_sl ([.ref a, .int x])).length) Slot.unset).toArray = ls at hl ⊢
  have hl : lv_has ls 4 [(0, .ref a), (1, .int x)] := hl
  refine lv_iconst (v := 0) hx hb d_java_util_Arrays_fill_0_0 (by decide) ?_
  refine lv_istore_n (lv' := [(2, .int 0), (0, .ref a), (1, .int x)]) hx hb d_java_util_Arrays_fill_0_1 rfl hl (by decide) rfl (fun ls hl => ?_)
  refine lv_aload_n hx hb d_java_util_Arrays_fill_0_2 rfl (lv_at hl 1 rfl) ?_
  refine va_alen (D := D) (v := (Int32.ofNat n)) hx hb hK hP 0 0 rfl rfl rfl d_java_util_Arrays_fill_0_3 ?_
  refine lv_istore_n (lv' := [(3, .int (Int32.ofNat n)), (2, .int 0), (0, .ref a), (1, .int x)]) hx hb d_java_util_Arrays_fill_0_4 rfl hl (by decide) rfl (fun ls hl => ?_)
  have hP : va_P D kl [(a, .inl (cI, n, .inl (flT f x 0)))] s.heap := by rw [← flT_0]; exact hP
  have hD : va_D A [(a, .inl (cI, n, .inl (flT f x 0)))] := by rw [← flT_0]; exact hD
  refine lp_fill D cI cB cJ cZ hx hb hml hown hG hK hA a n f x hn (fun H locs ls hl hP hD hS => ?_) n 0 s.heap [] ls (by omega) (lv_sub hl [1, 0, 2, 3] rfl) hP hD hS
  exact W.vret hx hb hr (fun t ht hW => ⟨⟨(), rfl, trivial, by rw [ht]; exact hP, hD⟩, hS.F ht⟩) hS.2.2 d_java_util_Arrays_fill_0_20

theorem d_Wd_isAt_0 : decode b_Wd_isAt 0 = .ok (.aload_n 0, 1) := by decide +kernel
theorem d_Wd_isAt_1 : decode b_Wd_isAt 1 = .ok (.getfield 15, 3) := by decide +kernel
theorem d_Wd_isAt_4 : decode b_Wd_isAt 4 = .ok (.iload_n 1, 1) := by decide +kernel
theorem d_Wd_isAt_5 : decode b_Wd_isAt 5 = .ok (.iaload, 1) := by decide +kernel
theorem d_Wd_isAt_6 : decode b_Wd_isAt 6 = .ok (.istore_n 3, 1) := by decide +kernel
theorem d_Wd_isAt_7 : decode b_Wd_isAt 7 = .ok (.iconst 0, 1) := by decide +kernel
theorem d_Wd_isAt_8 : decode b_Wd_isAt 8 = .ok (.istore 4, 2) := by decide +kernel
theorem d_Wd_isAt_10 : decode b_Wd_isAt 10 = .ok (.iload 4, 2) := by decide +kernel
theorem d_Wd_isAt_12 : decode b_Wd_isAt 12 = .ok (.aload_n 0, 1) := by decide +kernel
theorem d_Wd_isAt_13 : decode b_Wd_isAt 13 = .ok (.getfield 18, 3) := by decide +kernel
theorem d_Wd_isAt_16 : decode b_Wd_isAt 16 = .ok (.iload_n 1, 1) := by decide +kernel
theorem d_Wd_isAt_17 : decode b_Wd_isAt 17 = .ok (.iaload, 1) := by decide +kernel
theorem d_Wd_isAt_18 : decode b_Wd_isAt 18 = .ok (.if_icmp .ge 32, 3) := by decide +kernel
theorem d_Wd_isAt_21 : decode b_Wd_isAt 21 = .ok (.aload_n 0, 1) := by decide +kernel
theorem d_Wd_isAt_22 : decode b_Wd_isAt 22 = .ok (.getfield 33, 3) := by decide +kernel
theorem d_Wd_isAt_25 : decode b_Wd_isAt 25 = .ok (.iload_n 3, 1) := by decide +kernel
theorem d_Wd_isAt_26 : decode b_Wd_isAt 26 = .ok (.iload 4, 2) := by decide +kernel
theorem d_Wd_isAt_28 : decode b_Wd_isAt 28 = .ok (.iadd, 1) := by decide +kernel
theorem d_Wd_isAt_29 : decode b_Wd_isAt 29 = .ok (.baload, 1) := by decide +kernel
theorem d_Wd_isAt_30 : decode b_Wd_isAt 30 = .ok (.aload_n 0, 1) := by decide +kernel
theorem d_Wd_isAt_31 : decode b_Wd_isAt 31 = .ok (.getfield 33, 3) := by decide +kernel
theorem d_Wd_isAt_34 : decode b_Wd_isAt 34 = .ok (.iload_n 2, 1) := by decide +kernel
theorem d_Wd_isAt_35 : decode b_Wd_isAt 35 = .ok (.iload 4, 2) := by decide +kernel
theorem d_Wd_isAt_37 : decode b_Wd_isAt 37 = .ok (.iadd, 1) := by decide +kernel
theorem d_Wd_isAt_38 : decode b_Wd_isAt 38 = .ok (.baload, 1) := by decide +kernel
theorem d_Wd_isAt_39 : decode b_Wd_isAt 39 = .ok (.if_icmp .eq 5, 3) := by decide +kernel
theorem d_Wd_isAt_42 : decode b_Wd_isAt 42 = .ok (.iconst 0, 1) := by decide +kernel
theorem d_Wd_isAt_43 : decode b_Wd_isAt 43 = .ok (.ireturn, 1) := by decide +kernel
theorem d_Wd_isAt_44 : decode b_Wd_isAt 44 = .ok (.iinc 4 1, 3) := by decide +kernel
theorem d_Wd_isAt_47 : decode b_Wd_isAt 47 = .ok (.goto (-37), 3) := by decide +kernel
theorem d_Wd_isAt_50 : decode b_Wd_isAt 50 = .ok (.iconst 1, 1) := by decide +kernel
theorem d_Wd_isAt_51 : decode b_Wd_isAt 51 = .ok (.ireturn, 1) := by decide +kernel
theorem d_Wd_add_0 : decode b_Wd_add 0 = .ok (.aload_n 0, 1) := by decide +kernel
theorem d_Wd_add_1 : decode b_Wd_add 1 = .ok (.dup, 1) := by decide +kernel
theorem d_Wd_add_2 : decode b_Wd_add 2 = .ok (.getfield 43, 3) := by decide +kernel
theorem d_Wd_add_5 : decode b_Wd_add 5 = .ok (.dup_x1, 1) := by decide +kernel
theorem d_Wd_add_6 : decode b_Wd_add 6 = .ok (.iconst 1, 1) := by decide +kernel
theorem d_Wd_add_7 : decode b_Wd_add 7 = .ok (.iadd, 1) := by decide +kernel
theorem d_Wd_add_8 : decode b_Wd_add 8 = .ok (.putfield 43, 3) := by decide +kernel
theorem d_Wd_add_11 : decode b_Wd_add 11 = .ok (.istore 4, 2) := by decide +kernel
theorem d_Wd_add_13 : decode b_Wd_add 13 = .ok (.aload_n 0, 1) := by decide +kernel
theorem d_Wd_add_14 : decode b_Wd_add 14 = .ok (.getfield 15, 3) := by decide +kernel
theorem d_Wd_add_17 : decode b_Wd_add 17 = .ok (.iload 4, 2) := by decide +kernel
theorem d_Wd_add_19 : decode b_Wd_add 19 = .ok (.iload_n 1, 1) := by decide +kernel
theorem d_Wd_add_20 : decode b_Wd_add 20 = .ok (.iastore, 1) := by decide +kernel
theorem d_Wd_add_21 : decode b_Wd_add 21 = .ok (.aload_n 0, 1) := by decide +kernel
theorem d_Wd_add_22 : decode b_Wd_add 22 = .ok (.getfield 18, 3) := by decide +kernel
theorem d_Wd_add_25 : decode b_Wd_add 25 = .ok (.iload 4, 2) := by decide +kernel
theorem d_Wd_add_27 : decode b_Wd_add 27 = .ok (.iload_n 2, 1) := by decide +kernel
theorem d_Wd_add_28 : decode b_Wd_add 28 = .ok (.iastore, 1) := by decide +kernel
theorem d_Wd_add_29 : decode b_Wd_add 29 = .ok (.aload_n 0, 1) := by decide +kernel
theorem d_Wd_add_30 : decode b_Wd_add 30 = .ok (.getfield 21, 3) := by decide +kernel
theorem d_Wd_add_33 : decode b_Wd_add 33 = .ok (.iload 4, 2) := by decide +kernel
theorem d_Wd_add_35 : decode b_Wd_add 35 = .ok (.aload_n 0, 1) := by decide +kernel
theorem d_Wd_add_36 : decode b_Wd_add 36 = .ok (.getfield 11, 3) := by decide +kernel
theorem d_Wd_add_39 : decode b_Wd_add 39 = .ok (.iload_n 3, 1) := by decide +kernel
theorem d_Wd_add_40 : decode b_Wd_add 40 = .ok (.iaload, 1) := by decide +kernel
theorem d_Wd_add_41 : decode b_Wd_add 41 = .ok (.iastore, 1) := by decide +kernel
theorem d_Wd_add_42 : decode b_Wd_add 42 = .ok (.aload_n 0, 1) := by decide +kernel
theorem d_Wd_add_43 : decode b_Wd_add 43 = .ok (.getfield 11, 3) := by decide +kernel
theorem d_Wd_add_46 : decode b_Wd_add 46 = .ok (.iload_n 3, 1) := by decide +kernel
theorem d_Wd_add_47 : decode b_Wd_add 47 = .ok (.iload 4, 2) := by decide +kernel
theorem d_Wd_add_49 : decode b_Wd_add 49 = .ok (.iastore, 1) := by decide +kernel
theorem d_Wd_add_50 : decode b_Wd_add 50 = .ok (.aload_n 0, 1) := by decide +kernel
theorem d_Wd_add_51 : decode b_Wd_add 51 = .ok (.getfield 24, 3) := by decide +kernel
theorem d_Wd_add_54 : decode b_Wd_add 54 = .ok (.iload 4, 2) := by decide +kernel
theorem d_Wd_add_56 : decode b_Wd_add 56 = .ok (.iconst (-1), 1) := by decide +kernel
theorem d_Wd_add_57 : decode b_Wd_add 57 = .ok (.iastore, 1) := by decide +kernel
theorem d_Wd_add_58 : decode b_Wd_add 58 = .ok (.aload_n 0, 1) := by decide +kernel
theorem d_Wd_add_59 : decode b_Wd_add 59 = .ok (.getfield 27, 3) := by decide +kernel
theorem d_Wd_add_62 : decode b_Wd_add 62 = .ok (.iload 4, 2) := by decide +kernel
theorem d_Wd_add_64 : decode b_Wd_add 64 = .ok (.iconst 0, 1) := by decide +kernel
theorem d_Wd_add_65 : decode b_Wd_add 65 = .ok (.iastore, 1) := by decide +kernel
theorem d_Wd_add_66 : decode b_Wd_add 66 = .ok (.aload_n 0, 1) := by decide +kernel
theorem d_Wd_add_67 : decode b_Wd_add 67 = .ok (.getfield 30, 3) := by decide +kernel
theorem d_Wd_add_70 : decode b_Wd_add 70 = .ok (.iload 4, 2) := by decide +kernel
theorem d_Wd_add_72 : decode b_Wd_add 72 = .ok (.iconst 0, 1) := by decide +kernel
theorem d_Wd_add_73 : decode b_Wd_add 73 = .ok (.iastore, 1) := by decide +kernel
theorem d_Wd_add_74 : decode b_Wd_add 74 = .ok (.iload 4, 2) := by decide +kernel
theorem d_Wd_add_76 : decode b_Wd_add 76 = .ok (.ireturn, 1) := by decide +kernel
theorem d_Wd_find_0 : decode b_Wd_find 0 = .ok (.iconst 0, 1) := by decide +kernel
theorem d_Wd_find_1 : decode b_Wd_find 1 = .ok (.istore_n 3, 1) := by decide +kernel
theorem d_Wd_find_2 : decode b_Wd_find 2 = .ok (.iconst 0, 1) := by decide +kernel
theorem d_Wd_find_3 : decode b_Wd_find 3 = .ok (.istore 4, 2) := by decide +kernel
theorem d_Wd_find_5 : decode b_Wd_find 5 = .ok (.iload 4, 2) := by decide +kernel
theorem d_Wd_find_7 : decode b_Wd_find 7 = .ok (.iload_n 2, 1) := by decide +kernel
theorem d_Wd_find_8 : decode b_Wd_find 8 = .ok (.if_icmp .ge 24, 3) := by decide +kernel
theorem d_Wd_find_11 : decode b_Wd_find 11 = .ok (.iload_n 3, 1) := by decide +kernel
theorem d_Wd_find_12 : decode b_Wd_find 12 = .ok (.bipush 31, 2) := by decide +kernel
theorem d_Wd_find_14 : decode b_Wd_find 14 = .ok (.imul, 1) := by decide +kernel
theorem d_Wd_find_15 : decode b_Wd_find 15 = .ok (.aload_n 0, 1) := by decide +kernel
theorem d_Wd_find_16 : decode b_Wd_find 16 = .ok (.getfield 33, 3) := by decide +kernel
theorem d_Wd_find_19 : decode b_Wd_find 19 = .ok (.iload_n 1, 1) := by decide +kernel
theorem d_Wd_find_20 : decode b_Wd_find 20 = .ok (.iload 4, 2) := by decide +kernel
theorem d_Wd_find_22 : decode b_Wd_find 22 = .ok (.iadd, 1) := by decide +kernel
theorem d_Wd_find_23 : decode b_Wd_find 23 = .ok (.baload, 1) := by decide +kernel
theorem d_Wd_find_24 : decode b_Wd_find 24 = .ok (.iadd, 1) := by decide +kernel
theorem d_Wd_find_25 : decode b_Wd_find 25 = .ok (.istore_n 3, 1) := by decide +kernel
theorem d_Wd_find_26 : decode b_Wd_find 26 = .ok (.iinc 4 1, 3) := by decide +kernel
theorem d_Wd_find_29 : decode b_Wd_find 29 = .ok (.goto (-24), 3) := by decide +kernel
theorem d_Wd_find_32 : decode b_Wd_find 32 = .ok (.iload_n 3, 1) := by decide +kernel
theorem d_Wd_find_33 : decode b_Wd_find 33 = .ok (.sipush 511, 3) := by decide +kernel
theorem d_Wd_find_36 : decode b_Wd_find 36 = .ok (.iand, 1) := by decide +kernel
theorem d_Wd_find_37 : decode b_Wd_find 37 = .ok (.istore 4, 2) := by decide +kernel
theorem d_Wd_find_39 : decode b_Wd_find 39 = .ok (.aload_n 0, 1) := by decide +kernel
theorem d_Wd_find_40 : decode b_Wd_find 40 = .ok (.getfield 11, 3) := by decide +kernel
theorem d_Wd_find_43 : decode b_Wd_find 43 = .ok (.iload 4, 2) := by decide +kernel
theorem d_Wd_find_45 : decode b_Wd_find 45 = .ok (.iaload, 1) := by decide +kernel
theorem d_Wd_find_46 : decode b_Wd_find 46 = .ok (.istore 5, 2) := by decide +kernel
theorem d_Wd_find_48 : decode b_Wd_find 48 = .ok (.iconst 0, 1) := by decide +kernel
theorem d_Wd_find_49 : decode b_Wd_find 49 = .ok (.istore 6, 2) := by decide +kernel
theorem d_Wd_find_51 : decode b_Wd_find 51 = .ok (.iload 6, 2) := by decide +kernel
theorem d_Wd_find_53 : decode b_Wd_find 53 = .ok (.aload_n 0, 1) := by decide +kernel
theorem d_Wd_find_54 : decode b_Wd_find 54 = .ok (.getfield 43, 3) := by decide +kernel
theorem d_Wd_find_57 : decode b_Wd_find 57 = .ok (.if_icmp .ge 47, 3) := by decide +kernel
theorem d_Wd_find_60 : decode b_Wd_find 60 = .ok (.iload 5, 2) := by decide +kernel
theorem d_Wd_find_62 : decode b_Wd_find 62 = .ok (.ifCond .lt 42, 3) := by decide +kernel
theorem d_Wd_find_65 : decode b_Wd_find 65 = .ok (.aload_n 0, 1) := by decide +kernel
theorem d_Wd_find_66 : decode b_Wd_find 66 = .ok (.getfield 18, 3) := by decide +kernel
theorem d_Wd_find_69 : decode b_Wd_find 69 = .ok (.iload 5, 2) := by decide +kernel
theorem d_Wd_find_71 : decode b_Wd_find 71 = .ok (.iaload, 1) := by decide +kernel
theorem d_Wd_find_72 : decode b_Wd_find 72 = .ok (.iload_n 2, 1) := by decide +kernel
theorem d_Wd_find_73 : decode b_Wd_find 73 = .ok (.if_icmp .ne 16, 3) := by decide +kernel
theorem d_Wd_find_76 : decode b_Wd_find 76 = .ok (.aload_n 0, 1) := by decide +kernel
theorem d_Wd_find_77 : decode b_Wd_find 77 = .ok (.iload 5, 2) := by decide +kernel
theorem d_Wd_find_79 : decode b_Wd_find 79 = .ok (.iload_n 1, 1) := by decide +kernel
theorem d_Wd_find_80 : decode b_Wd_find 80 = .ok (.invokevirtual 52, 3) := by decide +kernel
theorem d_Wd_find_83 : decode b_Wd_find 83 = .ok (.ifCond .eq 6, 3) := by decide +kernel
theorem d_Wd_find_86 : decode b_Wd_find 86 = .ok (.iload 5, 2) := by decide +kernel
theorem d_Wd_find_88 : decode b_Wd_find 88 = .ok (.ireturn, 1) := by decide +kernel
theorem d_Wd_find_89 : decode b_Wd_find 89 = .ok (.aload_n 0, 1) := by decide +kernel
theorem d_Wd_find_90 : decode b_Wd_find 90 = .ok (.getfield 21, 3) := by decide +kernel
theorem d_Wd_find_93 : decode b_Wd_find 93 = .ok (.iload 5, 2) := by decide +kernel
theorem d_Wd_find_95 : decode b_Wd_find 95 = .ok (.iaload, 1) := by decide +kernel
theorem d_Wd_find_96 : decode b_Wd_find 96 = .ok (.istore 5, 2) := by decide +kernel
theorem d_Wd_find_98 : decode b_Wd_find 98 = .ok (.iinc 6 1, 3) := by decide +kernel
theorem d_Wd_find_101 : decode b_Wd_find 101 = .ok (.goto (-50), 3) := by decide +kernel
theorem d_Wd_find_104 : decode b_Wd_find 104 = .ok (.aload_n 0, 1) := by decide +kernel
theorem d_Wd_find_105 : decode b_Wd_find 105 = .ok (.getfield 43, 3) := by decide +kernel
theorem d_Wd_find_108 : decode b_Wd_find 108 = .ok (.sipush 5923, 3) := by decide +kernel
theorem d_Wd_find_111 : decode b_Wd_find 111 = .ok (.if_icmp .ge 14, 3) := by decide +kernel
theorem d_Wd_find_114 : decode b_Wd_find 114 = .ok (.aload_n 0, 1) := by decide +kernel
theorem d_Wd_find_115 : decode b_Wd_find 115 = .ok (.iload_n 1, 1) := by decide +kernel
theorem d_Wd_find_116 : decode b_Wd_find 116 = .ok (.iload_n 2, 1) := by decide +kernel
theorem d_Wd_find_117 : decode b_Wd_find 117 = .ok (.iload 4, 2) := by decide +kernel
theorem d_Wd_find_119 : decode b_Wd_find 119 = .ok (.invokevirtual 56, 3) := by decide +kernel
theorem d_Wd_find_122 : decode b_Wd_find 122 = .ok (.goto 4, 3) := by decide +kernel
theorem d_Wd_find_125 : decode b_Wd_find 125 = .ok (.iconst (-1), 1) := by decide +kernel
theorem d_Wd_find_126 : decode b_Wd_find 126 = .ok (.ireturn, 1) := by decide +kernel
theorem d_Wd_begin_0 : decode b_Wd_begin 0 = .ok (.aload_n 0, 1) := by decide +kernel
theorem d_Wd_begin_1 : decode b_Wd_begin 1 = .ok (.getfield 11, 3) := by decide +kernel
theorem d_Wd_begin_4 : decode b_Wd_begin 4 = .ok (.iconst (-1), 1) := by decide +kernel
theorem d_Wd_begin_5 : decode b_Wd_begin 5 = .ok (.invokestatic 37, 3) := by decide +kernel
theorem d_Wd_begin_8 : decode b_Wd_begin 8 = .ok (.aload_n 0, 1) := by decide +kernel
theorem d_Wd_begin_9 : decode b_Wd_begin 9 = .ok (.iconst 0, 1) := by decide +kernel
theorem d_Wd_begin_10 : decode b_Wd_begin 10 = .ok (.putfield 43, 3) := by decide +kernel
theorem d_Wd_begin_13 : decode b_Wd_begin 13 = .ok (.ldc 47, 2) := by decide +kernel
theorem d_Wd_begin_15 : decode b_Wd_begin 15 = .ok (.istore_n 1, 1) := by decide +kernel
theorem d_Wd_begin_16 : decode b_Wd_begin 16 = .ok (.ldc 47, 2) := by decide +kernel
theorem d_Wd_begin_18 : decode b_Wd_begin 18 = .ok (.istore_n 2, 1) := by decide +kernel
theorem d_Wd_begin_19 : decode b_Wd_begin 19 = .ok (.iload_n 2, 1) := by decide +kernel
theorem d_Wd_begin_20 : decode b_Wd_begin 20 = .ok (.aload_n 0, 1) := by decide +kernel
theorem d_Wd_begin_21 : decode b_Wd_begin 21 = .ok (.getfield 33, 3) := by decide +kernel
theorem d_Wd_begin_24 : decode b_Wd_begin 24 = .ok (.arraylength, 1) := by decide +kernel
theorem d_Wd_begin_25 : decode b_Wd_begin 25 = .ok (.if_icmp .ge 33, 3) := by decide +kernel
theorem d_Wd_begin_28 : decode b_Wd_begin 28 = .ok (.aload_n 0, 1) := by decide +kernel
theorem d_Wd_begin_29 : decode b_Wd_begin 29 = .ok (.getfield 33, 3) := by decide +kernel
theorem d_Wd_begin_32 : decode b_Wd_begin 32 = .ok (.iload_n 2, 1) := by decide +kernel
theorem d_Wd_begin_33 : decode b_Wd_begin 33 = .ok (.baload, 1) := by decide +kernel
theorem d_Wd_begin_34 : decode b_Wd_begin 34 = .ok (.bipush 32, 2) := by decide +kernel
theorem d_Wd_begin_36 : decode b_Wd_begin 36 = .ok (.if_icmp .ne 16, 3) := by decide +kernel
theorem d_Wd_begin_39 : decode b_Wd_begin 39 = .ok (.aload_n 0, 1) := by decide +kernel
theorem d_Wd_begin_40 : decode b_Wd_begin 40 = .ok (.iload_n 1, 1) := by decide +kernel
theorem d_Wd_begin_41 : decode b_Wd_begin 41 = .ok (.iload_n 2, 1) := by decide +kernel
theorem d_Wd_begin_42 : decode b_Wd_begin 42 = .ok (.iload_n 1, 1) := by decide +kernel
theorem d_Wd_begin_43 : decode b_Wd_begin 43 = .ok (.isub, 1) := by decide +kernel
theorem d_Wd_begin_44 : decode b_Wd_begin 44 = .ok (.invokevirtual 48, 3) := by decide +kernel
theorem d_Wd_begin_47 : decode b_Wd_begin 47 = .ok (.pop, 1) := by decide +kernel
theorem d_Wd_begin_48 : decode b_Wd_begin 48 = .ok (.iload_n 2, 1) := by decide +kernel
theorem d_Wd_begin_49 : decode b_Wd_begin 49 = .ok (.iconst 1, 1) := by decide +kernel
theorem d_Wd_begin_50 : decode b_Wd_begin 50 = .ok (.iadd, 1) := by decide +kernel
theorem d_Wd_begin_51 : decode b_Wd_begin 51 = .ok (.istore_n 1, 1) := by decide +kernel
theorem d_Wd_begin_52 : decode b_Wd_begin 52 = .ok (.iinc 2 1, 3) := by decide +kernel
theorem d_Wd_begin_55 : decode b_Wd_begin 55 = .ok (.goto (-36), 3) := by decide +kernel
theorem d_Wd_begin_58 : decode b_Wd_begin 58 = .ok (.return_, 1) := by decide +kernel
/-- the rows of the words: chains lead to words that are there, each word lies within the text -/
def WI (z : Nat) (hd fr ln nx : Nat → Int32) : Prop := z ≤ 5923 ∧ (∀ b, b < 512 → hd b = -1 ∨ ∃ w, w < z ∧ hd b = nI w) ∧ ∀ w, w < z → (nx w = -1 ∨ ∃ w', w' < z ∧ nx w = nI w') ∧ ∃ f c : Nat, fr w = nI f ∧ ln w = nI c ∧ f + c ≤ 65638
theorem WI_0 {hd fr ln nx : Nat → Int32} (h : ∀ b, b < 512 → hd b = -1) : WI 0 hd fr ln nx := ⟨by omega, fun b hb => Or.inl (h b hb), fun w hw => by omega⟩
theorem WI_add {z a k b : Nat} {hd fr ln nx : Nat → Int32} (h : WI z hd fr ln nx) (hz : z < 5923) (hb : b < 512) (ha : a + k ≤ 65638) : WI (z + 1) (upd hd b (nI z)) (upd fr z (nI a)) (upd ln z (nI k)) (upd nx z (hd b)) := by
  refine ⟨by omega, fun c hc => ?_, fun w hw => ?_⟩
  · by_cases e : c = b
    · subst e
      rw [pk_us]
      exact Or.inr ⟨z, by omega, rfl⟩
    · rw [pk_un e]
      rcases h.2.1 c hc with h1 | ⟨w, h1, h2⟩
      · exact Or.inl h1
      · exact Or.inr ⟨w, by omega, h2⟩
  · by_cases e : w = z
    · subst e
      rw [pk_us, pk_us, pk_us]
      refine ⟨?_, a, k, rfl, rfl, ha⟩
      rcases h.2.1 b hb with h1 | ⟨w2, h1, h2⟩
      · exact Or.inl h1
      · exact Or.inr ⟨w2, by omega, h2⟩
    · rw [pk_un e, pk_un e, pk_un e]
      obtain ⟨h1, h2⟩ := h.2.2 w (by omega)
      refine ⟨?_, h2⟩
      rcases h1 with h1 | ⟨w2, h3, h4⟩
      · exact Or.inl h1
      · exact Or.inr ⟨w2, by omega, h4⟩
set_option maxHeartbeats 4000000 in
set_option maxRecDepth 100000 in
theorem c_Wd_isAt (l : Launch) (D : va_G) (cI cB cJ cZ : ClassId) (sz : Nat) (wd tx w1 w2 w3 w4 w5 w6 w7 z : Nat) (F hd fr ln nx vr ow no : Nat → Int32) (w a f k : Nat) (hz : z ≤ 5923) (hw : w < z) (h1 : fr w = nI f) (h2 : ln w = nI k) (h3 : f + k ≤ 65638) (h4 : a + k ≤ 65638) : Met l y_Wd_isAt (Cond.code y_Wd_isAt b_Wd_isAt 5 (some .boolean) :: gG) { frames := 0, cells := 0, slots := 0, locals := 0 } (va_Pc [.ref wd, .int (nI w), .int (nI a)] (ct_P D (tyL cI cB cJ cZ) [(wd, .inr (11, [.ref tx, .ref w1, .ref w2, .ref w3, .ref w4, .ref w5, .ref w6, .ref w7, .int (nI z)])), (tx, .inl (cB, 65638, .inl F)), (w1, .inl (cI, 512, .inl hd)), (w2, .inl (cI, 5923, .inl fr)), (w3, .inl (cI, 5923, .inl ln)), (w4, .inl (cI, 5923, .inl nx)), (w5, .inl (cI, 5923, .inl vr)), (w6, .inl (cI, 5923, .inl ow)), (w7, .inl (cI, 5923, .inl no))] sz)) QcAny 0 0 (fun _ => False) := by
  refine Met.ofW (cc := b_Wd_isAt) (maxL := 5) (ret := (some .boolean)) (by decide) rfl ?_
  intro p e s m args below meth c s₁ B hml hv
  obtain ⟨rfl, hsz, hP, hK, hD0⟩ := hv
  have hx := B.exec
  have hb := B.bytes
  have hr := B.returns
  have hts := atoms_spec (ws := Cond.code y_Wd_isAt b_Wd_isAt 5 (some .boolean) :: gG) B.pre
  have hG : ∀ w9 ∈ gG, w9.before [.ref wd, .int (nI w), .int (nI a)].toArray s = true := fun w9 h => hts w9 (List.mem_cons_of_mem _ h)
  have hown : s.vm.findClass R_Wd = some m.cls := findClass_of_methodNamed B.named
  have hlocks := B.notSynchronized
  subst hsz
  have hD := hD0.self (sz := s.heap.size)
  generalize hAe : va_A [(wd, .inr (11, [.ref tx, .ref w1, .ref w2, .ref w3, .ref w4, .ref w5, .ref w6, .ref w7, .int (nI z)])), (tx, .inl (cB, 65638, .inl F)), (w1, .inl (cI, 512, .inl hd)), (w2, .inl (cI, 5923, .inl fr)), (w3, .inl (cI, 5923, .inl ln)), (w4, .inl (cI, 5923, .inl nx)), (w5, .inl (cI, 5923, .inl vr)), (w6, .inl (cI, 5923, .inl ow)), (w7, .inl (cI, 5923, .inl no))] s.heap.size = A at hD
  have hA : ∀ q : Nat, s.heap.size ≤ q → A q := fun q h => by rw [← hAe]; exact Or.inr h
  have hS : va_S A s.heap s.heap [] := va_S.rf
  have hl := lv_entry ([.ref wd, .int (nI w), .int (nI a)]) (n := 5) (Nat.le_of_ble_eq_true rfl)
  rw [lg_entry_eq]
  generalize (lg_sl ([.ref wd, .int (nI w), .int (nI a)]) ++ List.replicate (5 - (lg_sl ([.ref wd, .int (nI w), .int (nI a)])).length) Slot.unset).toArray = ls at hl ⊢
  have hl : lv_has ls 5 [(0, .ref wd), (1, .int (nI w)), (2, .int (nI a))] := hl
  refine lv_aload_n hx hb d_Wd_isAt_0 rfl (lv_at hl 0 rfl) ?_
  refine va_get (D := D) (ci := 11) (v := .ref w2) (C := R_Wd) (T := T_Wd) (N := 9) hx hb hG gi_Wd hown hK hP 0 rfl rfl 2 (by decide) (hG _ fl_Wd_15) (fun _ h9 => h9) rfl d_Wd_isAt_1 ?_
  refine lv_iload_n hx hb d_Wd_isAt_4 rfl (lv_at hl 1 rfl) ?_
  refine va_iald (D := D) hx hb hK hP 3 0 rfl rfl (vp_in_nI (by omega) (by decide)) d_Wd_isAt_5 ?_
  refine lv_topi (fun v1 ev1 => ?_)
  rw [nI_clamp (by omega), h1] at ev1
  subst ev1
  refine lv_istore_n (lv' := [(3, .int (nI f)), (0, .ref wd), (1, .int (nI w)), (2, .int (nI a))]) hx hb d_Wd_isAt_6 rfl hl (by decide) rfl (fun ls hl => ?_)
  refine lv_iconst (v := 0) hx hb d_Wd_isAt_7 (by decide) ?_
  refine lv_istore (lv' := [(4, .int 0), (3, .int (nI f)), (0, .ref wd), (1, .int (nI w)), (2, .int (nI a))]) hx hb d_Wd_isAt_8 hl (by decide) rfl (fun ls hl => ?_)
  have loop : ∀ (j i : Nat) (ls : Array Slot), i + j = k → lv_has ls 5 [(4, .int (nI i)), (3, .int (nI f)), (0, .ref wd), (1, .int (nI w)), (2, .int (nI a))] → W p l e ({ frames := 0, cells := 0, slots := 0, locals := 0 } : Room) s m #[Value.ref wd, Value.int (nI w), Value.int (nI a)] below meth c s.heap [] 0 0 (MQ below QcAny #[Value.ref wd, Value.int (nI w), Value.int (nI a)] s 0 0 (fun _ => False)) (F0 m 10 ls []) := by
    intro j
    induction j with
    | zero =>
      intro i ls hi hl
      obtain rfl : i = k := by omega
      refine lv_iload hx hb d_Wd_isAt_10 (lv_at hl 0 rfl) ?_
      refine lv_aload_n hx hb d_Wd_isAt_12 rfl (lv_at hl 2 rfl) ?_
      refine va_get (D := D) (ci := 11) (v := .ref w3) (C := R_Wd) (T := T_Wd) (N := 9) hx hb hG gi_Wd hown hK hP 0 rfl rfl 3 (by decide) (hG _ fl_Wd_18) (fun _ h9 => h9) rfl d_Wd_isAt_13 ?_
      refine lv_iload_n hx hb d_Wd_isAt_16 rfl (lv_at hl 3 rfl) ?_
      refine va_iald (D := D) hx hb hK hP 4 0 rfl rfl (vp_in_nI (by omega) (by decide)) d_Wd_isAt_17 ?_
      refine lv_topi (fun v2 ev2 => ?_)
      rw [nI_clamp (by omega), h2] at ev2
      subst ev2
      refine lv_icmp_ge (tgt := 50) hx hb d_Wd_isAt_18 (by decide) (fun _ => ?_) (fun zz3 => absurd (nI_le (Nat.le_refl i) (by omega)) zz3)
      refine lv_iconst (v := 1) hx hb d_Wd_isAt_50 (by decide) ?_
      exact W.zret (v := 1) hx hb hr (by first | rfl | decide) (fun t ht hW => ⟨_, rfl, ht⟩) (fun q h => by cases h) d_Wd_isAt_51
    | succ j ih =>
      intro i ls hi hl
      refine lv_iload hx hb d_Wd_isAt_10 (lv_at hl 0 rfl) ?_
      refine lv_aload_n hx hb d_Wd_isAt_12 rfl (lv_at hl 2 rfl) ?_
      refine va_get (D := D) (ci := 11) (v := .ref w3) (C := R_Wd) (T := T_Wd) (N := 9) hx hb hG gi_Wd hown hK hP 0 rfl rfl 3 (by decide) (hG _ fl_Wd_18) (fun _ h9 => h9) rfl d_Wd_isAt_13 ?_
      refine lv_iload_n hx hb d_Wd_isAt_16 rfl (lv_at hl 3 rfl) ?_
      refine va_iald (D := D) hx hb hK hP 4 0 rfl rfl (vp_in_nI (by omega) (by decide)) d_Wd_isAt_17 ?_
      refine lv_topi (fun v4 ev4 => ?_)
      rw [nI_clamp (by omega), h2] at ev4
      subst ev4
      refine lv_icmp_ge (tgt := 50) hx hb d_Wd_isAt_18 (by decide) (fun zz5 => absurd zz5 (nI_ge (by omega) (by omega))) (fun _ => ?_)
      refine lv_aload_n hx hb d_Wd_isAt_21 rfl (lv_at hl 2 rfl) ?_
      refine va_get (D := D) (ci := 11) (v := .ref tx) (C := R_Wd) (T := T_Wd) (N := 9) hx hb hG gi_Wd hown hK hP 0 rfl rfl 0 (by decide) (hG _ fl_Wd_33) (fun _ h9 => h9) rfl d_Wd_isAt_22 ?_
      refine lv_iload_n hx hb d_Wd_isAt_25 rfl (lv_at hl 1 rfl) ?_
      refine lv_iload hx hb d_Wd_isAt_26 (lv_at hl 0 rfl) ?_
      refine lv_iadd hx hb d_Wd_isAt_28 ?_
      rw [show nI f + nI i = nI (f + i) from nI_add f i]
      refine va_bald (D := D) hx hb hK hP 1 1 rfl rfl (vp_in_nI (by omega) (by decide)) d_Wd_isAt_29 ?_
      refine lv_topi (fun v6 ev6 => ?_)
      refine lv_aload_n hx hb d_Wd_isAt_30 rfl (lv_at hl 2 rfl) ?_
      refine va_get (D := D) (ci := 11) (v := .ref tx) (C := R_Wd) (T := T_Wd) (N := 9) hx hb hG gi_Wd hown hK hP 0 rfl rfl 0 (by decide) (hG _ fl_Wd_33) (fun _ h9 => h9) rfl d_Wd_isAt_31 ?_
      refine lv_iload_n hx hb d_Wd_isAt_34 rfl (lv_at hl 4 rfl) ?_
      refine lv_iload hx hb d_Wd_isAt_35 (lv_at hl 0 rfl) ?_
      refine lv_iadd hx hb d_Wd_isAt_37 ?_
      rw [show nI a + nI i = nI (a + i) from nI_add a i]
      refine va_bald (D := D) hx hb hK hP 1 1 rfl rfl (vp_in_nI (by omega) (by decide)) d_Wd_isAt_38 ?_
      refine lv_topi (fun v7 ev7 => ?_)
      refine lv_icmp_eq (tgt := 44) hx hb d_Wd_isAt_39 (by decide) (fun zz8 => ?_) (fun zz8 => ?_)
      · refine lv_iinc (k := 0) (x := (nI i)) (v := ((nI i) + 1)) (lv' := [(4, .int ((nI i) + 1)), (3, .int (nI f)), (0, .ref wd), (1, .int (nI w)), (2, .int (nI a))]) hx hb d_Wd_isAt_44 hl rfl (congrArg ((nI i) + ·) (by decide)) (by decide) rfl (fun ls hl => ?_)
        refine lv_goto (tgt := 10) hx hb d_Wd_isAt_47 (by decide) ?_
        refine ih (i + 1) ls (by omega) ?_
        rw [nI_succ]
        exact hl
      · refine lv_iconst (v := 0) hx hb d_Wd_isAt_42 (by decide) ?_
        exact W.zret (v := 0) hx hb hr (by first | rfl | decide) (fun t ht hW => ⟨_, rfl, ht⟩) (fun q h => by cases h) d_Wd_isAt_43
  exact loop k 0 ls (by omega) hl

set_option maxHeartbeats 4000000 in
set_option maxRecDepth 100000 in
theorem c_Wd_add (l : Launch) (D : va_G) (cI cB cJ cZ : ClassId) (sz : Nat) (wd tx w1 w2 w3 w4 w5 w6 w7 z : Nat) (F hd fr ln nx vr ow no : Nat → Int32) (a k b : Nat) (hz : z < 5923) (hb5 : b < 512) : Met l y_Wd_add (Cond.code y_Wd_add b_Wd_add 5 (some .int) :: gG) { frames := 0, cells := 0, slots := 0, locals := 0 } (va_Pc [.ref wd, .int (nI a), .int (nI k), .int (nI b)] (ct_P D (tyL cI cB cJ cZ) [(wd, .inr (11, [.ref tx, .ref w1, .ref w2, .ref w3, .ref w4, .ref w5, .ref w6, .ref w7, .int (nI z)])), (tx, .inl (cB, 65638, .inl F)), (w1, .inl (cI, 512, .inl hd)), (w2, .inl (cI, 5923, .inl fr)), (w3, .inl (cI, 5923, .inl ln)), (w4, .inl (cI, 5923, .inl nx)), (w5, .inl (cI, 5923, .inl vr)), (w6, .inl (cI, 5923, .inl ow)), (w7, .inl (cI, 5923, .inl no))] sz)) (va_Qi (fun (r : Int32) (_ : Unit) => r = nI z) (fun _ t => va_P D kl [(wd, .inr (11, [.ref tx, .ref w1, .ref w2, .ref w3, .ref w4, .ref w5, .ref w6, .ref w7, .int (nI (z + 1))])), (tx, .inl (cB, 65638, .inl F)), (w1, .inl (cI, 512, .inl (upd hd b (nI z)))), (w2, .inl (cI, 5923, .inl (upd fr z (nI a)))), (w3, .inl (cI, 5923, .inl (upd ln z (nI k)))), (w4, .inl (cI, 5923, .inl (upd nx z (hd b)))), (w5, .inl (cI, 5923, .inl (upd vr z (-1)))), (w6, .inl (cI, 5923, .inl (upd ow z 0))), (w7, .inl (cI, 5923, .inl (upd no z 0)))] t.heap ∧ va_D (va_A [(wd, .inr (11, [.ref tx, .ref w1, .ref w2, .ref w3, .ref w4, .ref w5, .ref w6, .ref w7, .int (nI z)])), (tx, .inl (cB, 65638, .inl F)), (w1, .inl (cI, 512, .inl hd)), (w2, .inl (cI, 5923, .inl fr)), (w3, .inl (cI, 5923, .inl ln)), (w4, .inl (cI, 5923, .inl nx)), (w5, .inl (cI, 5923, .inl vr)), (w6, .inl (cI, 5923, .inl ow)), (w7, .inl (cI, 5923, .inl no))] sz) [(wd, .inr (11, [.ref tx, .ref w1, .ref w2, .ref w3, .ref w4, .ref w5, .ref w6, .ref w7, .int (nI (z + 1))])), (tx, .inl (cB, 65638, .inl F)), (w1, .inl (cI, 512, .inl (upd hd b (nI z)))), (w2, .inl (cI, 5923, .inl (upd fr z (nI a)))), (w3, .inl (cI, 5923, .inl (upd ln z (nI k)))), (w4, .inl (cI, 5923, .inl (upd nx z (hd b)))), (w5, .inl (cI, 5923, .inl (upd vr z (-1)))), (w6, .inl (cI, 5923, .inl (upd ow z 0))), (w7, .inl (cI, 5923, .inl (upd no z 0)))]) (va_A [(wd, .inr (11, [.ref tx, .ref w1, .ref w2, .ref w3, .ref w4, .ref w5, .ref w6, .ref w7, .int (nI z)])), (tx, .inl (cB, 65638, .inl F)), (w1, .inl (cI, 512, .inl hd)), (w2, .inl (cI, 5923, .inl fr)), (w3, .inl (cI, 5923, .inl ln)), (w4, .inl (cI, 5923, .inl nx)), (w5, .inl (cI, 5923, .inl vr)), (w6, .inl (cI, 5923, .inl ow)), (w7, .inl (cI, 5923, .inl no))] sz)) 0 0 (va_A [(wd, .inr (11, [.ref tx, .ref w1, .ref w2, .ref w3, .ref w4, .ref w5, .ref w6, .ref w7, .int (nI z)])), (tx, .inl (cB, 65638, .inl F)), (w1, .inl (cI, 512, .inl hd)), (w2, .inl (cI, 5923, .inl fr)), (w3, .inl (cI, 5923, .inl ln)), (w4, .inl (cI, 5923, .inl nx)), (w5, .inl (cI, 5923, .inl vr)), (w6, .inl (cI, 5923, .inl ow)), (w7, .inl (cI, 5923, .inl no))] sz) := by
  refine Met.ofW (cc := b_Wd_add) (maxL := 5) (ret := (some .int)) (by decide) rfl ?_
  intro p e s m args below meth c s₁ B hml hv
  obtain ⟨rfl, hsz, hP, hK, hD0⟩ := hv
  have hx := B.exec
  have hb := B.bytes
  have hr := B.returns
  have hts := atoms_spec (ws := Cond.code y_Wd_add b_Wd_add 5 (some .int) :: gG) B.pre
  have hG : ∀ w9 ∈ gG, w9.before [.ref wd, .int (nI a), .int (nI k), .int (nI b)].toArray s = true := fun w9 h => hts w9 (List.mem_cons_of_mem _ h)
  have hown : s.vm.findClass R_Wd = some m.cls := findClass_of_methodNamed B.named
  have hlocks := B.notSynchronized
  subst hsz
  have hD := hD0.self (sz := s.heap.size)
  generalize hAe : va_A [(wd, .inr (11, [.ref tx, .ref w1, .ref w2, .ref w3, .ref w4, .ref w5, .ref w6, .ref w7, .int (nI z)])), (tx, .inl (cB, 65638, .inl F)), (w1, .inl (cI, 512, .inl hd)), (w2, .inl (cI, 5923, .inl fr)), (w3, .inl (cI, 5923, .inl ln)), (w4, .inl (cI, 5923, .inl nx)), (w5, .inl (cI, 5923, .inl vr)), (w6, .inl (cI, 5923, .inl ow)), (w7, .inl (cI, 5923, .inl no))] s.heap.size = A at hD ⊢
  have hA : ∀ q : Nat, s.heap.size ≤ q → A q := fun q h => by rw [← hAe]; exact Or.inr h
  have hS : va_S A s.heap s.heap [] := va_S.rf
  have hl := lv_entry ([.ref wd, .int (nI a), .int (nI k), .int (nI b)]) (n := 5) (Nat.le_of_ble_eq_true rfl)
  rw [lg_entry_eq]
  generalize (lg_sl ([.ref wd, .int (nI a), .int (nI k), .int (nI b)]) ++ List.replicate (5 - (lg_sl ([.ref wd, .int (nI a), .int (nI k), .int (nI b)])).length) Slot.unset).toArray = ls at hl ⊢
  have hl : lv_has ls 5 [(0, .ref wd), (1, .int (nI a)), (2, .int (nI k)), (3, .int (nI b))] := hl
  refine lv_aload_n hx hb d_Wd_add_0 rfl (lv_at hl 0 rfl) ?_
  refine lv_dup hx hb d_Wd_add_1 rfl ?_
  refine va_get (D := D) (ci := 11) (v := .int (nI z)) (C := R_Wd) (T := T_Wd) (N := 9) hx hb hG gi_Wd hown hK hP 0 rfl rfl 8 (by decide) (hG _ fl_Wd_43) (fun _ h9 => h9) rfl d_Wd_add_2 ?_
  refine lv_dup_x1 hx hb d_Wd_add_5 rfl rfl ?_
  refine lv_iconst (v := 1) hx hb d_Wd_add_6 (by decide) ?_
  refine lv_iadd hx hb d_Wd_add_7 ?_
  refine va_put (D := D) (ci := 11) (v := .int ((nI z) + 1)) (ty := .int) (C := R_Wd) (T := T_Wd) (N := 9) hx hb hG gi_Wd ty_Wd to_Wd nm_Wd hown hK hP hD hS 0 rfl rfl 8 (by decide) (hG _ fl_Wd_43) (fun _ h9 => h9) rfl (by decide +kernel) rfl rfl (Nat.le_of_ble_eq_true rfl) d_Wd_add_8 (fun H locs hP hD hS => ?_)
  have hP : va_P D kl [(wd, .inr (11, [.ref tx, .ref w1, .ref w2, .ref w3, .ref w4, .ref w5, .ref w6, .ref w7, .int ((nI z) + 1)])), (tx, .inl (cB, 65638, .inl F)), (w1, .inl (cI, 512, .inl hd)), (w2, .inl (cI, 5923, .inl fr)), (w3, .inl (cI, 5923, .inl ln)), (w4, .inl (cI, 5923, .inl nx)), (w5, .inl (cI, 5923, .inl vr)), (w6, .inl (cI, 5923, .inl ow)), (w7, .inl (cI, 5923, .inl no))] H := hP
  have hD : va_D A [(wd, .inr (11, [.ref tx, .ref w1, .ref w2, .ref w3, .ref w4, .ref w5, .ref w6, .ref w7, .int ((nI z) + 1)])), (tx, .inl (cB, 65638, .inl F)), (w1, .inl (cI, 512, .inl hd)), (w2, .inl (cI, 5923, .inl fr)), (w3, .inl (cI, 5923, .inl ln)), (w4, .inl (cI, 5923, .inl nx)), (w5, .inl (cI, 5923, .inl vr)), (w6, .inl (cI, 5923, .inl ow)), (w7, .inl (cI, 5923, .inl no))] := hD
  refine lv_istore (lv' := [(4, .int (nI z)), (0, .ref wd), (1, .int (nI a)), (2, .int (nI k)), (3, .int (nI b))]) hx hb d_Wd_add_11 hl (by decide) rfl (fun ls hl => ?_)
  refine lv_aload_n hx hb d_Wd_add_13 rfl (lv_at hl 1 rfl) ?_
  refine va_get (D := D) (ci := 11) (v := .ref w2) (C := R_Wd) (T := T_Wd) (N := 9) hx hb hG gi_Wd hown hK hP 0 rfl rfl 2 (by decide) (hG _ fl_Wd_15) (fun _ h9 => h9) rfl d_Wd_add_14 ?_
  refine lv_iload hx hb d_Wd_add_17 (lv_at hl 0 rfl) ?_
  refine lv_iload_n hx hb d_Wd_add_19 rfl (lv_at hl 2 rfl) ?_
  refine va_iast (D := D) hx hb hK hP hD hS 3 0 rfl rfl (vp_in_nI (by omega) (by decide)) d_Wd_add_20 (fun H locs hP hD hS => ?_)
  have hP : va_P D kl [(wd, .inr (11, [.ref tx, .ref w1, .ref w2, .ref w3, .ref w4, .ref w5, .ref w6, .ref w7, .int ((nI z) + 1)])), (tx, .inl (cB, 65638, .inl F)), (w1, .inl (cI, 512, .inl hd)), (w2, .inl (cI, 5923, .inl (upd fr (nI z).toNatClampNeg (nI a)))), (w3, .inl (cI, 5923, .inl ln)), (w4, .inl (cI, 5923, .inl nx)), (w5, .inl (cI, 5923, .inl vr)), (w6, .inl (cI, 5923, .inl ow)), (w7, .inl (cI, 5923, .inl no))] H := hP
  have hD : va_D A [(wd, .inr (11, [.ref tx, .ref w1, .ref w2, .ref w3, .ref w4, .ref w5, .ref w6, .ref w7, .int ((nI z) + 1)])), (tx, .inl (cB, 65638, .inl F)), (w1, .inl (cI, 512, .inl hd)), (w2, .inl (cI, 5923, .inl (upd fr (nI z).toNatClampNeg (nI a)))), (w3, .inl (cI, 5923, .inl ln)), (w4, .inl (cI, 5923, .inl nx)), (w5, .inl (cI, 5923, .inl vr)), (w6, .inl (cI, 5923, .inl ow)), (w7, .inl (cI, 5923, .inl no))] := hD
  refine lv_aload_n hx hb d_Wd_add_21 rfl (lv_at hl 1 rfl) ?_
  refine va_get (D := D) (ci := 11) (v := .ref w3) (C := R_Wd) (T := T_Wd) (N := 9) hx hb hG gi_Wd hown hK hP 0 rfl rfl 3 (by decide) (hG _ fl_Wd_18) (fun _ h9 => h9) rfl d_Wd_add_22 ?_
  refine lv_iload hx hb d_Wd_add_25 (lv_at hl 0 rfl) ?_
  refine lv_iload_n hx hb d_Wd_add_27 rfl (lv_at hl 3 rfl) ?_
  refine va_iast (D := D) hx hb hK hP hD hS 4 0 rfl rfl (vp_in_nI (by omega) (by decide)) d_Wd_add_28 (fun H locs hP hD hS => ?_)
  have hP : va_P D kl [(wd, .inr (11, [.ref tx, .ref w1, .ref w2, .ref w3, .ref w4, .ref w5, .ref w6, .ref w7, .int ((nI z) + 1)])), (tx, .inl (cB, 65638, .inl F)), (w1, .inl (cI, 512, .inl hd)), (w2, .inl (cI, 5923, .inl (upd fr (nI z).toNatClampNeg (nI a)))), (w3, .inl (cI, 5923, .inl (upd ln (nI z).toNatClampNeg (nI k)))), (w4, .inl (cI, 5923, .inl nx)), (w5, .inl (cI, 5923, .inl vr)), (w6, .inl (cI, 5923, .inl ow)), (w7, .inl (cI, 5923, .inl no))] H := hP
  have hD : va_D A [(wd, .inr (11, [.ref tx, .ref w1, .ref w2, .ref w3, .ref w4, .ref w5, .ref w6, .ref w7, .int ((nI z) + 1)])), (tx, .inl (cB, 65638, .inl F)), (w1, .inl (cI, 512, .inl hd)), (w2, .inl (cI, 5923, .inl (upd fr (nI z).toNatClampNeg (nI a)))), (w3, .inl (cI, 5923, .inl (upd ln (nI z).toNatClampNeg (nI k)))), (w4, .inl (cI, 5923, .inl nx)), (w5, .inl (cI, 5923, .inl vr)), (w6, .inl (cI, 5923, .inl ow)), (w7, .inl (cI, 5923, .inl no))] := hD
  refine lv_aload_n hx hb d_Wd_add_29 rfl (lv_at hl 1 rfl) ?_
  refine va_get (D := D) (ci := 11) (v := .ref w4) (C := R_Wd) (T := T_Wd) (N := 9) hx hb hG gi_Wd hown hK hP 0 rfl rfl 4 (by decide) (hG _ fl_Wd_21) (fun _ h9 => h9) rfl d_Wd_add_30 ?_
  refine lv_iload hx hb d_Wd_add_33 (lv_at hl 0 rfl) ?_
  refine lv_aload_n hx hb d_Wd_add_35 rfl (lv_at hl 1 rfl) ?_
  refine va_get (D := D) (ci := 11) (v := .ref w1) (C := R_Wd) (T := T_Wd) (N := 9) hx hb hG gi_Wd hown hK hP 0 rfl rfl 1 (by decide) (hG _ fl_Wd_11) (fun _ h9 => h9) rfl d_Wd_add_36 ?_
  refine lv_iload_n hx hb d_Wd_add_39 rfl (lv_at hl 4 rfl) ?_
  refine va_iald (D := D) hx hb hK hP 2 0 rfl rfl (vp_in_nI (by omega) (by decide)) d_Wd_add_40 ?_
  refine lv_topi (fun v1 ev1 => ?_)
  rw [nI_clamp (by omega)] at ev1
  subst ev1
  refine va_iast (D := D) hx hb hK hP hD hS 5 0 rfl rfl (vp_in_nI (by omega) (by decide)) d_Wd_add_41 (fun H locs hP hD hS => ?_)
  have hP : va_P D kl [(wd, .inr (11, [.ref tx, .ref w1, .ref w2, .ref w3, .ref w4, .ref w5, .ref w6, .ref w7, .int ((nI z) + 1)])), (tx, .inl (cB, 65638, .inl F)), (w1, .inl (cI, 512, .inl hd)), (w2, .inl (cI, 5923, .inl (upd fr (nI z).toNatClampNeg (nI a)))), (w3, .inl (cI, 5923, .inl (upd ln (nI z).toNatClampNeg (nI k)))), (w4, .inl (cI, 5923, .inl (upd nx (nI z).toNatClampNeg (hd b)))), (w5, .inl (cI, 5923, .inl vr)), (w6, .inl (cI, 5923, .inl ow)), (w7, .inl (cI, 5923, .inl no))] H := hP
  have hD : va_D A [(wd, .inr (11, [.ref tx, .ref w1, .ref w2, .ref w3, .ref w4, .ref w5, .ref w6, .ref w7, .int ((nI z) + 1)])), (tx, .inl (cB, 65638, .inl F)), (w1, .inl (cI, 512, .inl hd)), (w2, .inl (cI, 5923, .inl (upd fr (nI z).toNatClampNeg (nI a)))), (w3, .inl (cI, 5923, .inl (upd ln (nI z).toNatClampNeg (nI k)))), (w4, .inl (cI, 5923, .inl (upd nx (nI z).toNatClampNeg (hd b)))), (w5, .inl (cI, 5923, .inl vr)), (w6, .inl (cI, 5923, .inl ow)), (w7, .inl (cI, 5923, .inl no))] := hD
  refine lv_aload_n hx hb d_Wd_add_42 rfl (lv_at hl 1 rfl) ?_
  refine va_get (D := D) (ci := 11) (v := .ref w1) (C := R_Wd) (T := T_Wd) (N := 9) hx hb hG gi_Wd hown hK hP 0 rfl rfl 1 (by decide) (hG _ fl_Wd_11) (fun _ h9 => h9) rfl d_Wd_add_43 ?_
  refine lv_iload_n hx hb d_Wd_add_46 rfl (lv_at hl 4 rfl) ?_
  refine lv_iload hx hb d_Wd_add_47 (lv_at hl 0 rfl) ?_
  refine va_iast (D := D) hx hb hK hP hD hS 2 0 rfl rfl (vp_in_nI (by omega) (by decide)) d_Wd_add_49 (fun H locs hP hD hS => ?_)
  have hP : va_P D kl [(wd, .inr (11, [.ref tx, .ref w1, .ref w2, .ref w3, .ref w4, .ref w5, .ref w6, .ref w7, .int ((nI z) + 1)])), (tx, .inl (cB, 65638, .inl F)), (w1, .inl (cI, 512, .inl (upd hd (nI b).toNatClampNeg (nI z)))), (w2, .inl (cI, 5923, .inl (upd fr (nI z).toNatClampNeg (nI a)))), (w3, .inl (cI, 5923, .inl (upd ln (nI z).toNatClampNeg (nI k)))), (w4, .inl (cI, 5923, .inl (upd nx (nI z).toNatClampNeg (hd b)))), (w5, .inl (cI, 5923, .inl vr)), (w6, .inl (cI, 5923, .inl ow)), (w7, .inl (cI, 5923, .inl no))] H := hP
  have hD : va_D A [(wd, .inr (11, [.ref tx, .ref w1, .ref w2, .ref w3, .ref w4, .ref w5, .ref w6, .ref w7, .int ((nI z) + 1)])), (tx, .inl (cB, 65638, .inl F)), (w1, .inl (cI, 512, .inl (upd hd (nI b).toNatClampNeg (nI z)))), (w2, .inl (cI, 5923, .inl (upd fr (nI z).toNatClampNeg (nI a)))), (w3, .inl (cI, 5923, .inl (upd ln (nI z).toNatClampNeg (nI k)))), (w4, .inl (cI, 5923, .inl (upd nx (nI z).toNatClampNeg (hd b)))), (w5, .inl (cI, 5923, .inl vr)), (w6, .inl (cI, 5923, .inl ow)), (w7, .inl (cI, 5923, .inl no))] := hD
  refine lv_aload_n hx hb d_Wd_add_50 rfl (lv_at hl 1 rfl) ?_
  refine va_get (D := D) (ci := 11) (v := .ref w5) (C := R_Wd) (T := T_Wd) (N := 9) hx hb hG gi_Wd hown hK hP 0 rfl rfl 5 (by decide) (hG _ fl_Wd_24) (fun _ h9 => h9) rfl d_Wd_add_51 ?_
  refine lv_iload hx hb d_Wd_add_54 (lv_at hl 0 rfl) ?_
  refine lv_iconst (v := (-1)) hx hb d_Wd_add_56 (by decide) ?_
  refine va_iast (D := D) hx hb hK hP hD hS 6 0 rfl rfl (vp_in_nI (by omega) (by decide)) d_Wd_add_57 (fun H locs hP hD hS => ?_)
  have hP : va_P D kl [(wd, .inr (11, [.ref tx, .ref w1, .ref w2, .ref w3, .ref w4, .ref w5, .ref w6, .ref w7, .int ((nI z) + 1)])), (tx, .inl (cB, 65638, .inl F)), (w1, .inl (cI, 512, .inl (upd hd (nI b).toNatClampNeg (nI z)))), (w2, .inl (cI, 5923, .inl (upd fr (nI z).toNatClampNeg (nI a)))), (w3, .inl (cI, 5923, .inl (upd ln (nI z).toNatClampNeg (nI k)))), (w4, .inl (cI, 5923, .inl (upd nx (nI z).toNatClampNeg (hd b)))), (w5, .inl (cI, 5923, .inl (upd vr (nI z).toNatClampNeg (-1)))), (w6, .inl (cI, 5923, .inl ow)), (w7, .inl (cI, 5923, .inl no))] H := hP
  have hD : va_D A [(wd, .inr (11, [.ref tx, .ref w1, .ref w2, .ref w3, .ref w4, .ref w5, .ref w6, .ref w7, .int ((nI z) + 1)])), (tx, .inl (cB, 65638, .inl F)), (w1, .inl (cI, 512, .inl (upd hd (nI b).toNatClampNeg (nI z)))), (w2, .inl (cI, 5923, .inl (upd fr (nI z).toNatClampNeg (nI a)))), (w3, .inl (cI, 5923, .inl (upd ln (nI z).toNatClampNeg (nI k)))), (w4, .inl (cI, 5923, .inl (upd nx (nI z).toNatClampNeg (hd b)))), (w5, .inl (cI, 5923, .inl (upd vr (nI z).toNatClampNeg (-1)))), (w6, .inl (cI, 5923, .inl ow)), (w7, .inl (cI, 5923, .inl no))] := hD
  refine lv_aload_n hx hb d_Wd_add_58 rfl (lv_at hl 1 rfl) ?_
  refine va_get (D := D) (ci := 11) (v := .ref w6) (C := R_Wd) (T := T_Wd) (N := 9) hx hb hG gi_Wd hown hK hP 0 rfl rfl 6 (by decide) (hG _ fl_Wd_27) (fun _ h9 => h9) rfl d_Wd_add_59 ?_
  refine lv_iload hx hb d_Wd_add_62 (lv_at hl 0 rfl) ?_
  refine lv_iconst (v := 0) hx hb d_Wd_add_64 (by decide) ?_
  refine va_iast (D := D) hx hb hK hP hD hS 7 0 rfl rfl (vp_in_nI (by omega) (by decide)) d_Wd_add_65 (fun H locs hP hD hS => ?_)
  have hP : va_P D kl [(wd, .inr (11, [.ref tx, .ref w1, .ref w2, .ref w3, .ref w4, .ref w5, .ref w6, .ref w7, .int ((nI z) + 1)])), (tx, .inl (cB, 65638, .inl F)), (w1, .inl (cI, 512, .inl (upd hd (nI b).toNatClampNeg (nI z)))), (w2, .inl (cI, 5923, .inl (upd fr (nI z).toNatClampNeg (nI a)))), (w3, .inl (cI, 5923, .inl (upd ln (nI z).toNatClampNeg (nI k)))), (w4, .inl (cI, 5923, .inl (upd nx (nI z).toNatClampNeg (hd b)))), (w5, .inl (cI, 5923, .inl (upd vr (nI z).toNatClampNeg (-1)))), (w6, .inl (cI, 5923, .inl (upd ow (nI z).toNatClampNeg 0))), (w7, .inl (cI, 5923, .inl no))] H := hP
  have hD : va_D A [(wd, .inr (11, [.ref tx, .ref w1, .ref w2, .ref w3, .ref w4, .ref w5, .ref w6, .ref w7, .int ((nI z) + 1)])), (tx, .inl (cB, 65638, .inl F)), (w1, .inl (cI, 512, .inl (upd hd (nI b).toNatClampNeg (nI z)))), (w2, .inl (cI, 5923, .inl (upd fr (nI z).toNatClampNeg (nI a)))), (w3, .inl (cI, 5923, .inl (upd ln (nI z).toNatClampNeg (nI k)))), (w4, .inl (cI, 5923, .inl (upd nx (nI z).toNatClampNeg (hd b)))), (w5, .inl (cI, 5923, .inl (upd vr (nI z).toNatClampNeg (-1)))), (w6, .inl (cI, 5923, .inl (upd ow (nI z).toNatClampNeg 0))), (w7, .inl (cI, 5923, .inl no))] := hD
  refine lv_aload_n hx hb d_Wd_add_66 rfl (lv_at hl 1 rfl) ?_
  refine va_get (D := D) (ci := 11) (v := .ref w7) (C := R_Wd) (T := T_Wd) (N := 9) hx hb hG gi_Wd hown hK hP 0 rfl rfl 7 (by decide) (hG _ fl_Wd_30) (fun _ h9 => h9) rfl d_Wd_add_67 ?_
  refine lv_iload hx hb d_Wd_add_70 (lv_at hl 0 rfl) ?_
  refine lv_iconst (v := 0) hx hb d_Wd_add_72 (by decide) ?_
  refine va_iast (D := D) hx hb hK hP hD hS 8 0 rfl rfl (vp_in_nI (by omega) (by decide)) d_Wd_add_73 (fun H locs hP hD hS => ?_)
  have hP : va_P D kl [(wd, .inr (11, [.ref tx, .ref w1, .ref w2, .ref w3, .ref w4, .ref w5, .ref w6, .ref w7, .int ((nI z) + 1)])), (tx, .inl (cB, 65638, .inl F)), (w1, .inl (cI, 512, .inl (upd hd (nI b).toNatClampNeg (nI z)))), (w2, .inl (cI, 5923, .inl (upd fr (nI z).toNatClampNeg (nI a)))), (w3, .inl (cI, 5923, .inl (upd ln (nI z).toNatClampNeg (nI k)))), (w4, .inl (cI, 5923, .inl (upd nx (nI z).toNatClampNeg (hd b)))), (w5, .inl (cI, 5923, .inl (upd vr (nI z).toNatClampNeg (-1)))), (w6, .inl (cI, 5923, .inl (upd ow (nI z).toNatClampNeg 0))), (w7, .inl (cI, 5923, .inl (upd no (nI z).toNatClampNeg 0)))] H := hP
  have hD : va_D A [(wd, .inr (11, [.ref tx, .ref w1, .ref w2, .ref w3, .ref w4, .ref w5, .ref w6, .ref w7, .int ((nI z) + 1)])), (tx, .inl (cB, 65638, .inl F)), (w1, .inl (cI, 512, .inl (upd hd (nI b).toNatClampNeg (nI z)))), (w2, .inl (cI, 5923, .inl (upd fr (nI z).toNatClampNeg (nI a)))), (w3, .inl (cI, 5923, .inl (upd ln (nI z).toNatClampNeg (nI k)))), (w4, .inl (cI, 5923, .inl (upd nx (nI z).toNatClampNeg (hd b)))), (w5, .inl (cI, 5923, .inl (upd vr (nI z).toNatClampNeg (-1)))), (w6, .inl (cI, 5923, .inl (upd ow (nI z).toNatClampNeg 0))), (w7, .inl (cI, 5923, .inl (upd no (nI z).toNatClampNeg 0)))] := hD
  refine lv_iload hx hb d_Wd_add_74 (lv_at hl 0 rfl) ?_
  rw [nI_clamp (show z < 2 ^ 31 by omega), nI_clamp (show b < 2 ^ 31 by omega), show nI z + 1 = nI (z + 1) from (nI_succ z).symm] at hP hD
  exact W.iret (v := (nI z)) hx hb hr (fun t ht hW => ⟨⟨(nI z), (), rfl, rfl, by rw [ht]; exact hP, hD⟩, hS.F ht⟩) hS.2.2 d_Wd_add_76

