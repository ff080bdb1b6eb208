/-! equality: read with fault's place -/
theorem p8_f_Wd_isAt_L10  : ∀ (n : Nat) (γ : St) (y0 y1 y2 y3 : Int), P8 γ → pc (f_Wd_isAt_L10 n γ y0 y1 y2 y3) (fun z => P8 z.2) := by
  intro n
  induction n with
  | zero => intros; exact pc_n
  | succ n ih =>
    intro γ y0 y1 y2 y3 h
    unfold f_Wd_isAt_L10
    exact (pc_c (fun _ => (pc_i (fun _ => (pc_s h)) (fun _ => (pc_c (fun _ => (pc_c (fun _ => (pc_c (fun _ => (pc_c (fun _ => (pc_i (fun _ => (pc_c (fun _ => (ih _ _ _ _ _ h)))) (fun _ => (pc_s h)))))))))))))))
theorem p8_f_Wd_isAt {a0 : Int} {a1 : Int} {γ : St} (h : P8 γ) : pc (f_Wd_isAt γ a0 a1) (fun z => P8 z.2) := by
  unfold f_Wd_isAt
  exact (pc_c (fun _ => (pc_a (p8_f_Wd_isAt_L10  _ _ _ _ _ _ h))))
theorem p8_f_Wd_add {a0 : Int} {a1 : Int} {a2 : Int} {γ : St} (h : P8 γ) : pc (f_Wd_add γ a0 a1 a2) (fun z => P8 z.2) := by
  unfold f_Wd_add
  exact (pc_c (fun _ => (pc_as h (by omega) (fun γ3 hγ3 => (pc_a (pc_c (fun _ => (pc_as hγ3 (by omega) (fun γ6 hγ6 => (pc_c (fun _ => (pc_as hγ6 (by omega) (fun γ8 hγ8 => (pc_c (fun _ => (pc_c (fun _ => (pc_as hγ8 (by omega) (fun γ12 hγ12 => (pc_c (fun _ => (pc_as hγ12 (by omega) (fun γ14 hγ14 => (pc_c (fun _ => (pc_as hγ14 (by omega) (fun γ16 hγ16 => (pc_c (fun _ => (pc_as hγ16 (by omega) (fun γ18 hγ18 => (pc_c (fun _ => (pc_as hγ18 (by omega) (fun γ20 hγ20 => (pc_s hγ20))))))))))))))))))))))))))))))))))))
theorem p8_f_Wd_find_b104 {x1 : Int} {x2 : Int} {x3 : Int} {γ : St} (h : P8 γ) : pc (f_Wd_find_b104 γ x1 x2 x3) (fun z => P8 z.2) := by
  unfold f_Wd_find_b104
  exact (pc_i (fun _ => (pc_s h)) (fun _ => (pc_b8 (p8_f_Wd_add  h) (fun _ γ6 hγ6 => (pc_s hγ6)))))
theorem p8_f_Wd_find_b89 {k51 : St → Int → Int → Int → Int → Int → Option (Int × St)} (hk51 : ∀ (γ : St) (y0 y1 y2 y3 y4 : Int), P8 γ → pc (k51 γ y0 y1 y2 y3 y4) (fun z => P8 z.2)) {e104 : St → Int → Int → Int → Option (Int × St)} (he104 : ∀ (γ : St) (y0 y1 y2 : Int), P8 γ → pc (e104 γ y0 y1 y2) (fun z => P8 z.2)) {x7 : Int} {x8 : Int} {x9 : Int} {x10 : Int} {x11 : Int} {γ : St} (h : P8 γ) : pc (f_Wd_find_b89 k51 e104 γ x7 x8 x9 x10 x11) (fun z => P8 z.2) := by
  unfold f_Wd_find_b89
  exact (pc_c (fun _ => (pc_a (pc_c (fun _ => (hk51 _ _ _ _ _ _ h))))))
theorem p8_f_Wd_find_L51 {e104 : St → Int → Int → Int → Option (Int × St)} (he104 : ∀ (γ : St) (y0 y1 y2 : Int), P8 γ → pc (e104 γ y0 y1 y2) (fun z => P8 z.2)) : ∀ (n : Nat) (γ : St) (y0 y1 y2 y3 y4 : Int), P8 γ → pc (f_Wd_find_L51 e104 n γ y0 y1 y2 y3 y4) (fun z => P8 z.2) := by
  intro n
  induction n with
  | zero => intros; exact pc_n
  | succ n ih =>
    intro γ y0 y1 y2 y3 y4 h
    unfold f_Wd_find_L51
    exact (pc_i (fun _ => (he104 _ _ _ _ h)) (fun _ => (pc_i (fun _ => (he104 _ _ _ _ h)) (fun _ => (pc_c (fun _ => (pc_i (fun _ => (p8_f_Wd_find_b89 ih he104 h)) (fun _ => (pc_b8 (p8_f_Wd_isAt  h) (fun _ γ33 hγ33 => (pc_i (fun _ => (p8_f_Wd_find_b89 ih he104 hγ33)) (fun _ => (pc_s hγ33)))))))))))))
theorem p8_f_Wd_find_b32 {x37 : Int} {x38 : Int} {x39 : Int} {γ : St} (h : P8 γ) : pc (f_Wd_find_b32 γ x37 x38 x39) (fun z => P8 z.2) := by
  unfold f_Wd_find_b32
  exact (pc_a (pc_c (fun _ => (pc_a (p8_f_Wd_find_L51 (fun _ _ _ _ h => p8_f_Wd_find_b104  h) _ _ _ _ _ _ _ h)))))
theorem p8_f_Wd_find_L5 {e32 : St → Int → Int → Int → Option (Int × St)} (he32 : ∀ (γ : St) (y0 y1 y2 : Int), P8 γ → pc (e32 γ y0 y1 y2) (fun z => P8 z.2)) : ∀ (n : Nat) (γ : St) (y0 y1 y2 y3 : Int), P8 γ → pc (f_Wd_find_L5 e32 n γ y0 y1 y2 y3) (fun z => P8 z.2) := by
  intro n
  induction n with
  | zero => intros; exact pc_n
  | succ n ih =>
    intro γ y0 y1 y2 y3 h
    unfold f_Wd_find_L5
    exact (pc_i (fun _ => (he32 _ _ _ _ h)) (fun _ => (pc_c (fun _ => (pc_c (fun _ => (pc_a (pc_c (fun _ => (ih _ _ _ _ _ h))))))))))
theorem p8_f_Wd_find {a0 : Int} {a1 : Int} {γ : St} (h : P8 γ) : pc (f_Wd_find γ a0 a1) (fun z => P8 z.2) := by
  unfold f_Wd_find
  exact (p8_f_Wd_find_L5 (fun _ _ _ _ h => p8_f_Wd_find_b32  h) _ _ _ _ _ _ h)
theorem p8_f_Tk_isLetter_b12 {x1 : Int} {γ : St} (h : P8 γ) : pc (f_Tk_isLetter_b12 γ x1) (fun z => P8 z.2) := by
  unfold f_Tk_isLetter_b12
  exact (pc_i (fun _ => (pc_s h)) (fun _ => (pc_i (fun _ => (pc_s h)) (fun _ => (pc_s h)))))
theorem p8_f_Tk_isLetter {a0 : Int} {γ : St} (h : P8 γ) : pc (f_Tk_isLetter γ a0) (fun z => P8 z.2) := by
  unfold f_Tk_isLetter
  exact (pc_i (fun _ => (p8_f_Tk_isLetter_b12  h)) (fun _ => (pc_i (fun _ => (pc_s h)) (fun _ => (p8_f_Tk_isLetter_b12  h)))))
theorem p8_f_Tk_isDigit {a0 : Int} {γ : St} (h : P8 γ) : pc (f_Tk_isDigit γ a0) (fun z => P8 z.2) := by
  unfold f_Tk_isDigit
  exact (pc_i (fun _ => (pc_s h)) (fun _ => (pc_i (fun _ => (pc_s h)) (fun _ => (pc_s h)))))
theorem p8_f_Tk_add {a0 : Int} {a1 : Int} {a2 : Int} {γ : St} (h : P8 γ) : pc (f_Tk_add γ a0 a1 a2) (fun z => P8 z.2) := by
  unfold f_Tk_add
  exact (pc_c (fun _ => (pc_as h (by omega) (fun γ3 hγ3 => (pc_c (fun _ => (pc_as hγ3 (by omega) (fun γ6 hγ6 => (pc_c (fun _ => (pc_as hγ6 (by omega) (fun γ9 hγ9 => (pc_c (fun _ => (pc_as hγ9 (by omega) (fun γ12 hγ12 => (pc_s hγ12)))))))))))))))))
theorem p8_f_Tk_addBad {a0 : Int} {a1 : Int} {γ : St} (h : P8 γ) : pc (f_Tk_addBad γ a0 a1) (fun z => P8 z.2) := by
  unfold f_Tk_addBad
  exact (pc_b8 (p8_f_Tk_add  h) (fun _ γ2 hγ2 => (pc_s hγ2)))
theorem p8_f_Tk_scanWord_b102 {x1 : Int} {x2 : Int} {x3 : Int} {x4 : Int} {γ : St} (h : P8 γ) : pc (f_Tk_scanWord_b102 γ x1 x2 x3 x4) (fun z => P8 z.2) := by
  unfold f_Tk_scanWord_b102
  exact (pc_b8 (p8_f_Tk_add  h) (fun _ γ6 hγ6 => (pc_s hγ6)))
theorem p8_f_Tk_scanWord_b71 {x7 : Int} {x8 : Int} {x9 : Int} {x10 : Int} {γ : St} (h : P8 γ) : pc (f_Tk_scanWord_b71 γ x7 x8 x9 x10) (fun z => P8 z.2) := by
  unfold f_Tk_scanWord_b71
  exact (pc_i (fun _ => (pc_i (fun _ => (p8_f_Tk_scanWord_b102  h)) (fun _ => (pc_c (fun _ => (p8_f_Tk_scanWord_b102  h)))))) (fun _ => (pc_b8 (p8_f_Tk_addBad  h) (fun _ γ13 hγ13 => (pc_s hγ13)))))
theorem p8_f_Tk_scanWord_b48 {x14 : Int} {x15 : Int} {x16 : Int} {γ : St} (h : P8 γ) : pc (f_Tk_scanWord_b48 γ x14 x15 x16) (fun z => P8 z.2) := by
  unfold f_Tk_scanWord_b48
  exact (pc_c (fun _ => (pc_i (fun _ => (pc_c (fun _ => (pc_b8 (p8_f_Wd_find  h) (fun _ γ21 hγ21 => (p8_f_Tk_scanWord_b71  hγ21)))))) (fun _ => (p8_f_Tk_scanWord_b71  h)))))
theorem p8_f_Tk_scanWord_b42 {k2 : St → Int → Int → Int → Option (Int × St)} (hk2 : ∀ (γ : St) (y0 y1 y2 : Int), P8 γ → pc (k2 γ y0 y1 y2) (fun z => P8 z.2)) {e48 : St → Int → Int → Int → Option (Int × St)} (he48 : ∀ (γ : St) (y0 y1 y2 : Int), P8 γ → pc (e48 γ y0 y1 y2) (fun z => P8 z.2)) {x22 : Int} {x23 : Int} {x24 : Int} {γ : St} (h : P8 γ) : pc (f_Tk_scanWord_b42 k2 e48 γ x22 x23 x24) (fun z => P8 z.2) := by
  unfold f_Tk_scanWord_b42
  exact (pc_c (fun _ => (hk2 _ _ _ _ h)))
theorem p8_f_Tk_scanWord_L2 {e48 : St → Int → Int → Int → Option (Int × St)} (he48 : ∀ (γ : St) (y0 y1 y2 : Int), P8 γ → pc (e48 γ y0 y1 y2) (fun z => P8 z.2)) : ∀ (n : Nat) (γ : St) (y0 y1 y2 : Int), P8 γ → pc (f_Tk_scanWord_L2 e48 n γ y0 y1 y2) (fun z => P8 z.2) := by
  intro n
  induction n with
  | zero => intros; exact pc_n
  | succ n ih =>
    intro γ y0 y1 y2 h
    unfold f_Tk_scanWord_L2
    exact (pc_i (fun _ => (he48 _ _ _ _ h)) (fun _ => (pc_c (fun _ => (pc_b8 (p8_f_Tk_isLetter  h) (fun _ γ38 hγ38 => (pc_i (fun _ => (p8_f_Tk_scanWord_b42 ih he48 hγ38)) (fun _ => (pc_c (fun _ => (pc_b8 (p8_f_Tk_isDigit  hγ38) (fun _ γ42 hγ42 => (pc_i (fun _ => (p8_f_Tk_scanWord_b42 ih he48 hγ42)) (fun _ => (pc_c (fun _ => (pc_i (fun _ => (he48 _ _ _ _ hγ42)) (fun _ => (p8_f_Tk_scanWord_b42 ih he48 hγ42)))))))))))))))))))
theorem p8_f_Tk_scanWord {a0 : Int} {a1 : Int} {γ : St} (h : P8 γ) : pc (f_Tk_scanWord γ a0 a1) (fun z => P8 z.2) := by
  unfold f_Tk_scanWord
  exact (p8_f_Tk_scanWord_L2 (fun _ _ _ _ h => p8_f_Tk_scanWord_b48  h) _ _ _ _ _ h)
theorem p8_f_Tk_scanNumber_b45 {x1 : Int} {x2 : Int} {x3 : Int} {x4 : Int} {γ : St} (h : P8 γ) : pc (f_Tk_scanNumber_b45 γ x1 x2 x3 x4) (fun z => P8 z.2) := by
  unfold f_Tk_scanNumber_b45
  exact (pc_c (fun _ => (pc_i (fun _ => (pc_b8 (p8_f_Tk_add  h) (fun _ γ7 hγ7 => (pc_s hγ7)))) (fun _ => (pc_b8 (p8_f_Tk_addBad  h) (fun _ γ9 hγ9 => (pc_s hγ9)))))))
theorem p8_f_Tk_scanNumber_L5 {e45 : St → Int → Int → Int → Int → Option (Int × St)} (he45 : ∀ (γ : St) (y0 y1 y2 y3 : Int), P8 γ → pc (e45 γ y0 y1 y2 y3) (fun z => P8 z.2)) : ∀ (n : Nat) (γ : St) (y0 y1 y2 y3 : Int), P8 γ → pc (f_Tk_scanNumber_L5 e45 n γ y0 y1 y2 y3) (fun z => P8 z.2) := by
  intro n
  induction n with
  | zero => intros; exact pc_n
  | succ n ih =>
    intro γ y0 y1 y2 y3 h
    unfold f_Tk_scanNumber_L5
    exact (pc_i (fun _ => (he45 _ _ _ _ _ h)) (fun _ => (pc_c (fun _ => (pc_b8 (p8_f_Tk_isDigit  h) (fun _ γ17 hγ17 => (pc_i (fun _ => (he45 _ _ _ _ _ hγ17)) (fun _ => (pc_c (fun _ => (pc_a (pc_c (fun _ => (ih _ _ _ _ _ hγ17))))))))))))))
theorem p8_f_Tk_scanNumber {a0 : Int} {a1 : Int} {γ : St} (h : P8 γ) : pc (f_Tk_scanNumber γ a0 a1) (fun z => P8 z.2) := by
  unfold f_Tk_scanNumber
  exact (p8_f_Tk_scanNumber_L5 (fun _ _ _ _ _ h => p8_f_Tk_scanNumber_b45  h) _ _ _ _ _ _ h)
theorem p8_f_Tk_lineEnd_L2  : ∀ (n : Nat) (γ : St) (y0 y1 : Int), P8 γ → pc (f_Tk_lineEnd_L2 n γ y0 y1) (fun z => P8 z.2) := by
  intro n
  induction n with
  | zero => intros; exact pc_n
  | succ n ih =>
    intro γ y0 y1 h
    unfold f_Tk_lineEnd_L2
    exact (pc_i (fun _ => (pc_s h)) (fun _ => (pc_c (fun _ => (pc_i (fun _ => (pc_s h)) (fun _ => (pc_c (fun _ => (ih _ _ _ h)))))))))
theorem p8_f_Tk_lineEnd {a0 : Int} {a1 : Int} {γ : St} (h : P8 γ) : pc (f_Tk_lineEnd γ a0 a1) (fun z => P8 z.2) := by
  unfold f_Tk_lineEnd
  exact (p8_f_Tk_lineEnd_L2  _ _ _ _ h)
theorem p8_f_Tk_signOfTwo {a0 : Int} {a1 : Int} {γ : St} (h : P8 γ) : pc (f_Tk_signOfTwo γ a0 a1) (fun z => P8 z.2) := by
  unfold f_Tk_signOfTwo
  exact (pc_i (fun _ => (pc_i (fun _ => (pc_s h)) (fun _ => (pc_i (fun _ => (pc_i (fun _ => (pc_s h)) (fun _ => (pc_s h)))) (fun _ => (pc_s h)))))) (fun _ => (pc_i (fun _ => (pc_i (fun _ => (pc_i (fun _ => (pc_s h)) (fun _ => (pc_s h)))) (fun _ => (pc_s h)))) (fun _ => (pc_s h)))))
theorem p8_f_Tk_signOfOne {a0 : Int} {γ : St} (h : P8 γ) : pc (f_Tk_signOfOne γ a0) (fun z => P8 z.2) := by
  unfold f_Tk_signOfOne
  exact (pc_i (fun _ => (pc_s h)) (fun _ => (pc_i (fun _ => (pc_s h)) (fun _ => (pc_i (fun _ => (pc_s h)) (fun _ => (pc_i (fun _ => (pc_s h)) (fun _ => (pc_i (fun _ => (pc_s h)) (fun _ => (pc_i (fun _ => (pc_s h)) (fun _ => (pc_i (fun _ => (pc_s h)) (fun _ => (pc_i (fun _ => (pc_s h)) (fun _ => (pc_i (fun _ => (pc_s h)) (fun _ => (pc_i (fun _ => (pc_s h)) (fun _ => (pc_i (fun _ => (pc_s h)) (fun _ => (pc_s h)))))))))))))))))))))))
theorem p8_f_Tk_scanSign {a0 : Int} {a1 : Int} {a2 : Int} {a3 : Int} {γ : St} (h : P8 γ) : pc (f_Tk_scanSign γ a0 a1 a2 a3) (fun z => P8 z.2) := by
  unfold f_Tk_scanSign
  exact (pc_b8 (p8_f_Tk_signOfTwo  h) (fun _ γ2 hγ2 => (pc_i (fun _ => (pc_b8 (p8_f_Tk_signOfOne  hγ2) (fun _ γ4 hγ4 => (pc_i (fun _ => (pc_b8 (p8_f_Tk_add  hγ4) (fun _ γ6 hγ6 => (pc_c (fun _ => (pc_s hγ6)))))) (fun _ => (pc_b8 (p8_f_Tk_addBad  hγ4) (fun _ γ9 hγ9 => (pc_s hγ9)))))))) (fun _ => (pc_b8 (p8_f_Tk_add  hγ2) (fun _ γ11 hγ11 => (pc_c (fun _ => (pc_s hγ11)))))))))
theorem p8_f_Tk_scanAt_b104 {x1 : Int} {x2 : Int} {x3 : Int} {x4 : Int} {γ : St} (h : P8 γ) : pc (f_Tk_scanAt_b104 γ x1 x2 x3 x4) (fun z => P8 z.2) := by
  unfold f_Tk_scanAt_b104
  exact (pc_b8 (p8_f_Tk_scanSign  h) (fun _ γ6 hγ6 => (pc_s hγ6)))
theorem p8_f_Tk_scanAt_b26 {x7 : Int} {x8 : Int} {x9 : Int} {x10 : Int} {γ : St} (h : P8 γ) : pc (f_Tk_scanAt_b26 γ x7 x8 x9 x10) (fun z => P8 z.2) := by
  unfold f_Tk_scanAt_b26
  exact (pc_i (fun _ => (pc_c (fun _ => (pc_s h)))) (fun _ => (pc_i (fun _ => (pc_c (fun _ => (pc_s h)))) (fun _ => (pc_i (fun _ => (pc_c (fun _ => (pc_s h)))) (fun _ => (pc_i (fun _ => (pc_b8 (p8_f_Tk_isLetter  h) (fun _ γ15 hγ15 => (pc_i (fun _ => (pc_b8 (p8_f_Tk_isDigit  hγ15) (fun _ γ17 hγ17 => (pc_i (fun _ => (pc_i (fun _ => (p8_f_Tk_scanAt_b104  hγ17)) (fun _ => (pc_i (fun _ => (p8_f_Tk_scanAt_b104  hγ17)) (fun _ => (pc_b8 (p8_f_Tk_lineEnd  hγ17) (fun _ γ19 hγ19 => (pc_s hγ19)))))))) (fun _ => (pc_b8 (p8_f_Tk_scanNumber  hγ17) (fun _ γ21 hγ21 => (pc_s hγ21)))))))) (fun _ => (pc_b8 (p8_f_Tk_scanWord  hγ15) (fun _ γ23 hγ23 => (pc_s hγ23)))))))) (fun _ => (pc_c (fun _ => (pc_s h)))))))))))
theorem p8_f_Tk_scanAt {a0 : Int} {a1 : Int} {γ : St} (h : P8 γ) : pc (f_Tk_scanAt γ a0 a1) (fun z => P8 z.2) := by
  unfold f_Tk_scanAt
  exact (pc_c (fun _ => (pc_a (pc_c (fun _ => (pc_i (fun _ => (p8_f_Tk_scanAt_b26  h)) (fun _ => (pc_c (fun _ => (pc_c (fun _ => (p8_f_Tk_scanAt_b26  h))))))))))))
theorem p8_f_Tk_scan_b54 {x1 : Int} {γ : St} (h : P8 γ) : pc (f_Tk_scan_b54 γ x1) (fun z => P8 z.2) := by
  unfold f_Tk_scan_b54
  exact (pc_b8 (p8_f_Tk_add  h) (fun _ γ3 hγ3 => (pc_s hγ3)))
theorem p8_f_Tk_scan_L31 {e54 : St → Int → Option (Int × St)} (he54 : ∀ (γ : St) (y0 : Int), P8 γ → pc (e54 γ y0) (fun z => P8 z.2)) : ∀ (n : Nat) (γ : St) (y0 y1 y2 : Int), P8 γ → pc (f_Tk_scan_L31 e54 n γ y0 y1 y2) (fun z => P8 z.2) := by
  intro n
  induction n with
  | zero => intros; exact pc_n
  | succ n ih =>
    intro γ y0 y1 y2 h
    unfold f_Tk_scan_L31
    exact (pc_i (fun _ => (he54 _ _ h)) (fun _ => (pc_i (fun _ => (he54 _ _ h)) (fun _ => (pc_b8 (p8_f_Tk_scanAt  h) (fun _ γ8 hγ8 => (pc_c (fun _ => (ih _ _ _ _ hγ8)))))))))
theorem p8_scan {γ : St} {a0 : Int} : pc (f_Tk_scan γ a0) (fun z => P8 z.2) := by
  unfold f_Tk_scan
  exact pc_b (P := fun _ => True) (fun _ _ => trivial) (fun r γ13 _ => pc_a (pc_a (pc_a (pc_a (p8_f_Tk_scan_L31 (fun _ _ h => p8_f_Tk_scan_b54 h) _ _ _ _ _ (fun e => by rw [stA, if_pos ⟨rfl, rfl⟩]))))))
theorem pq_read3 {c : Int} {γ δ : St} {I : St → St → Prop} (hI : ∀ N γ δ, PnR N γ δ → TopI γ → TpW δ → I γ δ → pq (rdN γ) (f_M_node δ) (fun y z => ∀ r, z.1 = .inr r → y.1 ≠ 0 → I y.2 z.2)) (hIp : ∀ γ δ, LX δ → I γ δ → I γ (pkS δ)) (hI0 : ∀ γ δ, γ 3 9 = 0 → δ 0 18 = 0 → γ 1 8 = 0 → δ 0 40 = 0 → I γ δ) (hC : ClsI c γ) (hc : c < 512) (hK : KwI γ) (e10 : γ 0 10 = δ 0 1) (eb : ∀ k, 0 ≤ k → k < δ 0 1 → δ 1 k = γ 13 k) (hm : MoI c δ) {Q : Int × St → Int × St → Prop} (bad : ∀ γ' δ', γ' 1 7 ≠ 0 → RdS γ γ' → MoI c δ' → RdM δ δ' → pq (f_S_read_b101 γ') (f_M_read_h δ' (γ' 1 7) (γ' 1 8)) Q) (fin : ∀ N γ' δ', PnR N γ' δ' → TopI γ' → RdS γ γ' → RsI c δ' → RdM δ δ' → I γ' δ' → (∃ δ2, δ' = pkS δ2 ∧ LX δ2 ∧ tK δ2 = 0) → pq (f_S_read_b101 γ') (f_M_read_b113 δ') Q) : pq (f_S_read γ) (f_M_read δ) Q := by
  have ⟨b1, b2, b3, b4, b5, b6⟩ := hC
  have ⟨h1, h2, h3, h4, h5, h6, h7, h8⟩ := hm
  unfold f_S_read f_M_read
  refine pq_ar (pq_ar (pq_ar (pq_ar (pq_ar (pq_ar (pq_ar (pq_ar (pq_ar (pq_cr (fun _ => (pq_ar (pq_ar (pq_ar (pq_ar (pq_ar (pq_ar (pq_ar (pq_ar (pq_ar (pq_ar (pq_ar ?_)))))))))))))))))))))
  generalize hg : setA _ 0 83 0 = δ1
  have s : ∀ j k, (j = 0 → k < 2 ∨ 5 < k ∧ k < 9 ∨ 9 < k ∧ k < 18 ∨ 19 < k ∧ k < 30 ∨ 31 < k ∧ k < 40 ∨ 40 < k ∧ k < 49 ∨ 54 < k ∧ k < 67 ∨ 67 < k ∧ k < 72 ∨ 72 < k ∧ k < 83 ∨ 83 < k) → (j = 16 → k ≠ 0) → δ1 j k = δ j k := fun j k q1 q2 => by
    rw [← hg]
    simp only [stA]
    (repeat rw [if_neg (by omega)])
  have v : ∀ k, (k = 2 ∨ k = 3 ∨ k = 4 ∨ k = 5 ∨ k = 9 ∨ k = 18 ∨ k = 19 ∨ k = 30 ∨ k = 31 ∨ k = 40 ∨ k = 50 ∨ k = 51 ∨ k = 52 ∨ k = 53 ∨ k = 54 ∨ k = 67 ∨ k = 72 ∨ k = 83) → δ1 0 k = 0 := fun k q => by
    rw [← hg]
    rcases q with q | q | q | q | q | q | q | q | q | q | q | q | q | q | q | q | q | q <;> subst q <;> simp [stA]
  have v49 : δ1 0 49 = -1 := by rw [← hg]; simp [stA]
  have v16 : δ1 16 0 = 0 := by rw [← hg]; simp [stA]
  have e1 := s 0 1 (by omega) (by omega)
  have e5 := v 5 (by omega)
  have e18 := v 18 (by omega)
  have e19 := v 19 (by omega)
  have e30 := v 30 (by omega)
  have e31 := v 31 (by omega)
  have e40 := v 40 (by omega)
  have bo : Bo δ1 := h4.fr (fun k => s 14 k (by omega) (by omega)) (fun k => s 28 k (by omega) (by omega)) (fun k => s 25 k (by omega) (by omega))
  have m : MoI c δ1 := ⟨h1, by omega, fun k => by rw [s 1 k (by omega) (by omega)]; exact h3 k, bo, h5.fr (fun j k q => s j k (by omega) (by omega)), by rw [v 72 (by omega), s 0 82 (by omega) (by omega)]; omega, by rw [s 0 55 (by omega) (by omega)]; exact h7, Or.inl ⟨v49, v 83 (by omega)⟩⟩
  have t : TpW δ1 := by
    unfold TpW
    rw [e18, e19, e30, e31, e40, e5, v16]
    exact ⟨⟨⟨by omega, by omega, fun k => by rw [s 1 k (by omega) (by omega)]; exact h3 k, Or.inl (v 9 (by omega))⟩, by omega, fun u q1 q2 => by omega⟩, by omega, by omega, by omega, by omega, rfl, fun q => by omega, bo, fun f q1 q2 => by omega⟩
  have z0 : Z0 δ1 := ⟨v 50 (by omega), v 51 (by omega), v 52 (by omega), v 53 (by omega), v 54 (by omega), v 67 (by omega)⟩
  have frM : ∀ δ', Rf δ1 δ' → RdM δ δ' := fun δ' r => by
    refine ⟨fun k q => by rw [r.1 0 k (by omega) (by omega)]; exact s 0 k (by omega) (by omega), fun j k q => by rw [r.1 j k (by omega) (by omega)]; exact s j k (by omega) (by omega), ⟨?_, ?_, ?_, ?_, ?_⟩, ?_⟩
    · rw [r.1 0 2 (by omega) (by omega)]; exact v 2 (by omega)
    · rw [r.1 0 3 (by omega) (by omega)]; exact v 3 (by omega)
    · rw [r.1 0 4 (by omega) (by omega)]; exact v 4 (by omega)
    · rw [r.1 0 72 (by omega) (by omega)]; exact v 72 (by omega)
    · rw [r.1 0 83 (by omega) (by omega)]; exact v 83 (by omega)
    · rw [r.1 0 49 (by omega) (by omega)]; exact v49
  refine pq_al (pq_al (pq_al ?_))
  have u : ∀ j k, setA (setA (setA γ 0 12 (-1)) 0 13 0) 0 14 0 j k = if j = 0 ∧ k = 14 then 0 else if j = 0 ∧ k = 13 then 0 else if j = 0 ∧ k = 12 then -1 else γ j k := fun j k => by rw [stA, stA, stA]
  generalize setA (setA (setA γ 0 12 (-1)) 0 13 0) 0 14 0 = γ1 at *
  have uo : ∀ (j : Nat) (k : Int), j ≠ 0 ∨ k < 12 ∨ 14 < k → γ1 j k = γ j k := fun j k q => by rw [u, if_neg (by omega), if_neg (by omega), if_neg (by omega)]
  rw [uo 0 10 (by omega), e10]
  have sc := s2_scan (γ := γ1) (L := δ 0 1) (by omega) (fun i q1 q2 => by rw [uo 13 i (by omega)]; exact hK i q1 q2) (fun k q1 q2 => by rw [uo 13 k (by omega), ← eb k q1 q2]; exact h3 k)
  refine pq_bl (wp_pc sc p8_scan).pc (fun r γ2 y => pq_al ?_)
  obtain ⟨⟨⟨y1, y2, y3, y4, y5⟩, y6⟩, y7⟩ := y
  have y7 : P8 γ2 := y7
  have y1 : TkR γ2 := y1
  have y2 : FrT γ1 γ2 := y2
  have y3 : γ2 1 7 = 0 := y3
  have y4 : γ2 1 6 = 0 := y4
  have y5 : ∀ w, 0 ≤ w → w < γ2 2 8 → γ2 22 w = 0 ∧ γ2 23 w = 0 := y5
  have y6 : TsE γ2 (δ 0 1) := y6
  obtain ⟨N, ts⟩ := y6.n
  unfold f_Nd_begin f_Cd_begin
  show pq (f_S_read_L49 f_S_read_b101 FU (setA (setA (setA (setA (setA (setA γ2 0 10 0) 3 9 0) 3 15 0) 4 4 0) 4 10 0) 4 12 0) 1 0) _ _
  have w : ∀ j k, setA (setA (setA (setA (setA (setA γ2 0 10 0) 3 9 0) 3 15 0) 4 4 0) 4 10 0) 4 12 0 j k = if j = 4 ∧ (k = 12 ∨ k = 10 ∨ k = 4) then 0 else if j = 3 ∧ (k = 15 ∨ k = 9) then 0 else if j = 0 ∧ k = 10 then 0 else γ2 j k := fun j k => by
    simp only [stA]
    grind
  generalize setA (setA (setA (setA (setA (setA γ2 0 10 0) 3 9 0) 3 15 0) 4 4 0) 4 10 0) 4 12 0 = γ3 at *
  have wo : ∀ (j : Nat) (k : Int), j ≠ 4 → j ≠ 3 → (j ≠ 0 ∨ k ≠ 10) → γ3 j k = γ2 j k := fun j k q1 q2 q3 => by rw [w, if_neg (by omega), if_neg (by omega), if_neg (by omega)]
  have v39 : γ3 3 9 = 0 := by rw [w]; simp
  have v315 : γ3 3 15 = 0 := by rw [w]; simp
  have v44 : γ3 4 4 = 0 := by rw [w]; simp
  have v410 : γ3 4 10 = 0 := by rw [w]; simp
  have v412 : γ3 4 12 = 0 := by rw [w]; simp
  have v010 : γ3 0 10 = 0 := by rw [w]; simp
  have g28 := wo 2 8 (by omega) (by omega) (by omega)
  have o2 : ∀ k, γ3 1 k = γ2 1 k := fun k => wo 1 k (by omega) (by omega) (by omega)
  have g6 : γ3 1 6 = 0 := by rw [o2]; exact y4
  have g7 : γ3 1 7 = 0 := by rw [o2]; exact y3
  have hTop : TopI γ3 := by
    refine ⟨y1.ext (fun j k q => wo j k (by omega) (by omega) (by omega)), by omega, by omega, ⟨by omega, by omega, by omega, by rw [v44, v410]; rfl, fun e q1 q2 => by omega, fun q => by omega, fun e q1 q2 => by omega⟩, fun n q1 q2 => by omega, fun w q1 q2 => ?_⟩
    rw [g28] at q2
    have := y5 w q1 q2
    rw [v39, wo 22 w (by omega) (by omega) (by omega), wo 23 w (by omega) (by omega) (by omega)]
    omega
  have frS : ∀ γ', FrX γ3 γ' → RdS γ γ' := fun γ' r => by
    have q0 : ∀ k, γ' 0 k = γ3 0 k := fun k => r 0 k (by omega)
    have q2 : ∀ k, k ≠ 10 → γ3 0 k = γ1 0 k := fun k q => by rw [wo 0 k (by omega) (by omega) (by omega)]; exact y2 0 k (by omega) (by omega) (by omega)
    refine ⟨fun j k q => ?_, by rw [q0]; exact v010, ?_, ?_, ?_⟩
    · rw [r j k (by omega), wo j k (by omega) (by omega) (by omega), y2 j k (by omega) (by omega) (by omega), u, if_neg (by omega), if_neg (by omega), if_neg (by omega)]
    · rw [q0, q2 12 (by omega), u]; simp
    · rw [q0, q2 13 (by omega), u]; simp
    · rw [q0, q2 14 (by omega), u]; simp
  have e13 : ∀ k, γ3 13 k = γ 13 k := fun k => by rw [wo 13 k (by omega) (by omega) (by omega), y2 13 k (by omega) (by omega) (by omega)]; exact uo 13 k (by omega)
  have ts3 : TsN γ3 (δ 0 1) N := ts.fr (fun j k q => wo j k (by omega) (by omega) (by omega)) (o2 5) g28
  have bN := ts3.2.1
  have lx : LexR N γ3 δ1 := by
    refine ⟨t.1.1, fun k q1 q2 => ?_, by rw [e1]; exact ts3, by omega, ?_⟩
    · rw [e1] at q2
      rw [s 1 k (by omega) (by omega), e13]; exact eb k q1 q2
    · have a := (ts3.2.2.1 0 (Int.le_refl _) (by omega)).1
      unfold nxP at a
      rw [if_pos rfl] at a
      rw [g6, a]
      unfold sk
      rw [e1, e5]
      exact skP_ag (fun k q1 q2 => by rw [s 1 k (by omega) (by omega), e13]; exact eb k q1 q2) (Int.le_refl _)
  have pn : PnR N γ3 δ1 := by
    refine ⟨⟨⟨lx, by rw [o2]; exact y3⟩, ⟨fun w q1 q2 q3 => ?_, fun k q1 q2 => by exfalso; omega⟩, ⟨by omega, by omega, by omega, by omega⟩, fun w q1 q2 => ?_, fun k q1 q2 => by exfalso; omega⟩, fun f q1 q2 => by exfalso; omega, ⟨⟨by omega, by omega⟩, fun k q1 q2 => by exfalso; omega, fun k q1 q2 => by exfalso; omega⟩, ⟨⟨by omega, by omega⟩, fun k q1 q2 => by exfalso; omega⟩, fun f q1 q2 => by exfalso; omega, fun f q1 q2 => by exfalso; omega⟩
    · rw [g28] at q2
      exact absurd ((wo 23 w (by omega) (by omega) (by omega)).trans (y5 w q1 q2).2) q3
    · rw [g28] at q2
      have a := (wo 22 w (by omega) (by omega) (by omega)).trans (y5 w q1 q2).1
      omega
  exact pq_rdL2 (γ0 := γ3) (δ0 := δ1) (c := c) (hI N) hIp (fun γ' δ' q1 q2 q3 q4 q5 => bad γ' δ' q1 (frS γ' q2) q3 (frM δ' q5)) (fun γ' δ' q1 q2 q3 q4 q5 q6 q7 => fin N γ' δ' q1 q2 (frS γ' q3) q4 (frM δ' q5) q6 q7) FU FU γ3 δ1 0 pn hTop FrX.rf m v49 t z0 Rf.rf (by omega) (hI0 γ3 δ1 (by rw [pn.1.2.2.1.1]; omega) (by omega) (by rw [o2]; exact y7 y3) e40)
def KeJ (γ δ : St) : Prop := KeI γ δ ∧ γ 1 8 = 0
theorem kj_node (N : Int) (γ δ : St) (h : PnR N γ δ) (ht : TopI γ) (t : TpW δ) (hi : KeJ γ δ) : pq (rdN γ) (f_M_node δ) (fun y z => ∀ r, z.1 = .inr r → y.1 ≠ 0 → KeJ y.2 z.2) := by
  intro y z e1 e2 r hr hy
  have p := pq_node h t y z e1 e2
  have p8 := p8_rdN (fun _ => hi.2) y e1
  refine ⟨ke_node N γ δ h ht t hi.1 y z e1 e2 r hr hy, p8 ?_⟩
  obtain ⟨y1, y2⟩ := y
  obtain ⟨z1, z2⟩ := z
  have hr : z1 = .inr r := hr
  subst hr
  exact p.go.2.1.1.2
theorem kj_pk (γ δ : St) (h : LX δ) (k : KeJ γ δ) : KeJ γ (pkS δ) := ⟨ke_pk γ δ h k.1, k.2⟩
theorem pq_rd3 {c : Int} {γ δ : St} (hC : ClsI c γ) (hc : c < 512) (hK : KwI γ) (e10 : γ 0 10 = δ 0 1) (eb : ∀ k, 0 ≤ k → k < δ 0 1 → δ 1 k = γ 13 k) (hm : MoI c δ) (e11 : γ 0 11 = δ 0 55) {Q : Int × St → Int × St → Prop} (bad : ∀ γ' δ', γ' 1 7 ≠ 0 → γ' 0 11 = δ' 0 55 → (γ' 0 10 = 0 ∧ γ' 0 12 = -1 ∧ γ' 0 13 = 0 ∧ γ' 0 14 = 0) → (∀ k, γ' 13 k = γ 13 k) → (δ' 0 49 = -1 ∧ δ' 0 72 = 0 ∧ δ' 0 83 = 0 ∧ δ' 0 2 = 0) → (∀ k, δ' 1 k = δ 1 k) → Q (-1, γ') (-1, enS (setA (setA δ' 0 3 (γ' 1 7)) 0 4 (γ' 1 8)))) (ok : ∀ γ' δ' γ6 γ9 δ3 δ5 δ7, RdK c γ δ γ' δ' γ6 γ9 δ3 δ5 δ7 → γ' 0 11 = δ' 0 55 → γ' 1 7 = 0 ∧ γ' 1 8 = 0 → pq (rdB γ9) (chk (i32 ((δ7 0 18) - 1)) (ap (setA δ7 0 49 ((δ7 0 18) - 1)) fun γ17 => f_M_read_b292 γ17)) Q) : pq (f_S_read γ) (f_M_read δ) Q := by
  refine pq_read3 (I := KeJ) kj_node kj_pk (fun γ δ h1 h2 h3 _ => ⟨⟨fun f q1 q2 => by exfalso; omega, fun f q1 q2 => by exfalso; omega⟩, h3⟩) hC hc hK e10 eb hm (fun γ' δ' q1 q2 q3 q4 => ?_) (fun N γ' δ' q1 q2 q3 q4 q5 q6 q7 => ?_)
  · have ⟨s1, s2, s3, s4, s5⟩ := q2
    have ⟨m1, m2, m3, m4⟩ := q4
    unfold f_S_read_b101
    rw [if_pos q1]
    exact pq_b177 s3 m4 (bad γ' δ' q1 (by rw [s1 0 11 (by omega), m1 55 (by omega)]; exact e11) ⟨s2, s3, s4, s5⟩ (fun k => s1 13 k (by omega)) ⟨m4, m3.2.2.2.1, m3.2.2.2.2, m3.1⟩ (fun k => m2 1 k (by omega)))
  · have ⟨s1, s2, s3, s4, s5⟩ := q3
    have ⟨m1, m2, m3, m4⟩ := q5
    have e : γ' 0 11 = δ' 0 55 := by rw [s1 0 11 (by omega), m1 55 (by omega)]; exact e11
    refine pq_end q1 q2 q4 q6.1.1 q6.1.2 q7 e (fun γ2 δ2 w1 w2 w3 w4 w5 => ?_) (fun γ6 γ9 δ3 δ5 δ7 w => ok γ' δ' γ6 γ9 δ3 δ5 δ7 ⟨⟨N, q1⟩, q2, q3, q4, q5, w⟩ e ⟨q1.1.1.2, q6.2⟩)
    refine pq_b177 (by rw [w3 12 (by omega)]; exact s3) (by rw [w5 0 49 (by omega) (by omega)]; exact m4) (bad γ2 δ2 w1 w2 ⟨by rw [w3 10 (by omega)]; exact s2, by rw [w3 12 (by omega)]; exact s3, by rw [w3 13 (by omega)]; exact s4, by rw [w3 14 (by omega)]; exact s5⟩ (fun k => by rw [w4]; exact s1 13 k (by omega)) ⟨by rw [w5 0 49 (by omega) (by omega)]; exact m4, by rw [w5 0 72 (by omega) (by omega)]; exact m3.2.2.2.1, by rw [w5 0 83 (by omega) (by omega)]; exact m3.2.2.2.2, by rw [w5 0 2 (by omega) (by omega)]; exact m3.1⟩ (fun k => by rw [w5 1 k (by omega) (by omega)]; exact m2 1 k (by omega)))
