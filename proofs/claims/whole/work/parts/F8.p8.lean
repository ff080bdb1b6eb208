/-! equality: a place is kept only with a fault -/
def P8 (γ : St) : Prop := γ 1 7 = 0 → γ 1 8 = 0
theorem pc_as {β : Type} {γ : St} {j : Nat} {i v : Int} {k : St → Option β} {P : β → Prop} (h : P8 γ) (q : ¬ (j = 1 ∧ (i = 7 ∨ i = 8))) (kk : ∀ γ', P8 γ' → pc (k γ') P) : pc (ap (setA γ j i v) k) P := kk _ (fun e => by rw [stA, if_neg (by omega)] at e ⊢; exact h e)
theorem pc_b8 {β : Type} {c : Option (Int × St)} {K : Int → St → Option β} {Q : β → Prop} (h : pc c (fun z => P8 z.2)) (k : ∀ r γ', P8 γ' → pc (K r γ') Q) : pc (bndN c K) Q := pc_b h (fun r γ' q => k r γ' q)
theorem p8_f_Tk_fail {a0 : Int} (na0 : a0 ≠ 0) {γ : St} (h : P8 γ) : pc (f_Tk_fail γ a0) (fun z => P8 z.2) := by
  unfold f_Tk_fail
  refine pc_i (fun _ => pc_s h) (fun _ => pc_a (pc_c (fun _ => pc_a (pc_s (fun e => absurd ?_ na0)))))
  simpa [stA] using e
theorem p8_f_Tk_failAt {a0 a1 : Int} (na0 : a0 ≠ 0) {γ : St} (h : P8 γ) : pc (f_Tk_failAt γ a0 a1) (fun z => P8 z.2) := by
  unfold f_Tk_failAt
  refine pc_i (fun _ => pc_s h) (fun _ => pc_a (pc_a (pc_s (fun e => absurd ?_ na0))))
  simpa [stA] using e
theorem p8_f_Tk_kindNow  {γ : St} (h : P8 γ) : pc (f_Tk_kindNow γ) (fun z => P8 z.2) := by
  unfold f_Tk_kindNow
  exact (pc_c (fun _ => (pc_s h)))
theorem p8_f_Tk_step  {γ : St} (h : P8 γ) : pc (f_Tk_step γ) (fun z => P8 z.2) := by
  unfold f_Tk_step
  exact (pc_c (fun _ => (pc_i (fun _ => (pc_s h)) (fun _ => (pc_c (fun _ => (pc_as h (by omega) (fun γ6 hγ6 => (pc_s hγ6)))))))))
theorem p8_f_Tk_expect {a0 : Int} {γ : St} (h : P8 γ) : pc (f_Tk_expect γ a0) (fun z => P8 z.2) := by
  unfold f_Tk_expect
  exact (pc_c (fun _ => (pc_i (fun _ => (pc_b8 (p8_f_Tk_step  h) (fun _ γ5 hγ5 => (pc_s hγ5)))) (fun _ => (pc_b8 (p8_f_Tk_fail (by decide) h) (fun _ γ7 hγ7 => (pc_s hγ7)))))))
theorem p8_f_Tk_itemNow  {γ : St} (h : P8 γ) : pc (f_Tk_itemNow γ) (fun z => P8 z.2) := by
  unfold f_Tk_itemNow
  exact (pc_c (fun _ => (pc_s h)))
theorem p8_f_Tk_placeNow  {γ : St} (h : P8 γ) : pc (f_Tk_placeNow γ) (fun z => P8 z.2) := by
  unfold f_Tk_placeNow
  exact (pc_c (fun _ => (pc_s h)))
theorem p8_f_Tk_kindNext  {γ : St} (h : P8 γ) : pc (f_Tk_kindNext γ) (fun z => P8 z.2) := by
  unfold f_Tk_kindNext
  exact (pc_c (fun _ => (pc_i (fun _ => (pc_s h)) (fun _ => (pc_c (fun _ => (pc_c (fun _ => (pc_s h)))))))))
theorem p8_f_Nd_open {a0 : Int} {a1 : Int} {γ : St} (h : P8 γ) : pc (f_Nd_open γ a0 a1) (fun z => P8 z.2) := by
  unfold f_Nd_open
  exact (pc_c (fun _ => (pc_as h (by omega) (fun γ3 hγ3 => (pc_c (fun _ => (pc_as hγ3 (by omega) (fun γ7 hγ7 => (pc_c (fun _ => (pc_as hγ7 (by omega) (fun γ10 hγ10 => (pc_c (fun _ => (pc_as hγ10 (by omega) (fun γ13 hγ13 => (pc_c (fun _ => (pc_as hγ13 (by omega) (fun γ16 hγ16 => (pc_c (fun _ => (pc_as hγ16 (by omega) (fun γ19 hγ19 => (pc_s hγ19)))))))))))))))))))))))))
theorem p8_f_Nd_declare  {γ : St} (h : P8 γ) : pc (f_Nd_declare γ) (fun z => P8 z.2) := by
  unfold f_Nd_declare
  exact (pc_c (fun _ => (pc_as h (by omega) (fun γ3 hγ3 => (pc_c (fun _ => (pc_as hγ3 (by omega) (fun γ6 hγ6 => (pc_c (fun _ => (pc_as hγ6 (by omega) (fun γ9 hγ9 => (pc_c (fun _ => (pc_as hγ9 (by omega) (fun γ12 hγ12 => (pc_c (fun _ => (pc_as hγ12 (by omega) (fun γ15 hγ15 => (pc_c (fun _ => (pc_c (fun _ => (pc_c (fun _ => (pc_as hγ15 (by omega) (fun γ20 hγ20 => (pc_c (fun _ => (pc_c (fun _ => (pc_s hγ20)))))))))))))))))))))))))))))))))
theorem p8_f_Er_variableNow  {γ : St} (h : P8 γ) : pc (f_Er_variableNow γ) (fun z => P8 z.2) := by
  unfold f_Er_variableNow
  exact (pc_c (fun _ => (pc_a (pc_c (fun _ => (pc_c (fun _ => (pc_i (fun _ => (pc_s h)) (fun _ => (pc_c (fun _ => (pc_s h))))))))))))
theorem p8_f_Er_readClock_b105  {γ : St} (h : P8 γ) : pc (f_Er_readClock_b105 γ) (fun z => P8 z.2) := by
  unfold f_Er_readClock_b105
  exact (pc_b8 (p8_f_Tk_fail (by decide) h) (fun _ γ3 hγ3 => (pc_s hγ3)))
theorem p8_f_Er_readClock_b36 {x4 : Int} {x5 : Int} {γ : St} (h : P8 γ) : pc (f_Er_readClock_b36 γ x4 x5) (fun z => P8 z.2) := by
  unfold f_Er_readClock_b36
  exact (pc_b8 (p8_f_Tk_kindNow  h) (fun _ γ8 hγ8 => (pc_i (fun _ => (pc_b8 (p8_f_Er_variableNow  hγ8) (fun _ γ10 hγ10 => (pc_c (fun _ => (pc_c (fun _ => (pc_a (pc_i (fun _ => (p8_f_Er_readClock_b105  hγ10)) (fun _ => (pc_i (fun _ => (p8_f_Er_readClock_b105  hγ10)) (fun _ => (pc_c (fun _ => (pc_i (fun _ => (pc_c (fun _ => (pc_i (fun _ => (pc_b8 (p8_f_Tk_step  hγ10) (fun _ γ26 hγ26 => (pc_c (fun _ => (pc_c (fun _ => (pc_s hγ26)))))))) (fun _ => (pc_b8 (p8_f_Tk_fail (by decide) hγ10) (fun _ γ31 hγ31 => (pc_s hγ31)))))))) (fun _ => (p8_f_Er_readClock_b105  hγ10))))))))))))))))) (fun _ => (pc_b8 (p8_f_Tk_fail (by decide) hγ8) (fun _ γ34 hγ34 => (pc_s hγ34)))))))
theorem p8_f_Er_readClock_b24 {x35 : Int} {x36 : Int} {γ : St} (h : P8 γ) : pc (f_Er_readClock_b24 γ x35 x36) (fun z => P8 z.2) := by
  unfold f_Er_readClock_b24
  exact (pc_i (fun _ => (p8_f_Er_readClock_b36  h)) (fun _ => (pc_b8 (p8_f_Tk_step  h) (fun _ γ39 hγ39 => (p8_f_Er_readClock_b36  hγ39)))))
theorem p8_f_Er_readClock {a0 : Int} {γ : St} (h : P8 γ) : pc (f_Er_readClock γ a0) (fun z => P8 z.2) := by
  unfold f_Er_readClock
  exact (pc_b8 (p8_f_Tk_step  h) (fun _ γ42 hγ42 => (pc_b8 (p8_f_Tk_kindNow  hγ42) (fun _ γ45 hγ45 => (pc_i (fun _ => (p8_f_Er_readClock_b24  hγ45)) (fun _ => (p8_f_Er_readClock_b24  hγ45)))))))
theorem p8_f_Cd_openEquation {a0 : Int} {γ : St} (h : P8 γ) : pc (f_Cd_openEquation γ a0) (fun z => P8 z.2) := by
  unfold f_Cd_openEquation
  exact (pc_c (fun _ => (pc_as h (by omega) (fun γ3 hγ3 => (pc_c (fun _ => (pc_as hγ3 (by omega) (fun γ7 hγ7 => (pc_c (fun _ => (pc_as hγ7 (by omega) (fun γ11 hγ11 => (pc_c (fun _ => (pc_as hγ11 (by omega) (fun γ14 hγ14 => (pc_s hγ14)))))))))))))))))
theorem p8_f_Cd_addLeft {a0 : Int} {γ : St} (h : P8 γ) : pc (f_Cd_addLeft γ a0) (fun z => P8 z.2) := by
  unfold f_Cd_addLeft
  exact (pc_c (fun _ => (pc_as h (by omega) (fun γ3 hγ3 => (pc_c (fun _ => (pc_as hγ3 (by omega) (fun γ6 hγ6 => (pc_c (fun _ => (pc_c (fun _ => (pc_c (fun _ => (pc_as hγ6 (by omega) (fun γ11 hγ11 => (pc_s hγ11)))))))))))))))))
theorem p8_f_S_nesting {a0 : Int} {γ : St} (h : P8 γ) : pc (f_S_nesting γ a0) (fun z => P8 z.2) := by
  unfold f_S_nesting
  exact (pc_i (fun _ => (pc_s h)) (fun _ => (pc_i (fun _ => (pc_s h)) (fun _ => (pc_i (fun _ => (pc_s h)) (fun _ => (pc_i (fun _ => (pc_s h)) (fun _ => (pc_i (fun _ => (pc_s h)) (fun _ => (pc_i (fun _ => (pc_s h)) (fun _ => (pc_i (fun _ => (pc_s h)) (fun _ => (pc_i (fun _ => (pc_s h)) (fun _ => (pc_i (fun _ => (pc_s h)) (fun _ => (pc_i (fun _ => (pc_s h)) (fun _ => (pc_i (fun _ => (pc_s h)) (fun _ => (pc_i (fun _ => (pc_s h)) (fun _ => (pc_i (fun _ => (pc_s h)) (fun _ => (pc_i (fun _ => (pc_s h)) (fun _ => (pc_s h)))))))))))))))))))))))))))))
theorem p8_f_Er_push {a0 : Int} {a1 : Int} {γ : St} (h : P8 γ) : pc (f_Er_push γ a0 a1) (fun z => P8 z.2) := by
  unfold f_Er_push
  exact (pc_i (fun _ => (pc_c (fun _ => (pc_as h (by omega) (fun γ4 hγ4 => (pc_c (fun _ => (pc_as hγ4 (by omega) (fun γ7 hγ7 => (pc_b8 (p8_f_S_nesting  hγ7) (fun _ γ10 hγ10 => (pc_c (fun _ => (pc_as hγ10 (by omega) (fun γ12 hγ12 => (pc_as hγ12 (by omega) (fun γ13 hγ13 => (pc_c (fun _ => (pc_as hγ13 (by omega) (fun γ15 hγ15 => (pc_b8 (p8_f_Tk_step  hγ15) (fun _ γ18 hγ18 => (pc_s hγ18)))))))))))))))))))))))) (fun _ => (pc_b8 (p8_f_Tk_fail (by decide) h) (fun _ γ21 hγ21 => (pc_s hγ21)))))
theorem p8_f_Er_readCalled_b82  {γ : St} (h : P8 γ) : pc (f_Er_readCalled_b82 γ) (fun z => P8 z.2) := by
  unfold f_Er_readCalled_b82
  exact (pc_b8 (p8_f_Tk_fail (by decide) h) (fun _ γ3 hγ3 => (pc_s hγ3)))
theorem p8_f_Er_readCalled  {γ : St} (h : P8 γ) : pc (f_Er_readCalled γ) (fun z => P8 z.2) := by
  unfold f_Er_readCalled
  exact (pc_b8 (p8_f_Tk_kindNow  h) (fun _ γ6 hγ6 => (pc_i (fun _ => (pc_b8 (p8_f_Tk_itemNow  hγ6) (fun _ γ12 hγ12 => (pc_c (fun _ => (pc_c (fun _ => (pc_a (pc_i (fun _ => (pc_b8 (p8_f_Tk_step  hγ12) (fun _ γ18 hγ18 => (pc_b8 (p8_f_Tk_kindNow  hγ18) (fun _ γ21 hγ21 => (pc_i (fun _ => (p8_f_Er_readCalled_b82  hγ21)) (fun _ => (pc_b8 (p8_f_Er_push  hγ21) (fun _ γ23 hγ23 => (pc_i (fun _ => (pc_c (fun _ => (pc_c (fun _ => (pc_as hγ23 (by omega) (fun γ27 hγ27 => (pc_c (fun _ => (pc_c (fun _ => (pc_as hγ27 (by omega) (fun γ31 hγ31 => (pc_c (fun _ => (pc_c (fun _ => (pc_as hγ31 (by omega) (fun γ35 hγ35 => (pc_s hγ35)))))))))))))))))))) (fun _ => (p8_f_Er_readCalled_b82  hγ23)))))))))))) (fun _ => (pc_b8 (p8_f_Tk_fail (by decide) hγ12) (fun _ γ38 hγ38 => (pc_s hγ38))))))))))))) (fun _ => (pc_b8 (p8_f_Tk_fail (by decide) hγ6) (fun _ γ41 hγ41 => (pc_s hγ41)))))))
theorem p8_f_Cd_add {a0 : Int} {a1 : Int} {a2 : Int} {γ : St} (h : P8 γ) : pc (f_Cd_add γ a0 a1 a2) (fun z => P8 z.2) := by
  unfold f_Cd_add
  exact (pc_c (fun _ => (pc_as h (by omega) (fun γ3 hγ3 => (pc_c (fun _ => (pc_as hγ3 (by omega) (fun γ6 hγ6 => (pc_c (fun _ => (pc_as hγ6 (by omega) (fun γ9 hγ9 => (pc_c (fun _ => (pc_as hγ9 (by omega) (fun γ12 hγ12 => (pc_c (fun _ => (pc_as hγ12 (by omega) (fun γ15 hγ15 => (pc_s hγ15)))))))))))))))))))))
theorem p8_f_Er_takeAtom {a0 : Int} {a1 : Int} {γ : St} (h : P8 γ) : pc (f_Er_takeAtom γ a0 a1) (fun z => P8 z.2) := by
  unfold f_Er_takeAtom
  exact (pc_i (fun _ => (pc_b8 (p8_f_Cd_add  h) (fun _ γ4 hγ4 => (pc_c (fun _ => (pc_as hγ4 (by omega) (fun γ7 hγ7 => (pc_c (fun _ => (pc_as hγ7 (by omega) (fun γ10 hγ10 => (pc_as hγ10 (by omega) (fun γ11 hγ11 => (pc_b8 (p8_f_Tk_step  hγ11) (fun _ γ14 hγ14 => (pc_s hγ14)))))))))))))))) (fun _ => (pc_b8 (p8_f_Tk_fail (by decide) h) (fun _ γ17 hγ17 => (pc_s hγ17)))))
theorem p8_f_Er_readVariable  {γ : St} (h : P8 γ) : pc (f_Er_readVariable γ) (fun z => P8 z.2) := by
  unfold f_Er_readVariable
  exact (pc_b8 (p8_f_Er_variableNow  h) (fun _ γ2 hγ2 => (pc_i (fun _ => (pc_b8 (p8_f_Er_takeAtom  hγ2) (fun _ γ4 hγ4 => (pc_s hγ4)))) (fun _ => (pc_b8 (p8_f_Tk_fail (by decide) hγ2) (fun _ γ7 hγ7 => (pc_s hγ7)))))))
theorem p8_f_Er_readOperand  {γ : St} (h : P8 γ) : pc (f_Er_readOperand γ) (fun z => P8 z.2) := by
  unfold f_Er_readOperand
  exact (pc_i (fun _ => (pc_b8 (p8_f_Tk_kindNow  h) (fun _ γ4 hγ4 => (pc_i (fun _ => (pc_b8 (p8_f_Tk_kindNext  hγ4) (fun _ γ7 hγ7 => (pc_i (fun _ => (pc_b8 (p8_f_Er_readVariable  hγ7) (fun _ γ9 hγ9 => (pc_s hγ9)))) (fun _ => (pc_b8 (p8_f_Er_readCalled  hγ7) (fun _ γ11 hγ11 => (pc_s hγ11)))))))) (fun _ => (pc_i (fun _ => (pc_b8 (p8_f_Tk_itemNow  hγ4) (fun _ γ15 hγ15 => (pc_b8 (p8_f_Er_takeAtom  hγ15) (fun _ γ17 hγ17 => (pc_s hγ17)))))) (fun _ => (pc_i (fun _ => (pc_b8 (p8_f_Er_push  hγ4) (fun _ γ20 hγ20 => (pc_s hγ20)))) (fun _ => (pc_i (fun _ => (pc_b8 (p8_f_Er_push  hγ4) (fun _ γ23 hγ23 => (pc_s hγ23)))) (fun _ => (pc_i (fun _ => (pc_b8 (p8_f_Er_push  hγ4) (fun _ γ26 hγ26 => (pc_s hγ26)))) (fun _ => (pc_i (fun _ => (pc_i (fun _ => (pc_b8 (p8_f_Tk_fail (by decide) hγ4) (fun _ γ31 hγ31 => (pc_s hγ31)))) (fun _ => (pc_b8 (p8_f_Er_push  hγ4) (fun _ γ33 hγ33 => (pc_s hγ33)))))) (fun _ => (pc_i (fun _ => (pc_b8 (p8_f_Er_push  hγ4) (fun _ γ36 hγ36 => (pc_s hγ36)))) (fun _ => (pc_i (fun _ => (pc_b8 (p8_f_Er_push  hγ4) (fun _ γ39 hγ39 => (pc_s hγ39)))) (fun _ => (pc_i (fun _ => (pc_b8 (p8_f_Er_takeAtom  hγ4) (fun _ γ42 hγ42 => (pc_s hγ42)))) (fun _ => (pc_i (fun _ => (pc_b8 (p8_f_Er_takeAtom  hγ4) (fun _ γ45 hγ45 => (pc_s hγ45)))) (fun _ => (pc_b8 (p8_f_Tk_fail (by decide) hγ4) (fun _ γ49 hγ49 => (pc_s hγ49)))))))))))))))))))))))))) (fun _ => (pc_b8 (p8_f_Tk_fail (by decide) h) (fun _ γ82 hγ82 => (pc_s hγ82)))))
theorem p8_f_Er_readWhen  {γ : St} (h : P8 γ) : pc (f_Er_readWhen γ) (fun z => P8 z.2) := by
  unfold f_Er_readWhen
  exact (pc_c (fun _ => (pc_b8 (p8_f_Er_readClock  h) (fun _ γ7 hγ7 => (pc_i (fun _ => (pc_b8 (p8_f_Cd_add  hγ7) (fun _ γ10 hγ10 => (pc_c (fun _ => (pc_c (fun _ => (pc_c (fun _ => (pc_c (fun _ => (pc_as hγ10 (by omega) (fun γ16 hγ16 => (pc_c (fun _ => (pc_c (fun _ => (pc_i (fun _ => (pc_s hγ16)) (fun _ => (pc_b8 (p8_f_Tk_fail (by decide) hγ16) (fun _ γ23 hγ23 => (pc_i (fun _ => (pc_s hγ23)) (fun _ => (pc_s hγ23)))))))))))))))))))))))) (fun _ => (pc_s hγ7)))))))
theorem p8_f_S_rank {a0 : Int} {γ : St} (h : P8 γ) : pc (f_S_rank γ a0) (fun z => P8 z.2) := by
  unfold f_S_rank
  exact (pc_i (fun _ => (pc_s h)) (fun _ => (pc_i (fun _ => (pc_s h)) (fun _ => (pc_i (fun _ => (pc_s h)) (fun _ => (pc_i (fun _ => (pc_s h)) (fun _ => (pc_i (fun _ => (pc_s h)) (fun _ => (pc_i (fun _ => (pc_s h)) (fun _ => (pc_i (fun _ => (pc_s h)) (fun _ => (pc_i (fun _ => (pc_s h)) (fun _ => (pc_i (fun _ => (pc_s h)) (fun _ => (pc_i (fun _ => (pc_s h)) (fun _ => (pc_i (fun _ => (pc_s h)) (fun _ => (pc_i (fun _ => (pc_s h)) (fun _ => (pc_i (fun _ => (pc_s h)) (fun _ => (pc_i (fun _ => (pc_s h)) (fun _ => (pc_i (fun _ => (pc_s h)) (fun _ => (pc_i (fun _ => (pc_s h)) (fun _ => (pc_i (fun _ => (pc_s h)) (fun _ => (pc_i (fun _ => (pc_s h)) (fun _ => (pc_i (fun _ => (pc_s h)) (fun _ => (pc_i (fun _ => (pc_s h)) (fun _ => (pc_i (fun _ => (pc_s h)) (fun _ => (pc_i (fun _ => (pc_s h)) (fun _ => (pc_s h)))))))))))))))))))))))))))))))))))))))))))))
theorem p8_f_Er_reduce_b233 {k2 : St → Int → Int → Option (Int × St)} (hk2 : ∀ (γ : St) (y0 y1 : Int), P8 γ → pc (k2 γ y0 y1) (fun z => P8 z.2)) {x1 : Int} {x2 : Int} {γ : St} (h : P8 γ) : pc (f_Er_reduce_b233 k2 γ x1 x2) (fun z => P8 z.2) := by
  unfold f_Er_reduce_b233
  exact (hk2 _ _ _ h)
theorem p8_f_Er_reduce_b228 {k2 : St → Int → Int → Option (Int × St)} (hk2 : ∀ (γ : St) (y0 y1 : Int), P8 γ → pc (k2 γ y0 y1) (fun z => P8 z.2)) {x5 : Int} {γ : St} (h : P8 γ) : pc (f_Er_reduce_b228 k2 γ x5) (fun z => P8 z.2) := by
  unfold f_Er_reduce_b228
  exact (p8_f_Er_reduce_b233 hk2 h)
theorem p8_f_Er_reduce_b203 {k2 : St → Int → Int → Option (Int × St)} (hk2 : ∀ (γ : St) (y0 y1 : Int), P8 γ → pc (k2 γ y0 y1) (fun z => P8 z.2)) {x8 : Int} {x9 : Int} {x10 : Int} {x11 : Int} {γ : St} (h : P8 γ) : pc (f_Er_reduce_b203 k2 γ x8 x9 x10 x11) (fun z => P8 z.2) := by
  unfold f_Er_reduce_b203
  exact (pc_b8 (p8_f_Cd_add  h) (fun _ γ13 hγ13 => (pc_i (fun _ => (p8_f_Er_reduce_b228 hk2 hγ13)) (fun _ => (pc_b8 (p8_f_Tk_fail (by decide) hγ13) (fun _ γ16 hγ16 => (pc_i (fun _ => (p8_f_Er_reduce_b233 hk2 hγ16)) (fun _ => (p8_f_Er_reduce_b228 hk2 hγ16)))))))))
theorem p8_f_Er_reduce_b172 {k2 : St → Int → Int → Option (Int × St)} (hk2 : ∀ (γ : St) (y0 y1 : Int), P8 γ → pc (k2 γ y0 y1) (fun z => P8 z.2)) {x19 : Int} {x20 : Int} {x21 : Int} {x22 : Int} {γ : St} (h : P8 γ) : pc (f_Er_reduce_b172 k2 γ x19 x20 x21 x22) (fun z => P8 z.2) := by
  unfold f_Er_reduce_b172
  exact (pc_c (fun _ => (pc_c (fun _ => (pc_c (fun _ => (pc_as h (by omega) (fun γ27 hγ27 => (pc_i (fun _ => (p8_f_Er_reduce_b203 hk2 hγ27)) (fun _ => (p8_f_Er_reduce_b203 hk2 hγ27)))))))))))
theorem p8_f_Er_reduce_b164 {k119 : St → Int → Int → Int → Int → Int → Option (Int × St)} (hk119 : ∀ (γ : St) (y0 y1 y2 y3 y4 : Int), P8 γ → pc (k119 γ y0 y1 y2 y3 y4) (fun z => P8 z.2)) {e172 : St → Int → Int → Int → Int → Option (Int × St)} (he172 : ∀ (γ : St) (y0 y1 y2 y3 : Int), P8 γ → pc (e172 γ y0 y1 y2 y3) (fun z => P8 z.2)) {x31 : Int} {x32 : Int} {x33 : Int} {x34 : Int} {x35 : Int} {γ : St} (h : P8 γ) : pc (f_Er_reduce_b164 k119 e172 γ x31 x32 x33 x34 x35) (fun z => P8 z.2) := by
  unfold f_Er_reduce_b164
  exact (pc_c (fun _ => (hk119 _ _ _ _ _ _ h)))
theorem p8_f_Er_reduce_L119 {e172 : St → Int → Int → Int → Int → Option (Int × St)} (he172 : ∀ (γ : St) (y0 y1 y2 y3 : Int), P8 γ → pc (e172 γ y0 y1 y2 y3) (fun z => P8 z.2)) : ∀ (n : Nat) (γ : St) (y0 y1 y2 y3 y4 : Int), P8 γ → pc (f_Er_reduce_L119 e172 n γ y0 y1 y2 y3 y4) (fun z => P8 z.2) := by
  intro n
  induction n with
  | zero => intros; exact pc_n
  | succ n ih =>
    intro γ y0 y1 y2 y3 y4 h
    unfold f_Er_reduce_L119
    exact (pc_i (fun _ => (he172 _ _ _ _ _ h)) (fun _ => (pc_c (fun _ => (pc_c (fun _ => (pc_c (fun _ => (pc_i (fun _ => (pc_c (fun _ => (pc_c (fun _ => (pc_c (fun _ => (p8_f_Er_reduce_b164 ih he172 h)))))))) (fun _ => (p8_f_Er_reduce_b164 ih he172 h)))))))))))
theorem p8_f_Er_reduce_b75 {k2 : St → Int → Int → Option (Int × St)} (hk2 : ∀ (γ : St) (y0 y1 : Int), P8 γ → pc (k2 γ y0 y1) (fun z => P8 z.2)) {x65 : Int} {x66 : Int} {x67 : Int} {γ : St} (h : P8 γ) : pc (f_Er_reduce_b75 k2 γ x65 x66 x67) (fun z => P8 z.2) := by
  unfold f_Er_reduce_b75
  exact (pc_b8 (p8_f_S_nesting  h) (fun _ γ70 hγ70 => (pc_c (fun _ => (pc_as hγ70 (by omega) (fun γ72 hγ72 => (pc_c (fun _ => (pc_c (fun _ => (pc_as hγ72 (by omega) (fun γ76 hγ76 => (pc_c (fun _ => (pc_c (fun _ => (pc_a (p8_f_Er_reduce_L119 (fun _ _ _ _ _ h => p8_f_Er_reduce_b172 hk2 h) _ _ _ _ _ _ _ hγ76))))))))))))))))))
theorem p8_f_Er_reduce_L2  : ∀ (n : Nat) (γ : St) (y0 y1 : Int), P8 γ → pc (f_Er_reduce_L2 n γ y0 y1) (fun z => P8 z.2) := by
  intro n
  induction n with
  | zero => intros; exact pc_n
  | succ n ih =>
    intro γ y0 y1 h
    unfold f_Er_reduce_L2
    exact (pc_i (fun _ => (pc_c (fun _ => (pc_s h)))) (fun _ => (pc_i (fun _ => (pc_c (fun _ => (pc_s h)))) (fun _ => (pc_c (fun _ => (pc_c (fun _ => (pc_b8 (p8_f_S_rank  h) (fun _ γ94 hγ94 => (pc_i (fun _ => (pc_c (fun _ => (pc_s hγ94)))) (fun _ => (pc_c (fun _ => (pc_as hγ94 (by omega) (fun γ98 hγ98 => (pc_c (fun _ => (pc_a (pc_i (fun _ => (pc_b8 (p8_f_S_rank  hγ98) (fun _ γ104 hγ104 => (pc_i (fun _ => (p8_f_Er_reduce_b75 ih hγ104)) (fun _ => (p8_f_Er_reduce_b75 ih hγ104)))))) (fun _ => (p8_f_Er_reduce_b75 ih hγ98))))))))))))))))))))))
theorem p8_f_Er_reduce {a0 : Int} {γ : St} (h : P8 γ) : pc (f_Er_reduce γ a0) (fun z => P8 z.2) := by
  unfold f_Er_reduce
  exact (p8_f_Er_reduce_L2  _ _ _ _ h)
theorem p8_f_Er_readTwoSided_b103 {x1 : Int} {x2 : Int} {γ : St} (h : P8 γ) : pc (f_Er_readTwoSided_b103 γ x1 x2) (fun z => P8 z.2) := by
  unfold f_Er_readTwoSided_b103
  exact (pc_b8 (p8_f_Er_push  h) (fun _ γ4 hγ4 => (pc_s hγ4)))
theorem p8_f_Er_readTwoSided_b91 {x5 : Int} {x6 : Int} {γ : St} (h : P8 γ) : pc (f_Er_readTwoSided_b91 γ x5 x6) (fun z => P8 z.2) := by
  unfold f_Er_readTwoSided_b91
  exact (pc_i (fun _ => (p8_f_Er_readTwoSided_b103  h)) (fun _ => (p8_f_Er_readTwoSided_b103  h)))
theorem p8_f_Er_readTwoSided_b28 {x7 : Int} {x8 : Int} {x9 : Int} {γ : St} (h : P8 γ) : pc (f_Er_readTwoSided_b28 γ x7 x8 x9) (fun z => P8 z.2) := by
  unfold f_Er_readTwoSided_b28
  exact (pc_b8 (p8_f_Er_reduce  h) (fun _ γ11 hγ11 => (pc_i (fun _ => (pc_i (fun _ => (p8_f_Er_readTwoSided_b91  hγ11)) (fun _ => (pc_i (fun _ => (p8_f_Er_readTwoSided_b91  hγ11)) (fun _ => (pc_c (fun _ => (pc_c (fun _ => (pc_b8 (p8_f_S_rank  hγ11) (fun _ γ18 hγ18 => (pc_i (fun _ => (p8_f_Er_readTwoSided_b91  hγ18)) (fun _ => (pc_b8 (p8_f_Er_reduce  hγ18) (fun _ γ20 hγ20 => (pc_i (fun _ => (pc_s hγ20)) (fun _ => (pc_b8 (p8_f_Tk_fail (by decide) hγ20) (fun _ γ23 hγ23 => (pc_i (fun _ => (pc_s hγ23)) (fun _ => (pc_s hγ23)))))))))))))))))))))) (fun _ => (pc_s hγ11)))))
theorem p8_f_Er_readTwoSided_b21 {x24 : Int} {x25 : Int} {γ : St} (h : P8 γ) : pc (f_Er_readTwoSided_b21 γ x24 x25) (fun z => P8 z.2) := by
  unfold f_Er_readTwoSided_b21
  exact (pc_c (fun _ => (p8_f_Er_readTwoSided_b28  h)))
theorem p8_f_Er_readTwoSided_b10 {x27 : Int} {x28 : Int} {x29 : Int} {γ : St} (h : P8 γ) : pc (f_Er_readTwoSided_b10 γ x27 x28 x29) (fun z => P8 z.2) := by
  unfold f_Er_readTwoSided_b10
  exact (pc_i (fun _ => (p8_f_Er_readTwoSided_b21  h)) (fun _ => (pc_i (fun _ => (p8_f_Er_readTwoSided_b28  h)) (fun _ => (p8_f_Er_readTwoSided_b21  h)))))
theorem p8_f_Er_readTwoSided {a0 : Int} {a1 : Int} {γ : St} (h : P8 γ) : pc (f_Er_readTwoSided γ a0 a1) (fun z => P8 z.2) := by
  unfold f_Er_readTwoSided
  exact (pc_i (fun _ => (p8_f_Er_readTwoSided_b10  h)) (fun _ => (p8_f_Er_readTwoSided_b10  h)))
theorem p8_f_Er_goOnBehind {a0 : Int} {γ : St} (h : P8 γ) : pc (f_Er_goOnBehind γ a0) (fun z => P8 z.2) := by
  unfold f_Er_goOnBehind
  exact (pc_c (fun _ => (pc_c (fun _ => (pc_as h (by omega) (fun γ4 hγ4 => (pc_as hγ4 (by omega) (fun γ5 hγ5 => (pc_as hγ5 (by omega) (fun γ6 hγ6 => (pc_b8 (p8_f_Tk_step  hγ6) (fun _ γ9 hγ9 => (pc_s hγ9)))))))))))))
theorem p8_f_Er_takeInput  {γ : St} (h : P8 γ) : pc (f_Er_takeInput γ) (fun z => P8 z.2) := by
  unfold f_Er_takeInput
  exact (pc_c (fun _ => (pc_as h (by omega) (fun γ3 hγ3 => (pc_c (fun _ => (pc_a (pc_c (fun _ => (pc_c (fun _ => (pc_c (fun _ => (pc_as hγ3 (by omega) (fun γ10 hγ10 => (pc_c (fun _ => (pc_c (fun _ => (pc_c (fun _ => (pc_as hγ10 (by omega) (fun γ17 hγ17 => (pc_s hγ17))))))))))))))))))))))))
theorem p8_f_Er_closeCall  {γ : St} (h : P8 γ) : pc (f_Er_closeCall γ) (fun z => P8 z.2) := by
  unfold f_Er_closeCall
  exact (pc_c (fun _ => (pc_as h (by omega) (fun γ3 hγ3 => (pc_c (fun _ => (pc_as hγ3 (by omega) (fun γ6 hγ6 => (pc_c (fun _ => (pc_c (fun _ => (pc_b8 (p8_f_Cd_add  hγ6) (fun _ γ15 hγ15 => (pc_c (fun _ => (pc_c (fun _ => (pc_c (fun _ => (pc_as hγ15 (by omega) (fun γ22 hγ22 => (pc_c (fun _ => (pc_as hγ22 (by omega) (fun γ25 hγ25 => (pc_b8 (p8_f_Tk_step  hγ25) (fun _ γ28 hγ28 => (pc_c (fun _ => (pc_i (fun _ => (pc_s hγ28)) (fun _ => (pc_b8 (p8_f_Tk_fail (by decide) hγ28) (fun _ γ34 hγ34 => (pc_i (fun _ => (pc_s hγ34)) (fun _ => (pc_s hγ34)))))))))))))))))))))))))))))))))))))
theorem p8_f_Er_readCloser_b71 {x1 : Int} {γ : St} (h : P8 γ) : pc (f_Er_readCloser_b71 γ x1) (fun z => P8 z.2) := by
  unfold f_Er_readCloser_b71
  exact (pc_b8 (p8_f_Er_goOnBehind  h) (fun _ γ3 hγ3 => (pc_s hγ3)))
theorem p8_f_Er_readCloser_b133 {x4 : Int} {γ : St} (h : P8 γ) : pc (f_Er_readCloser_b133 γ x4) (fun z => P8 z.2) := by
  unfold f_Er_readCloser_b133
  exact (pc_b8 (p8_f_Er_takeInput  h) (fun _ γ6 hγ6 => (pc_i (fun _ => (pc_b8 (p8_f_Er_closeCall  hγ6) (fun _ γ8 hγ8 => (pc_s hγ8)))) (fun _ => (pc_b8 (p8_f_Er_goOnBehind  hγ6) (fun _ γ10 hγ10 => (pc_s hγ10)))))))
theorem p8_f_Er_readCloser_b157  {γ : St} (h : P8 γ) : pc (f_Er_readCloser_b157 γ) (fun z => P8 z.2) := by
  unfold f_Er_readCloser_b157
  exact (pc_b8 (p8_f_Tk_fail (by decide) h) (fun _ γ13 hγ13 => (pc_s hγ13)))
theorem p8_f_Er_readCloser_b116 {x14 : Int} {x15 : Int} {γ : St} (h : P8 γ) : pc (f_Er_readCloser_b116 γ x14 x15) (fun z => P8 z.2) := by
  unfold f_Er_readCloser_b116
  exact (pc_i (fun _ => (p8_f_Er_readCloser_b157  h)) (fun _ => (pc_i (fun _ => (p8_f_Er_readCloser_b133  h)) (fun _ => (pc_i (fun _ => (p8_f_Er_readCloser_b157  h)) (fun _ => (p8_f_Er_readCloser_b133  h)))))))
theorem p8_f_Er_readCloser_b77 {x16 : Int} {x17 : Int} {γ : St} (h : P8 γ) : pc (f_Er_readCloser_b77 γ x16 x17) (fun z => P8 z.2) := by
  unfold f_Er_readCloser_b77
  exact (pc_i (fun _ => (p8_f_Er_readCloser_b116  h)) (fun _ => (pc_i (fun _ => (p8_f_Er_readCloser_b116  h)) (fun _ => (pc_c (fun _ => (pc_as h (by omega) (fun γ20 hγ20 => (pc_c (fun _ => (pc_as hγ20 (by omega) (fun γ23 hγ23 => (pc_b8 (p8_f_Tk_step  hγ23) (fun _ γ26 hγ26 => (pc_s hγ26)))))))))))))))
theorem p8_f_Er_readCloser_b59 {x27 : Int} {x28 : Int} {γ : St} (h : P8 γ) : pc (f_Er_readCloser_b59 γ x27 x28) (fun z => P8 z.2) := by
  unfold f_Er_readCloser_b59
  exact (pc_i (fun _ => (p8_f_Er_readCloser_b77  h)) (fun _ => (pc_i (fun _ => (p8_f_Er_readCloser_b77  h)) (fun _ => (p8_f_Er_readCloser_b71  h)))))
theorem p8_f_Er_readCloser_b47 {x29 : Int} {x30 : Int} {γ : St} (h : P8 γ) : pc (f_Er_readCloser_b47 γ x29 x30) (fun z => P8 z.2) := by
  unfold f_Er_readCloser_b47
  exact (pc_i (fun _ => (p8_f_Er_readCloser_b59  h)) (fun _ => (pc_i (fun _ => (p8_f_Er_readCloser_b71  h)) (fun _ => (p8_f_Er_readCloser_b59  h)))))
theorem p8_f_Er_readCloser_b22 {x31 : Int} {x32 : Int} {γ : St} (h : P8 γ) : pc (f_Er_readCloser_b22 γ x31 x32) (fun z => P8 z.2) := by
  unfold f_Er_readCloser_b22
  exact (pc_i (fun _ => (p8_f_Er_readCloser_b47  h)) (fun _ => (pc_i (fun _ => (p8_f_Er_readCloser_b47  h)) (fun _ => (pc_as h (by omega) (fun γ33 hγ33 => (pc_b8 (p8_f_Tk_step  hγ33) (fun _ γ36 hγ36 => (pc_s hγ36)))))))))
theorem p8_f_Er_readCloser {a0 : Int} {γ : St} (h : P8 γ) : pc (f_Er_readCloser γ a0) (fun z => P8 z.2) := by
  unfold f_Er_readCloser
  exact (pc_i (fun _ => (p8_f_Er_readCloser_b22  h)) (fun _ => (pc_c (fun _ => (pc_c (fun _ => (p8_f_Er_readCloser_b22  h)))))))
theorem p8_f_Er_readOperator_b75 {x1 : Int} {γ : St} (h : P8 γ) : pc (f_Er_readOperator_b75 γ x1) (fun z => P8 z.2) := by
  unfold f_Er_readOperator_b75
  exact (pc_b8 (p8_f_Er_reduce  h) (fun _ γ3 hγ3 => (pc_i (fun _ => (pc_s hγ3)) (fun _ => (pc_b8 (p8_f_Er_readCloser  hγ3) (fun _ γ5 hγ5 => (pc_i (fun _ => (pc_s hγ5)) (fun _ => (pc_s hγ5)))))))))
theorem p8_f_Er_readOperator_b43 {x6 : Int} {x7 : Int} {γ : St} (h : P8 γ) : pc (f_Er_readOperator_b43 γ x6 x7) (fun z => P8 z.2) := by
  unfold f_Er_readOperator_b43
  exact (pc_b8 (p8_f_S_rank  h) (fun _ γ9 hγ9 => (pc_i (fun _ => (p8_f_Er_readOperator_b75  hγ9)) (fun _ => (pc_i (fun _ => (p8_f_Er_readOperator_b75  hγ9)) (fun _ => (pc_i (fun _ => (p8_f_Er_readOperator_b75  hγ9)) (fun _ => (pc_i (fun _ => (p8_f_Er_readOperator_b75  hγ9)) (fun _ => (pc_b8 (p8_f_Er_readTwoSided  hγ9) (fun _ γ11 hγ11 => (pc_s hγ11)))))))))))))
theorem p8_f_Er_readOperator_b27 {x12 : Int} {x13 : Int} {γ : St} (h : P8 γ) : pc (f_Er_readOperator_b27 γ x12 x13) (fun z => P8 z.2) := by
  unfold f_Er_readOperator_b27
  exact (pc_i (fun _ => (p8_f_Er_readOperator_b43  h)) (fun _ => (pc_i (fun _ => (p8_f_Er_readOperator_b43  h)) (fun _ => (pc_b8 (p8_f_Er_readWhen  h) (fun _ γ15 hγ15 => (pc_s hγ15)))))))
theorem p8_f_Er_readOperator_b26 {x16 : Int} {γ : St} (h : P8 γ) : pc (f_Er_readOperator_b26 γ x16) (fun z => P8 z.2) := by
  unfold f_Er_readOperator_b26
  exact (p8_f_Er_readOperator_b27  h)
theorem p8_f_Er_readOperator  {γ : St} (h : P8 γ) : pc (f_Er_readOperator γ) (fun z => P8 z.2) := by
  unfold f_Er_readOperator
  exact (pc_b8 (p8_f_Tk_kindNow  h) (fun _ γ19 hγ19 => (pc_i (fun _ => (p8_f_Er_readOperator_b26  hγ19)) (fun _ => (pc_i (fun _ => (p8_f_Er_readOperator_b26  hγ19)) (fun _ => (p8_f_Er_readOperator_b27  hγ19)))))))
theorem p8_f_Er_readRightSide_b97 {k57 : St → Int → Int → Option (Int × St)} (hk57 : ∀ (γ : St) (y0 y1 : Int), P8 γ → pc (k57 γ y0 y1) (fun z => P8 z.2)) {x1 : Int} {x2 : Int} {γ : St} (h : P8 γ) : pc (f_Er_readRightSide_b97 k57 γ x1 x2) (fun z => P8 z.2) := by
  unfold f_Er_readRightSide_b97
  exact (pc_c (fun _ => (hk57 _ _ _ h)))
theorem p8_f_Er_readRightSide_L57  : ∀ (n : Nat) (γ : St) (y0 y1 : Int), P8 γ → pc (f_Er_readRightSide_L57 n γ y0 y1) (fun z => P8 z.2) := by
  intro n
  induction n with
  | zero => intros; exact pc_n
  | succ n ih =>
    intro γ y0 y1 h
    unfold f_Er_readRightSide_L57
    exact (pc_i (fun _ => (pc_c (fun _ => (pc_s h)))) (fun _ => (pc_i (fun _ => (pc_c (fun _ => (pc_s h)))) (fun _ => (pc_i (fun _ => (pc_c (fun _ => (pc_s h)))) (fun _ => (pc_i (fun _ => (pc_b8 (p8_f_Er_readOperator  h) (fun _ γ16 hγ16 => (p8_f_Er_readRightSide_b97 ih hγ16)))) (fun _ => (pc_b8 (p8_f_Er_readOperand  h) (fun _ γ18 hγ18 => (p8_f_Er_readRightSide_b97 ih hγ18)))))))))))
theorem p8_f_Er_readRightSide_b54 {x19 : Int} {γ : St} (h : P8 γ) : pc (f_Er_readRightSide_b54 γ x19) (fun z => P8 z.2) := by
  unfold f_Er_readRightSide_b54
  exact (p8_f_Er_readRightSide_L57  _ _ _ _ h)
theorem p8_f_Er_readRightSide_b49  {γ : St} (h : P8 γ) : pc (f_Er_readRightSide_b49 γ) (fun z => P8 z.2) := by
  unfold f_Er_readRightSide_b49
  exact (p8_f_Er_readRightSide_b54  h)
theorem p8_f_Er_readRightSide {a0 : Int} {γ : St} (h : P8 γ) : pc (f_Er_readRightSide γ a0) (fun z => P8 z.2) := by
  unfold f_Er_readRightSide
  exact (pc_as h (by omega) (fun γ20 hγ20 => (pc_as hγ20 (by omega) (fun γ21 hγ21 => (pc_as hγ21 (by omega) (fun γ22 hγ22 => (pc_c (fun _ => (pc_as hγ22 (by omega) (fun γ24 hγ24 => (pc_as hγ24 (by omega) (fun γ25 hγ25 => (pc_as hγ25 (by omega) (fun γ26 hγ26 => (pc_as hγ26 (by omega) (fun γ27 hγ27 => (pc_i (fun _ => (p8_f_Er_readRightSide_b49  hγ27)) (fun _ => (pc_b8 (p8_f_Er_readCalled  hγ27) (fun _ γ30 hγ30 => (pc_i (fun _ => (p8_f_Er_readRightSide_b54  hγ30)) (fun _ => (p8_f_Er_readRightSide_b49  hγ30)))))))))))))))))))))))
theorem p8_f_Cd_closeEquation  {γ : St} (h : P8 γ) : pc (f_Cd_closeEquation γ) (fun z => P8 z.2) := by
  unfold f_Cd_closeEquation
  exact (pc_c (fun _ => (pc_as h (by omega) (fun γ4 hγ4 => (pc_c (fun _ => (pc_as hγ4 (by omega) (fun γ7 hγ7 => (pc_s hγ7)))))))))
theorem p8_f_Nd_close_b130 {x1 : Int} {x2 : Int} {x3 : Int} {γ : St} (h : P8 γ) : pc (f_Nd_close_b130 γ x1 x2 x3) (fun z => P8 z.2) := by
  unfold f_Nd_close_b130
  exact (pc_c (fun _ => (pc_as h (by omega) (fun γ5 hγ5 => (pc_c (fun _ => (pc_as hγ5 (by omega) (fun γ7 hγ7 => (pc_c (fun _ => (pc_as hγ7 (by omega) (fun γ10 hγ10 => (pc_s hγ10)))))))))))))
theorem p8_f_Nd_close_b124 {k60 : St → Int → Int → Int → Int → Option (Int × St)} (hk60 : ∀ (γ : St) (y0 y1 y2 y3 : Int), P8 γ → pc (k60 γ y0 y1 y2 y3) (fun z => P8 z.2)) {e130 : St → Int → Int → Int → Option (Int × St)} (he130 : ∀ (γ : St) (y0 y1 y2 : Int), P8 γ → pc (e130 γ y0 y1 y2) (fun z => P8 z.2)) {x11 : Int} {x12 : Int} {x13 : Int} {x14 : Int} {γ : St} (h : P8 γ) : pc (f_Nd_close_b124 k60 e130 γ x11 x12 x13 x14) (fun z => P8 z.2) := by
  unfold f_Nd_close_b124
  exact (pc_c (fun _ => (hk60 _ _ _ _ _ h)))
theorem p8_f_Nd_close_L60 {e130 : St → Int → Int → Int → Option (Int × St)} (he130 : ∀ (γ : St) (y0 y1 y2 : Int), P8 γ → pc (e130 γ y0 y1 y2) (fun z => P8 z.2)) : ∀ (n : Nat) (γ : St) (y0 y1 y2 y3 : Int), P8 γ → pc (f_Nd_close_L60 e130 n γ y0 y1 y2 y3) (fun z => P8 z.2) := by
  intro n
  induction n with
  | zero => intros; exact pc_n
  | succ n ih =>
    intro γ y0 y1 y2 y3 h
    unfold f_Nd_close_L60
    exact (pc_i (fun _ => (he130 _ _ _ _ h)) (fun _ => (pc_c (fun _ => (pc_i (fun _ => (p8_f_Nd_close_b124 ih he130 h)) (fun _ => (pc_c (fun _ => (pc_a (pc_c (fun _ => (pc_c (fun _ => (pc_a (pc_c (fun _ => (pc_c (fun _ => (pc_a (p8_f_Nd_close_b124 ih he130 h))))))))))))))))))))
theorem p8_f_Nd_close  {γ : St} (h : P8 γ) : pc (f_Nd_close γ) (fun z => P8 z.2) := by
  unfold f_Nd_close
  exact (pc_a (pc_c (fun _ => (pc_c (fun _ => (pc_c (fun _ => (pc_as h (by omega) (fun γ51 hγ51 => (pc_c (fun _ => (pc_c (fun _ => (pc_a (pc_c (fun _ => (pc_c (fun _ => (pc_c (fun _ => (pc_a (pc_c (fun _ => (pc_a (p8_f_Nd_close_L60 (fun _ _ _ _ h => p8_f_Nd_close_b130  h) _ _ _ _ _ _ hγ51)))))))))))))))))))))))))
theorem p8_f_Nr_readNodeName  {γ : St} (h : P8 γ) : pc (f_Nr_readNodeName γ) (fun z => P8 z.2) := by
  unfold f_Nr_readNodeName
  exact (pc_b8 (p8_f_Tk_kindNow  h) (fun _ γ3 hγ3 => (pc_i (fun _ => (pc_b8 (p8_f_Tk_itemNow  hγ3) (fun _ γ6 hγ6 => (pc_c (fun _ => (pc_i (fun _ => (pc_b8 (p8_f_Nd_open  hγ6) (fun _ γ15 hγ15 => (pc_b8 (p8_f_Tk_step  hγ15) (fun _ γ18 hγ18 => (pc_s hγ18)))))) (fun _ => (pc_b8 (p8_f_Tk_fail (by decide) hγ6) (fun _ γ21 hγ21 => (pc_s hγ21)))))))))) (fun _ => (pc_b8 (p8_f_Tk_fail (by decide) hγ3) (fun _ γ24 hγ24 => (pc_s hγ24)))))))
theorem p8_f_Nr_readNewName  {γ : St} (h : P8 γ) : pc (f_Nr_readNewName γ) (fun z => P8 z.2) := by
  unfold f_Nr_readNewName
  exact (pc_b8 (p8_f_Tk_kindNow  h) (fun _ γ3 hγ3 => (pc_i (fun _ => (pc_b8 (p8_f_Tk_itemNow  hγ3) (fun _ γ6 hγ6 => (pc_c (fun _ => (pc_c (fun _ => (pc_i (fun _ => (pc_c (fun _ => (pc_i (fun _ => (pc_c (fun _ => (pc_c (fun _ => (pc_as hγ6 (by omega) (fun γ25 hγ25 => (pc_b8 (p8_f_Nd_declare  hγ25) (fun _ γ31 hγ31 => (pc_c (fun _ => (pc_as hγ31 (by omega) (fun γ32 hγ32 => (pc_b8 (p8_f_Tk_step  hγ32) (fun _ γ35 hγ35 => (pc_s hγ35)))))))))))))))) (fun _ => (pc_b8 (p8_f_Tk_fail (by decide) hγ6) (fun _ γ38 hγ38 => (pc_s hγ38)))))))) (fun _ => (pc_b8 (p8_f_Tk_fail (by decide) hγ6) (fun _ γ41 hγ41 => (pc_s hγ41)))))))))))) (fun _ => (pc_b8 (p8_f_Tk_fail (by decide) hγ3) (fun _ γ44 hγ44 => (pc_s hγ44)))))))
theorem p8_f_Nr_readType_b68  {γ : St} (h : P8 γ) : pc (f_Nr_readType_b68 γ) (fun z => P8 z.2) := by
  unfold f_Nr_readType_b68
  exact (pc_b8 (p8_f_Tk_step  h) (fun _ γ3 hγ3 => (pc_s hγ3)))
theorem p8_f_Nr_readType_b61 {k31 : St → Int → Int → Option (Int × St)} (hk31 : ∀ (γ : St) (y0 y1 : Int), P8 γ → pc (k31 γ y0 y1) (fun z => P8 z.2)) {e68 : St → Option (Int × St)} (he68 : ∀ (γ : St), P8 γ → pc (e68 γ ) (fun z => P8 z.2)) {x4 : Int} {x5 : Int} {x6 : Int} {x7 : Int} {γ : St} (h : P8 γ) : pc (f_Nr_readType_b61 k31 e68 γ x4 x5 x6 x7) (fun z => P8 z.2) := by
  unfold f_Nr_readType_b61
  exact (pc_c (fun _ => (pc_as h (by omega) (fun γ8 hγ8 => (pc_c (fun _ => (hk31 _ _ _ hγ8)))))))
theorem p8_f_Nr_readType_L31 {e68 : St → Option (Int × St)} (he68 : ∀ (γ : St), P8 γ → pc (e68 γ ) (fun z => P8 z.2)) : ∀ (n : Nat) (γ : St) (y0 y1 : Int), P8 γ → pc (f_Nr_readType_L31 e68 n γ y0 y1) (fun z => P8 z.2) := by
  intro n
  induction n with
  | zero => intros; exact pc_n
  | succ n ih =>
    intro γ y0 y1 h
    unfold f_Nr_readType_L31
    exact (pc_i (fun _ => (he68 _ h)) (fun _ => (pc_i (fun _ => (p8_f_Nr_readType_b61 ih he68 h)) (fun _ => (p8_f_Nr_readType_b61 ih he68 h)))))
theorem p8_f_Nr_readType_b29 {x18 : Int} {x19 : Int} {γ : St} (h : P8 γ) : pc (f_Nr_readType_b29 γ x18 x19) (fun z => P8 z.2) := by
  unfold f_Nr_readType_b29
  exact (p8_f_Nr_readType_L31 (fun _ h => p8_f_Nr_readType_b68  h) _ _ _ _ h)
theorem p8_f_Nr_readType {a0 : Int} {γ : St} (h : P8 γ) : pc (f_Nr_readType γ a0) (fun z => P8 z.2) := by
  unfold f_Nr_readType
  exact (pc_b8 (p8_f_Tk_kindNow  h) (fun _ γ22 hγ22 => (pc_i (fun _ => (p8_f_Nr_readType_b29  hγ22)) (fun _ => (pc_i (fun _ => (p8_f_Nr_readType_b29  hγ22)) (fun _ => (pc_b8 (p8_f_Tk_fail (by decide) hγ22) (fun _ γ25 hγ25 => (pc_s hγ25)))))))))
theorem p8_f_Nr_readGroup_b60 {x1 : Int} {x2 : Int} {γ : St} (h : P8 γ) : pc (f_Nr_readGroup_b60 γ x1 x2) (fun z => P8 z.2) := by
  unfold f_Nr_readGroup_b60
  exact (pc_i (fun _ => (pc_s h)) (fun _ => (pc_b8 (p8_f_Tk_expect  h) (fun _ γ5 hγ5 => (pc_i (fun _ => (pc_s hγ5)) (fun _ => (pc_b8 (p8_f_Nr_readType  hγ5) (fun _ γ7 hγ7 => (pc_i (fun _ => (pc_s hγ7)) (fun _ => (pc_s hγ7)))))))))))
theorem p8_f_Nr_readGroup_L15 {e60 : St → Int → Int → Option (Int × St)} (he60 : ∀ (γ : St) (y0 y1 : Int), P8 γ → pc (e60 γ y0 y1) (fun z => P8 z.2)) : ∀ (n : Nat) (γ : St) (y0 y1 y2 : Int), P8 γ → pc (f_Nr_readGroup_L15 e60 n γ y0 y1 y2) (fun z => P8 z.2) := by
  intro n
  induction n with
  | zero => intros; exact pc_n
  | succ n ih =>
    intro γ y0 y1 y2 h
    unfold f_Nr_readGroup_L15
    exact (pc_i (fun _ => (he60 _ _ _ h)) (fun _ => (pc_i (fun _ => (he60 _ _ _ h)) (fun _ => (pc_b8 (p8_f_Tk_kindNow  h) (fun _ γ15 hγ15 => (pc_i (fun _ => (he60 _ _ _ hγ15)) (fun _ => (pc_b8 (p8_f_Tk_step  hγ15) (fun _ γ18 hγ18 => (pc_b8 (p8_f_Nr_readNewName  hγ18) (fun _ γ20 hγ20 => (pc_c (fun _ => (ih _ _ _ _ hγ20)))))))))))))))
theorem p8_f_Nr_readGroup  {γ : St} (h : P8 γ) : pc (f_Nr_readGroup γ) (fun z => P8 z.2) := by
  unfold f_Nr_readGroup
  exact (pc_a (pc_b8 (p8_f_Nr_readNewName  h) (fun _ γ28 hγ28 => (p8_f_Nr_readGroup_L15 (fun _ _ _ h => p8_f_Nr_readGroup_b60  h) _ _ _ _ _ hγ28))))
theorem p8_f_Nr_readGroups_b71 {x1 : Int} {γ : St} (h : P8 γ) : pc (f_Nr_readGroups_b71 γ x1) (fun z => P8 z.2) := by
  unfold f_Nr_readGroups_b71
  exact (pc_i (fun _ => (pc_s h)) (fun _ => (pc_b8 (p8_f_Tk_expect  h) (fun _ γ4 hγ4 => (pc_i (fun _ => (pc_s hγ4)) (fun _ => (pc_s hγ4)))))))
theorem p8_f_Nr_readGroups_L26 {e71 : St → Int → Option (Int × St)} (he71 : ∀ (γ : St) (y0 : Int), P8 γ → pc (e71 γ y0) (fun z => P8 z.2)) : ∀ (n : Nat) (γ : St) (y0 y1 : Int), P8 γ → pc (f_Nr_readGroups_L26 e71 n γ y0 y1) (fun z => P8 z.2) := by
  intro n
  induction n with
  | zero => intros; exact pc_n
  | succ n ih =>
    intro γ y0 y1 h
    unfold f_Nr_readGroups_L26
    exact (pc_i (fun _ => (he71 _ _ h)) (fun _ => (pc_i (fun _ => (he71 _ _ h)) (fun _ => (pc_b8 (p8_f_Tk_kindNow  h) (fun _ γ11 hγ11 => (pc_i (fun _ => (he71 _ _ hγ11)) (fun _ => (pc_b8 (p8_f_Tk_step  hγ11) (fun _ γ14 hγ14 => (pc_b8 (p8_f_Nr_readGroup  hγ14) (fun _ γ16 hγ16 => (pc_c (fun _ => (ih _ _ _ hγ16)))))))))))))))
theorem p8_f_Nr_readGroups_b23 {x19 : Int} {γ : St} (h : P8 γ) : pc (f_Nr_readGroups_b23 γ x19) (fun z => P8 z.2) := by
  unfold f_Nr_readGroups_b23
  exact (p8_f_Nr_readGroups_L26 (fun _ _ h => p8_f_Nr_readGroups_b71  h) _ _ _ _ h)
theorem p8_f_Nr_readGroups_b22  {γ : St} (h : P8 γ) : pc (f_Nr_readGroups_b22 γ) (fun z => P8 z.2) := by
  unfold f_Nr_readGroups_b22
  exact (p8_f_Nr_readGroups_b23  h)
theorem p8_f_Nr_readGroups  {γ : St} (h : P8 γ) : pc (f_Nr_readGroups γ) (fun z => P8 z.2) := by
  unfold f_Nr_readGroups
  exact (pc_b8 (p8_f_Tk_expect  h) (fun _ γ22 hγ22 => (pc_i (fun _ => (p8_f_Nr_readGroups_b22  hγ22)) (fun _ => (pc_b8 (p8_f_Nr_readGroup  hγ22) (fun _ γ24 hγ24 => (pc_i (fun _ => (p8_f_Nr_readGroups_b22  hγ24)) (fun _ => (p8_f_Nr_readGroups_b23  hγ24)))))))))
theorem p8_f_Nr_readInputs  {γ : St} (h : P8 γ) : pc (f_Nr_readInputs γ) (fun z => P8 z.2) := by
  unfold f_Nr_readInputs
  exact (pc_b8 (p8_f_Nr_readGroups  h) (fun _ γ2 hγ2 => (pc_c (fun _ => (pc_c (fun _ => (pc_as hγ2 (by omega) (fun γ12 hγ12 => (pc_s hγ12)))))))))
theorem p8_f_Nr_readOutputs  {γ : St} (h : P8 γ) : pc (f_Nr_readOutputs γ) (fun z => P8 z.2) := by
  unfold f_Nr_readOutputs
  exact (pc_b8 (p8_f_Nr_readGroups  h) (fun _ γ2 hγ2 => (pc_c (fun _ => (pc_c (fun _ => (pc_c (fun _ => (pc_c (fun _ => (pc_as hγ2 (by omega) (fun γ18 hγ18 => (pc_s hγ18)))))))))))))
theorem p8_f_Nr_readHead_b33  {γ : St} (h : P8 γ) : pc (f_Nr_readHead_b33 γ) (fun z => P8 z.2) := by
  unfold f_Nr_readHead_b33
  exact (pc_b8 (p8_f_Tk_expect  h) (fun _ γ3 hγ3 => (pc_i (fun _ => (pc_s hγ3)) (fun _ => (pc_b8 (p8_f_Nr_readNodeName  hγ3) (fun _ γ5 hγ5 => (pc_i (fun _ => (pc_s hγ5)) (fun _ => (pc_b8 (p8_f_Nr_readInputs  hγ5) (fun _ γ7 hγ7 => (pc_i (fun _ => (pc_s hγ7)) (fun _ => (pc_b8 (p8_f_Tk_expect  hγ7) (fun _ γ10 hγ10 => (pc_i (fun _ => (pc_s hγ10)) (fun _ => (pc_b8 (p8_f_Nr_readOutputs  hγ10) (fun _ γ12 hγ12 => (pc_i (fun _ => (pc_s hγ12)) (fun _ => (pc_b8 (p8_f_Tk_expect  hγ12) (fun _ γ15 hγ15 => (pc_i (fun _ => (pc_s hγ15)) (fun _ => (pc_s hγ15)))))))))))))))))))))))))
theorem p8_f_Nr_readHead  {γ : St} (h : P8 γ) : pc (f_Nr_readHead γ) (fun z => P8 z.2) := by
  unfold f_Nr_readHead
  exact (pc_b8 (p8_f_Tk_kindNow  h) (fun _ γ18 hγ18 => (pc_i (fun _ => (p8_f_Nr_readHead_b33  hγ18)) (fun _ => (pc_i (fun _ => (p8_f_Nr_readHead_b33  hγ18)) (fun _ => (pc_b8 (p8_f_Tk_fail (by decide) hγ18) (fun _ γ23 hγ23 => (pc_s hγ23)))))))))
theorem p8_f_Nr_readGroupClock_L50  : ∀ (n : Nat) (γ : St) (y0 y1 y2 : Int), P8 γ → pc (f_Nr_readGroupClock_L50 n γ y0 y1 y2) (fun z => P8 z.2) := by
  intro n
  induction n with
  | zero => intros; exact pc_n
  | succ n ih =>
    intro γ y0 y1 y2 h
    unfold f_Nr_readGroupClock_L50
    exact (pc_i (fun _ => (pc_s h)) (fun _ => (pc_c (fun _ => (pc_as h (by omega) (fun γ8 hγ8 => (pc_c (fun _ => (pc_c (fun _ => (pc_c (fun _ => (pc_c (fun _ => (pc_as hγ8 (by omega) (fun γ16 hγ16 => (pc_c (fun _ => (ih _ _ _ _ hγ16)))))))))))))))))))
theorem p8_f_Nr_readGroupClock {a0 : Int} {γ : St} (h : P8 γ) : pc (f_Nr_readGroupClock γ a0) (fun z => P8 z.2) := by
  unfold f_Nr_readGroupClock
  exact (pc_b8 (p8_f_Tk_kindNow  h) (fun _ γ20 hγ20 => (pc_i (fun _ => (pc_b8 (p8_f_Er_readClock  hγ20) (fun _ γ23 hγ23 => (pc_i (fun _ => (pc_c (fun _ => (pc_a (pc_c (fun _ => (pc_a (p8_f_Nr_readGroupClock_L50  _ _ _ _ _ hγ23)))))))) (fun _ => (pc_s hγ23)))))) (fun _ => (pc_s hγ20)))))
theorem p8_f_Nr_readVarGroup  {γ : St} (h : P8 γ) : pc (f_Nr_readVarGroup γ) (fun z => P8 z.2) := by
  unfold f_Nr_readVarGroup
  exact (pc_c (fun _ => (pc_a (pc_b8 (p8_f_Nr_readGroup  h) (fun _ γ8 hγ8 => (pc_i (fun _ => (pc_s hγ8)) (fun _ => (pc_b8 (p8_f_Nr_readGroupClock  hγ8) (fun _ γ10 hγ10 => (pc_i (fun _ => (pc_s hγ10)) (fun _ => (pc_b8 (p8_f_Tk_expect  hγ10) (fun _ γ13 hγ13 => (pc_i (fun _ => (pc_s hγ13)) (fun _ => (pc_s hγ13))))))))))))))))
theorem p8_f_Nr_readVars_L28  : ∀ (n : Nat) (γ : St) (y0 y1 : Int), P8 γ → pc (f_Nr_readVars_L28 n γ y0 y1) (fun z => P8 z.2) := by
  intro n
  induction n with
  | zero => intros; exact pc_n
  | succ n ih =>
    intro γ y0 y1 h
    unfold f_Nr_readVars_L28
    exact (pc_i (fun _ => (pc_c (fun _ => (pc_s h)))) (fun _ => (pc_i (fun _ => (pc_c (fun _ => (pc_s h)))) (fun _ => (pc_b8 (p8_f_Tk_kindNow  h) (fun _ γ9 hγ9 => (pc_i (fun _ => (pc_c (fun _ => (pc_s hγ9)))) (fun _ => (pc_b8 (p8_f_Nr_readVarGroup  hγ9) (fun _ γ12 hγ12 => (pc_c (fun _ => (ih _ _ _ hγ12)))))))))))))
theorem p8_f_Nr_readVars  {γ : St} (h : P8 γ) : pc (f_Nr_readVars γ) (fun z => P8 z.2) := by
  unfold f_Nr_readVars
  exact (pc_b8 (p8_f_Tk_kindNow  h) (fun _ γ16 hγ16 => (pc_i (fun _ => (pc_b8 (p8_f_Tk_step  hγ16) (fun _ γ19 hγ19 => (pc_b8 (p8_f_Nr_readVarGroup  hγ19) (fun _ γ21 hγ21 => (p8_f_Nr_readVars_L28  _ _ _ _ hγ21)))))) (fun _ => (pc_s hγ16)))))
theorem p8_f_Nr_readLeft  {γ : St} (h : P8 γ) : pc (f_Nr_readLeft γ) (fun z => P8 z.2) := by
  unfold f_Nr_readLeft
  exact (pc_b8 (p8_f_Tk_kindNow  h) (fun _ γ3 hγ3 => (pc_i (fun _ => (pc_b8 (p8_f_Er_variableNow  hγ3) (fun _ γ6 hγ6 => (pc_c (fun _ => (pc_i (fun _ => (pc_c (fun _ => (pc_c (fun _ => (pc_a (pc_c (fun _ => (pc_c (fun _ => (pc_c (fun _ => (pc_as hγ6 (by omega) (fun γ23 hγ23 => (pc_c (fun _ => (pc_c (fun _ => (pc_as hγ23 (by omega) (fun γ31 hγ31 => (pc_b8 (p8_f_Cd_addLeft  hγ31) (fun _ γ34 hγ34 => (pc_b8 (p8_f_Tk_step  hγ34) (fun _ γ37 hγ37 => (pc_s hγ37))))))))))))))))))))))))) (fun _ => (pc_b8 (p8_f_Tk_fail (by decide) hγ6) (fun _ γ40 hγ40 => (pc_s hγ40)))))))))) (fun _ => (pc_b8 (p8_f_Tk_fail (by decide) hγ3) (fun _ γ43 hγ43 => (pc_s hγ43)))))))
theorem p8_f_Nr_readLefts_b59 {x1 : Int} {γ : St} (h : P8 γ) : pc (f_Nr_readLefts_b59 γ x1) (fun z => P8 z.2) := by
  unfold f_Nr_readLefts_b59
  exact (pc_i (fun _ => (pc_s h)) (fun _ => (pc_b8 (p8_f_Tk_expect  h) (fun _ γ4 hγ4 => (pc_i (fun _ => (pc_s hγ4)) (fun _ => (pc_s hγ4)))))))
theorem p8_f_Nr_readLefts_L14 {e59 : St → Int → Option (Int × St)} (he59 : ∀ (γ : St) (y0 : Int), P8 γ → pc (e59 γ y0) (fun z => P8 z.2)) : ∀ (n : Nat) (γ : St) (y0 y1 : Int), P8 γ → pc (f_Nr_readLefts_L14 e59 n γ y0 y1) (fun z => P8 z.2) := by
  intro n
  induction n with
  | zero => intros; exact pc_n
  | succ n ih =>
    intro γ y0 y1 h
    unfold f_Nr_readLefts_L14
    exact (pc_i (fun _ => (he59 _ _ h)) (fun _ => (pc_i (fun _ => (he59 _ _ h)) (fun _ => (pc_b8 (p8_f_Tk_kindNow  h) (fun _ γ11 hγ11 => (pc_i (fun _ => (he59 _ _ hγ11)) (fun _ => (pc_b8 (p8_f_Tk_step  hγ11) (fun _ γ14 hγ14 => (pc_b8 (p8_f_Nr_readLeft  hγ14) (fun _ γ16 hγ16 => (pc_c (fun _ => (ih _ _ _ hγ16)))))))))))))))
theorem p8_f_Nr_readLefts  {γ : St} (h : P8 γ) : pc (f_Nr_readLefts γ) (fun z => P8 z.2) := by
  unfold f_Nr_readLefts
  exact (pc_b8 (p8_f_Tk_step  h) (fun _ γ21 hγ21 => (pc_b8 (p8_f_Nr_readLeft  hγ21) (fun _ γ23 hγ23 => (p8_f_Nr_readLefts_L14 (fun _ _ h => p8_f_Nr_readLefts_b59  h) _ _ _ _ hγ23)))))
theorem p8_f_Nr_readEquation_b46 {x1 : Int} {x2 : Int} {γ : St} (h : P8 γ) : pc (f_Nr_readEquation_b46 γ x1 x2) (fun z => P8 z.2) := by
  unfold f_Nr_readEquation_b46
  exact (pc_i (fun _ => (pc_s h)) (fun _ => (pc_b8 (p8_f_Tk_expect  h) (fun _ γ5 hγ5 => (pc_i (fun _ => (pc_s hγ5)) (fun _ => (pc_b8 (p8_f_Er_readRightSide  hγ5) (fun _ γ8 hγ8 => (pc_i (fun _ => (pc_s hγ8)) (fun _ => (pc_b8 (p8_f_Cd_closeEquation  hγ8) (fun _ γ11 hγ11 => (pc_s hγ11)))))))))))))
theorem p8_f_Nr_readEquation_b30 {x12 : Int} {γ : St} (h : P8 γ) : pc (f_Nr_readEquation_b30 γ x12) (fun z => P8 z.2) := by
  unfold f_Nr_readEquation_b30
  exact (pc_i (fun _ => (pc_b8 (p8_f_Nr_readLeft  h) (fun _ γ14 hγ14 => (p8_f_Nr_readEquation_b46  hγ14)))) (fun _ => (pc_b8 (p8_f_Nr_readLefts  h) (fun _ γ16 hγ16 => (p8_f_Nr_readEquation_b46  hγ16)))))
theorem p8_f_Nr_readEquation  {γ : St} (h : P8 γ) : pc (f_Nr_readEquation γ) (fun z => P8 z.2) := by
  unfold f_Nr_readEquation
  exact (pc_b8 (p8_f_Tk_placeNow  h) (fun _ γ20 hγ20 => (pc_b8 (p8_f_Cd_openEquation  hγ20) (fun _ γ22 hγ22 => (pc_b8 (p8_f_Tk_kindNow  hγ22) (fun _ γ25 hγ25 => (pc_i (fun _ => (p8_f_Nr_readEquation_b30  hγ25)) (fun _ => (p8_f_Nr_readEquation_b30  hγ25)))))))))
theorem p8_f_Ck_checkCall_L121  : ∀ (n : Nat) (γ : St) (y0 y1 y2 y3 : Int), P8 γ → pc (f_Ck_checkCall_L121 n γ y0 y1 y2 y3) (fun z => P8 z.2) := by
  intro n
  induction n with
  | zero => intros; exact pc_n
  | succ n ih =>
    intro γ y0 y1 y2 y3 h
    unfold f_Ck_checkCall_L121
    exact (pc_i (fun _ => (pc_s h)) (fun _ => (pc_c (fun _ => (pc_c (fun _ => (pc_c (fun _ => (pc_c (fun _ => (pc_as h (by omega) (fun γ12 hγ12 => (pc_c (fun _ => (pc_as hγ12 (by omega) (fun γ15 hγ15 => (pc_c (fun _ => (ih _ _ _ _ _ hγ15)))))))))))))))))))
theorem p8_f_Ck_checkCall_b118 {x17 : Int} {x18 : Int} {x19 : Int} {γ : St} (h : P8 γ) : pc (f_Ck_checkCall_b118 γ x17 x18 x19) (fun z => P8 z.2) := by
  unfold f_Ck_checkCall_b118
  exact (p8_f_Ck_checkCall_L121  _ _ _ _ _ _ h)
theorem p8_f_Ck_checkCall_L75 {e118 : St → Int → Int → Int → Option (Int × St)} (he118 : ∀ (γ : St) (y0 y1 y2 : Int), P8 γ → pc (e118 γ y0 y1 y2) (fun z => P8 z.2)) : ∀ (n : Nat) (γ : St) (y0 y1 y2 y3 : Int), P8 γ → pc (f_Ck_checkCall_L75 e118 n γ y0 y1 y2 y3) (fun z => P8 z.2) := by
  intro n
  induction n with
  | zero => intros; exact pc_n
  | succ n ih =>
    intro γ y0 y1 y2 y3 h
    unfold f_Ck_checkCall_L75
    exact (pc_i (fun _ => (he118 _ _ _ _ h)) (fun _ => (pc_c (fun _ => (pc_c (fun _ => (pc_c (fun _ => (pc_c (fun _ => (pc_i (fun _ => (pc_c (fun _ => (ih _ _ _ _ _ h)))) (fun _ => (pc_s h)))))))))))))
theorem p8_f_Ck_checkCall {a0 : Int} {a1 : Int} {γ : St} (h : P8 γ) : pc (f_Ck_checkCall γ a0 a1) (fun z => P8 z.2) := by
  unfold f_Ck_checkCall
  exact (pc_c (fun _ => (pc_a (pc_c (fun _ => (pc_a (pc_c (fun _ => (pc_i (fun _ => (pc_s h)) (fun _ => (pc_c (fun _ => (pc_i (fun _ => (pc_c (fun _ => (pc_as h (by omega) (fun γ52 hγ52 => (pc_c (fun _ => (pc_a (p8_f_Ck_checkCall_L75 (fun _ _ _ _ h => p8_f_Ck_checkCall_b118  h) _ _ _ _ _ _ hγ52))))))))) (fun _ => (pc_s h)))))))))))))))
theorem p8_f_Ck_typeOfAtom {a0 : Int} {γ : St} (h : P8 γ) : pc (f_Ck_typeOfAtom γ a0) (fun z => P8 z.2) := by
  unfold f_Ck_typeOfAtom
  exact (pc_c (fun _ => (pc_i (fun _ => (pc_c (fun _ => (pc_c (fun _ => (pc_c (fun _ => (pc_s h)))))))) (fun _ => (pc_i (fun _ => (pc_s h)) (fun _ => (pc_s h)))))))
theorem p8_f_Ck_typeOfAnswer {a0 : Int} {a1 : Int} {γ : St} (h : P8 γ) : pc (f_Ck_typeOfAnswer γ a0 a1) (fun z => P8 z.2) := by
  unfold f_Ck_typeOfAnswer
  exact (pc_b8 (p8_f_S_rank  h) (fun _ γ2 hγ2 => (pc_i (fun _ => (pc_s hγ2)) (fun _ => (pc_s hγ2)))))
theorem p8_f_Ck_typeOfSides {a0 : Int} {γ : St} (h : P8 γ) : pc (f_Ck_typeOfSides γ a0) (fun z => P8 z.2) := by
  unfold f_Ck_typeOfSides
  exact (pc_i (fun _ => (pc_s h)) (fun _ => (pc_i (fun _ => (pc_s h)) (fun _ => (pc_i (fun _ => (pc_s h)) (fun _ => (pc_i (fun _ => (pc_s h)) (fun _ => (pc_i (fun _ => (pc_s h)) (fun _ => (pc_i (fun _ => (pc_s h)) (fun _ => (pc_i (fun _ => (pc_s h)) (fun _ => (pc_i (fun _ => (pc_s h)) (fun _ => (pc_i (fun _ => (pc_s h)) (fun _ => (pc_i (fun _ => (pc_s h)) (fun _ => (pc_i (fun _ => (pc_s h)) (fun _ => (pc_i (fun _ => (pc_s h)) (fun _ => (pc_s h)))))))))))))))))))))))))
theorem p8_f_Ck_checkType {a0 : Int} {a1 : Int} {γ : St} (h : P8 γ) : pc (f_Ck_checkType γ a0 a1) (fun z => P8 z.2) := by
  unfold f_Ck_checkType
  exact (pc_c (fun _ => (pc_a (pc_c (fun _ => (pc_a (pc_i (fun _ => (pc_i (fun _ => (pc_c (fun _ => (pc_c (fun _ => (pc_a (pc_c (fun _ => (pc_c (fun _ => (pc_a (pc_c (fun _ => (pc_c (fun _ => (pc_as h (by omega) (fun γ22 hγ22 => (pc_c (fun _ => (pc_b8 (p8_f_Ck_typeOfAnswer  hγ22) (fun _ γ27 hγ27 => (pc_c (fun _ => (pc_as hγ27 (by omega) (fun γ28 hγ28 => (pc_i (fun _ => (pc_b8 (p8_f_Ck_typeOfSides  hγ28) (fun _ γ30 hγ30 => (pc_i (fun _ => (pc_s hγ30)) (fun _ => (pc_i (fun _ => (pc_s hγ30)) (fun _ => (pc_i (fun _ => (pc_s hγ30)) (fun _ => (pc_s hγ30)))))))))) (fun _ => (pc_i (fun _ => (pc_s hγ28)) (fun _ => (pc_c (fun _ => (pc_i (fun _ => (pc_s hγ28)) (fun _ => (pc_s hγ28)))))))))))))))))))))))))))))))))) (fun _ => (pc_b8 (p8_f_Ck_typeOfAtom  h) (fun _ γ37 hγ37 => (pc_c (fun _ => (pc_as hγ37 (by omega) (fun γ38 hγ38 => (pc_c (fun _ => (pc_as hγ38 (by omega) (fun γ41 hγ41 => (pc_s hγ41)))))))))))))) (fun _ => (pc_b8 (p8_f_Ck_checkCall  h) (fun _ γ43 hγ43 => (pc_s hγ43)))))))))))
theorem p8_f_Ck_typesFit_b161 {x1 x2 : Int} {γ : St} (h : P8 γ) : pc (f_Ck_typesFit_b161 γ x1 x2) (fun z => P8 z.2) := by
  unfold f_Ck_typesFit_b161
  exact pc_i (fun _ => pc_s h) (fun q => pc_c (fun _ => pc_b8 (p8_f_Tk_failAt q h) (fun _ γ8 h8 => pc_i (fun _ => pc_s h8) (fun _ => pc_s h8))))
theorem p8_f_Ck_typesFit_b154 {k75 : St → Int → Int → Int → Option (Int × St)} (hk75 : ∀ (γ : St) (y0 y1 y2 : Int), P8 γ → pc (k75 γ y0 y1 y2) (fun z => P8 z.2)) {e161 : St → Int → Int → Option (Int × St)} (he161 : ∀ (γ : St) (y0 y1 : Int), P8 γ → pc (e161 γ y0 y1) (fun z => P8 z.2)) {x9 : Int} {x10 : Int} {x11 : Int} {γ : St} (h : P8 γ) : pc (f_Ck_typesFit_b154 k75 e161 γ x9 x10 x11) (fun z => P8 z.2) := by
  unfold f_Ck_typesFit_b154
  exact (pc_c (fun _ => (hk75 _ _ _ _ h)))
theorem p8_f_Ck_typesFit_b153 {k75 : St → Int → Int → Int → Option (Int × St)} (hk75 : ∀ (γ : St) (y0 y1 y2 : Int), P8 γ → pc (k75 γ y0 y1 y2) (fun z => P8 z.2)) {e161 : St → Int → Int → Option (Int × St)} (he161 : ∀ (γ : St) (y0 y1 : Int), P8 γ → pc (e161 γ y0 y1) (fun z => P8 z.2)) {x18 : Int} {x19 : Int} {γ : St} (h : P8 γ) : pc (f_Ck_typesFit_b153 k75 e161 γ x18 x19) (fun z => P8 z.2) := by
  unfold f_Ck_typesFit_b153
  exact (p8_f_Ck_typesFit_b154 hk75 he161 h)
theorem p8_f_Ck_typesFit_L75 {e161 : St → Int → Int → Option (Int × St)} (he161 : ∀ (γ : St) (y0 y1 : Int), P8 γ → pc (e161 γ y0 y1) (fun z => P8 z.2)) : ∀ (n : Nat) (γ : St) (y0 y1 y2 : Int), P8 γ → pc (f_Ck_typesFit_L75 e161 n γ y0 y1 y2) (fun z => P8 z.2) := by
  intro n
  induction n with
  | zero => intros; exact pc_n
  | succ n ih =>
    intro γ y0 y1 y2 h
    unfold f_Ck_typesFit_L75
    exact (pc_i (fun _ => (he161 _ _ _ h)) (fun _ => (pc_c (fun _ => (pc_i (fun _ => (he161 _ _ _ h)) (fun _ => (pc_c (fun _ => (pc_c (fun _ => (pc_c (fun _ => (pc_c (fun _ => (pc_a (pc_i (fun _ => (p8_f_Ck_typesFit_b153 ih he161 h)) (fun _ => (pc_c (fun _ => (pc_c (fun _ => (pc_i (fun _ => (p8_f_Ck_typesFit_b153 ih he161 h)) (fun _ => (p8_f_Ck_typesFit_b154 ih he161 h))))))))))))))))))))))))
theorem p8_f_Ck_typesFit_b72 {x49 : Int} {x50 : Int} {γ : St} (h : P8 γ) : pc (f_Ck_typesFit_b72 γ x49 x50) (fun z => P8 z.2) := by
  unfold f_Ck_typesFit_b72
  exact (p8_f_Ck_typesFit_L75 (fun _ _ _ h => p8_f_Ck_typesFit_b161  h) _ _ _ _ _ h)
theorem p8_f_Ck_typesFit_b62 {k30 : St → Int → Int → Int → Int → Option (Int × St)} (hk30 : ∀ (γ : St) (y0 y1 y2 y3 : Int), P8 γ → pc (k30 γ y0 y1 y2 y3) (fun z => P8 z.2)) {e72 : St → Int → Int → Option (Int × St)} (he72 : ∀ (γ : St) (y0 y1 : Int), P8 γ → pc (e72 γ y0 y1) (fun z => P8 z.2)) {x51 : Int} {x52 : Int} {x53 : Int} {x54 : Int} {x55 : Int} {γ : St} (h : P8 γ) : pc (f_Ck_typesFit_b62 k30 e72 γ x51 x52 x53 x54 x55) (fun z => P8 z.2) := by
  unfold f_Ck_typesFit_b62
  exact (pc_b8 (p8_f_Ck_checkType  h) (fun _ γ57 hγ57 => (pc_c (fun _ => (hk30 _ _ _ _ _ hγ57)))))
theorem p8_f_Ck_typesFit_L30 {e72 : St → Int → Int → Option (Int × St)} (he72 : ∀ (γ : St) (y0 y1 : Int), P8 γ → pc (e72 γ y0 y1) (fun z => P8 z.2)) : ∀ (n : Nat) (γ : St) (y0 y1 y2 y3 : Int), P8 γ → pc (f_Ck_typesFit_L30 e72 n γ y0 y1 y2 y3) (fun z => P8 z.2) := by
  intro n
  induction n with
  | zero => intros; exact pc_n
  | succ n ih =>
    intro γ y0 y1 y2 y3 h
    unfold f_Ck_typesFit_L30
    exact (pc_i (fun _ => (he72 _ _ _ h)) (fun _ => (pc_i (fun _ => (he72 _ _ _ h)) (fun _ => (pc_i (fun _ => (p8_f_Ck_typesFit_b62 ih he72 h)) (fun _ => (pc_c (fun _ => (p8_f_Ck_typesFit_b62 ih he72 h)))))))))
theorem p8_f_Ck_typesFit {a0 : Int} {γ : St} (h : P8 γ) : pc (f_Ck_typesFit γ a0) (fun z => P8 z.2) := by
  unfold f_Ck_typesFit
  exact (pc_as h (by omega) (fun γ74 hγ74 => (pc_c (fun _ => (pc_c (fun _ => (pc_a (pc_c (fun _ => (pc_a (p8_f_Ck_typesFit_L30 (fun _ _ _ h => p8_f_Ck_typesFit_b72  h) _ _ _ _ _ _ hγ74)))))))))))
theorem p8_f_Ck_joined_b51 {k5 : St → Int → Int → Int → Option (Int × St)} (hk5 : ∀ (γ : St) (y0 y1 y2 : Int), P8 γ → pc (k5 γ y0 y1 y2) (fun z => P8 z.2)) {x1 : Int} {x2 : Int} {x3 : Int} {γ : St} (h : P8 γ) : pc (f_Ck_joined_b51 k5 γ x1 x2 x3) (fun z => P8 z.2) := by
  unfold f_Ck_joined_b51
  exact (pc_c (fun _ => (hk5 _ _ _ _ h)))
theorem p8_f_Ck_joined_L5  : ∀ (n : Nat) (γ : St) (y0 y1 y2 : Int), P8 γ → pc (f_Ck_joined_L5 n γ y0 y1 y2) (fun z => P8 z.2) := by
  intro n
  induction n with
  | zero => intros; exact pc_n
  | succ n ih =>
    intro γ y0 y1 y2 h
    unfold f_Ck_joined_L5
    exact (pc_i (fun _ => (pc_s h)) (fun _ => (pc_c (fun _ => (pc_c (fun _ => (pc_a (pc_i (fun _ => (pc_i (fun _ => (p8_f_Ck_joined_b51 ih h)) (fun _ => (pc_i (fun _ => (p8_f_Ck_joined_b51 ih h)) (fun _ => (p8_f_Ck_joined_b51 ih h)))))) (fun _ => (p8_f_Ck_joined_b51 ih h))))))))))
theorem p8_f_Ck_joined {a0 : Int} {γ : St} (h : P8 γ) : pc (f_Ck_joined γ a0) (fun z => P8 z.2) := by
  unfold f_Ck_joined
  exact (p8_f_Ck_joined_L5  _ _ _ _ _ h)
theorem p8_f_Ck_clockOfC {a0 : Int} {γ : St} (h : P8 γ) : pc (f_Ck_clockOfC γ a0) (fun z => P8 z.2) := by
  unfold f_Ck_clockOfC
  exact (pc_c (fun _ => (pc_c (fun _ => (pc_s h)))))
theorem p8_f_Ck_checkClock_b141 {x1 : Int} {x2 : Int} {γ : St} (h : P8 γ) : pc (f_Ck_checkClock_b141 γ x1 x2) (fun z => P8 z.2) := by
  unfold f_Ck_checkClock_b141
  exact (pc_c (fun _ => (pc_as h (by omega) (fun γ5 hγ5 => (pc_c (fun _ => (pc_as hγ5 (by omega) (fun γ8 hγ8 => (pc_c (fun _ => (pc_as hγ8 (by omega) (fun γ11 hγ11 => (pc_s hγ11)))))))))))))
theorem p8_f_Ck_checkClock_b120 {x12 : Int} {x13 : Int} {x14 : Int} {γ : St} (h : P8 γ) : pc (f_Ck_checkClock_b120 γ x12 x13 x14) (fun z => P8 z.2) := by
  unfold f_Ck_checkClock_b120
  exact (pc_i (fun _ => (p8_f_Ck_checkClock_b141  h)) (fun _ => (pc_i (fun _ => (pc_b8 (p8_f_Ck_clockOfC  h) (fun _ γ16 hγ16 => (p8_f_Ck_checkClock_b141  hγ16)))) (fun _ => (pc_s h)))))
theorem p8_f_Ck_checkClock_b109 {x17 : Int} {x18 : Int} {γ : St} (h : P8 γ) : pc (f_Ck_checkClock_b109 γ x17 x18) (fun z => P8 z.2) := by
  unfold f_Ck_checkClock_b109
  exact (pc_c (fun _ => (pc_a (p8_f_Ck_checkClock_b120  h))))
theorem p8_f_Ck_checkClock_b65 {x23 : Int} {x24 : Int} {x25 : Int} {γ : St} (h : P8 γ) : pc (f_Ck_checkClock_b65 γ x23 x24 x25) (fun z => P8 z.2) := by
  unfold f_Ck_checkClock_b65
  exact (pc_i (fun _ => (pc_i (fun _ => (p8_f_Ck_checkClock_b120  h)) (fun _ => (pc_i (fun _ => (p8_f_Ck_checkClock_b109  h)) (fun _ => (pc_c (fun _ => (pc_b8 (p8_f_Ck_clockOfC  h) (fun _ γ30 hγ30 => (pc_i (fun _ => (p8_f_Ck_checkClock_b109  hγ30)) (fun _ => (pc_s hγ30)))))))))))) (fun _ => (pc_s h)))
theorem p8_f_Ck_checkClock {a0 : Int} {γ : St} (h : P8 γ) : pc (f_Ck_checkClock γ a0) (fun z => P8 z.2) := by
  unfold f_Ck_checkClock
  exact (pc_c (fun _ => (pc_a (pc_c (fun _ => (pc_a (pc_c (fun _ => (pc_as h (by omega) (fun γ41 hγ41 => (pc_i (fun _ => (pc_b8 (p8_f_Ck_joined  hγ41) (fun _ γ43 hγ43 => (p8_f_Ck_checkClock_b65  hγ43)))) (fun _ => (pc_c (fun _ => (pc_c (fun _ => (pc_c (fun _ => (p8_f_Ck_checkClock_b65  hγ41)))))))))))))))))))
theorem p8_f_Ck_settle_b193 {k37 : St → Int → Int → Option (Int × St)} (hk37 : ∀ (γ : St) (y0 y1 : Int), P8 γ → pc (k37 γ y0 y1) (fun z => P8 z.2)) {x1 : Int} {x2 : Int} {γ : St} (h : P8 γ) : pc (f_Ck_settle_b193 k37 γ x1 x2) (fun z => P8 z.2) := by
  unfold f_Ck_settle_b193
  exact (pc_c (fun _ => (hk37 _ _ _ h)))
theorem p8_f_Ck_settle_L152 {e193 : St → Int → Int → Option (Int × St)} (he193 : ∀ (γ : St) (y0 y1 : Int), P8 γ → pc (e193 γ y0 y1) (fun z => P8 z.2)) : ∀ (n : Nat) (γ : St) (y0 y1 y2 y3 : Int), P8 γ → pc (f_Ck_settle_L152 e193 n γ y0 y1 y2 y3) (fun z => P8 z.2) := by
  intro n
  induction n with
  | zero => intros; exact pc_n
  | succ n ih =>
    intro γ y0 y1 y2 y3 h
    unfold f_Ck_settle_L152
    exact (pc_c (fun _ => (pc_i (fun _ => (he193 _ _ _ h)) (fun _ => (pc_c (fun _ => (pc_as h (by omega) (fun γ15 hγ15 => (pc_c (fun _ => (pc_as hγ15 (by omega) (fun γ18 hγ18 => (pc_c (fun _ => (ih _ _ _ _ _ hγ18)))))))))))))))
theorem p8_f_Ck_settle_b138 {k37 : St → Int → Int → Option (Int × St)} (hk37 : ∀ (γ : St) (y0 y1 : Int), P8 γ → pc (k37 γ y0 y1) (fun z => P8 z.2)) {x22 : Int} {x23 : Int} {x24 : Int} {x25 : Int} {γ : St} (h : P8 γ) : pc (f_Ck_settle_b138 k37 γ x22 x23 x24 x25) (fun z => P8 z.2) := by
  unfold f_Ck_settle_b138
  exact (pc_c (fun _ => (pc_as h (by omega) (fun γ28 hγ28 => (p8_f_Ck_settle_L152 (fun _ _ _ h => p8_f_Ck_settle_b193 hk37 h) _ _ _ _ _ _ hγ28)))))
theorem p8_f_Ck_settle_L37  : ∀ (n : Nat) (γ : St) (y0 y1 : Int), P8 γ → pc (f_Ck_settle_L37 n γ y0 y1) (fun z => P8 z.2) := by
  intro n
  induction n with
  | zero => intros; exact pc_n
  | succ n ih =>
    intro γ y0 y1 h
    unfold f_Ck_settle_L37
    exact (pc_c (fun _ => (pc_i (fun _ => (pc_s h)) (fun _ => (pc_c (fun _ => (pc_as h (by omega) (fun γ38 hγ38 => (pc_c (fun _ => (pc_a (pc_c (fun _ => (pc_i (fun _ => (pc_c (fun _ => (pc_i (fun _ => (p8_f_Ck_settle_b138 ih hγ38)) (fun _ => (pc_c (fun _ => (pc_c (fun _ => (pc_a (p8_f_Ck_settle_b138 ih hγ38))))))))))) (fun _ => (pc_c (fun _ => (pc_b8 (p8_f_Ck_clockOfC  hγ38) (fun _ γ58 hγ58 => (p8_f_Ck_settle_b138 ih hγ58))))))))))))))))))))
theorem p8_f_Ck_settle {a0 : Int} {a1 : Int} {γ : St} (h : P8 γ) : pc (f_Ck_settle γ a0 a1) (fun z => P8 z.2) := by
  unfold f_Ck_settle
  exact (pc_as h (by omega) (fun γ59 hγ59 => (pc_c (fun _ => (pc_as hγ59 (by omega) (fun γ62 hγ62 => (pc_c (fun _ => (pc_as hγ62 (by omega) (fun γ65 hγ65 => (pc_c (fun _ => (pc_c (fun _ => (pc_a (p8_f_Ck_settle_L37  _ _ _ _ hγ65))))))))))))))))
theorem p8_f_Ck_clocksFit_b169 {x1 : Int} {γ : St} (h : P8 γ) : pc (f_Ck_clocksFit_b169 γ x1) (fun z => P8 z.2) := by
  unfold f_Ck_clocksFit_b169
  exact (pc_c (fun _ => (pc_b8 (p8_f_Tk_failAt (by decide) h) (fun _ γ7 hγ7 => (pc_s hγ7)))))
theorem p8_f_Ck_clocksFit_b188 {x8 : Int} {x9 : Int} {γ : St} (h : P8 γ) : pc (f_Ck_clocksFit_b188 γ x8 x9) (fun z => P8 z.2) := by
  unfold f_Ck_clocksFit_b188
  exact (pc_b8 (p8_f_Ck_settle  h) (fun _ γ11 hγ11 => (pc_s hγ11)))
theorem p8_f_Ck_clocksFit_b143 {x12 : Int} {x13 : Int} {x14 : Int} {γ : St} (h : P8 γ) : pc (f_Ck_clocksFit_b143 γ x12 x13 x14) (fun z => P8 z.2) := by
  unfold f_Ck_clocksFit_b143
  exact (pc_i (fun _ => (p8_f_Ck_clocksFit_b169  h)) (fun _ => (pc_c (fun _ => (pc_i (fun _ => (p8_f_Ck_clocksFit_b188  h)) (fun _ => (pc_c (fun _ => (pc_i (fun _ => (p8_f_Ck_clocksFit_b188  h)) (fun _ => (p8_f_Ck_clocksFit_b169  h)))))))))))
theorem p8_f_Ck_clocksFit_b136 {k83 : St → Int → Int → Int → Int → Int → Option (Int × St)} (hk83 : ∀ (γ : St) (y0 y1 y2 y3 y4 : Int), P8 γ → pc (k83 γ y0 y1 y2 y3 y4) (fun z => P8 z.2)) {e143 : St → Int → Int → Int → Option (Int × St)} (he143 : ∀ (γ : St) (y0 y1 y2 : Int), P8 γ → pc (e143 γ y0 y1 y2) (fun z => P8 z.2)) {x19 : Int} {x20 : Int} {x21 : Int} {x22 : Int} {x23 : Int} {γ : St} (h : P8 γ) : pc (f_Ck_clocksFit_b136 k83 e143 γ x19 x20 x21 x22 x23) (fun z => P8 z.2) := by
  unfold f_Ck_clocksFit_b136
  exact (pc_c (fun _ => (hk83 _ _ _ _ _ _ h)))
theorem p8_f_Ck_clocksFit_b135 {k83 : St → Int → Int → Int → Int → Int → Option (Int × St)} (hk83 : ∀ (γ : St) (y0 y1 y2 y3 y4 : Int), P8 γ → pc (k83 γ y0 y1 y2 y3 y4) (fun z => P8 z.2)) {e143 : St → Int → Int → Int → Option (Int × St)} (he143 : ∀ (γ : St) (y0 y1 y2 : Int), P8 γ → pc (e143 γ y0 y1 y2) (fun z => P8 z.2)) {x33 : Int} {x34 : Int} {x35 : Int} {x36 : Int} {γ : St} (h : P8 γ) : pc (f_Ck_clocksFit_b135 k83 e143 γ x33 x34 x35 x36) (fun z => P8 z.2) := by
  unfold f_Ck_clocksFit_b135
  exact (p8_f_Ck_clocksFit_b136 hk83 he143 h)
theorem p8_f_Ck_clocksFit_L83 {e143 : St → Int → Int → Int → Option (Int × St)} (he143 : ∀ (γ : St) (y0 y1 y2 : Int), P8 γ → pc (e143 γ y0 y1 y2) (fun z => P8 z.2)) : ∀ (n : Nat) (γ : St) (y0 y1 y2 y3 y4 : Int), P8 γ → pc (f_Ck_clocksFit_L83 e143 n γ y0 y1 y2 y3 y4) (fun z => P8 z.2) := by
  intro n
  induction n with
  | zero => intros; exact pc_n
  | succ n ih =>
    intro γ y0 y1 y2 y3 y4 h
    unfold f_Ck_clocksFit_L83
    exact (pc_c (fun _ => (pc_i (fun _ => (he143 _ _ _ _ h)) (fun _ => (pc_i (fun _ => (p8_f_Ck_clocksFit_b135 ih he143 h)) (fun _ => (pc_c (fun _ => (pc_c (fun _ => (pc_c (fun _ => (pc_c (fun _ => (pc_i (fun _ => (p8_f_Ck_clocksFit_b135 ih he143 h)) (fun _ => (p8_f_Ck_clocksFit_b136 ih he143 h)))))))))))))))))
theorem p8_f_Ck_clocksFit_b46 {x65 : Int} {x66 : Int} {γ : St} (h : P8 γ) : pc (f_Ck_clocksFit_b46 γ x65 x66) (fun z => P8 z.2) := by
  unfold f_Ck_clocksFit_b46
  exact (pc_c (fun _ => (pc_a (pc_c (fun _ => (pc_c (fun _ => (pc_c (fun _ => (pc_a (p8_f_Ck_clocksFit_L83 (fun _ _ _ _ h => p8_f_Ck_clocksFit_b143  h) _ _ _ _ _ _ _ h)))))))))))
theorem p8_f_Ck_clocksFit_L17 {e46 : St → Int → Int → Option (Int × St)} (he46 : ∀ (γ : St) (y0 y1 : Int), P8 γ → pc (e46 γ y0 y1) (fun z => P8 z.2)) : ∀ (n : Nat) (γ : St) (y0 y1 y2 : Int), P8 γ → pc (f_Ck_clocksFit_L17 e46 n γ y0 y1 y2) (fun z => P8 z.2) := by
  intro n
  induction n with
  | zero => intros; exact pc_n
  | succ n ih =>
    intro γ y0 y1 y2 h
    unfold f_Ck_clocksFit_L17
    exact (pc_i (fun _ => (he46 _ _ _ h)) (fun _ => (pc_c (fun _ => (pc_i (fun _ => (he46 _ _ _ h)) (fun _ => (pc_b8 (p8_f_Ck_checkClock  h) (fun _ γ87 hγ87 => (pc_c (fun _ => (ih _ _ _ _ hγ87)))))))))))
theorem p8_f_Ck_clocksFit {a0 : Int} {γ : St} (h : P8 γ) : pc (f_Ck_clocksFit γ a0) (fun z => P8 z.2) := by
  unfold f_Ck_clocksFit
  exact (pc_as h (by omega) (fun γ91 hγ91 => (pc_c (fun _ => (pc_a (p8_f_Ck_clocksFit_L17 (fun _ _ _ h => p8_f_Ck_clocksFit_b46  h) _ _ _ _ _ hγ91))))))
theorem p8_f_Ck_check_b60  {γ : St} (h : P8 γ) : pc (f_Ck_check_b60 γ) (fun z => P8 z.2) := by
  unfold f_Ck_check_b60
  exact (pc_b8 (p8_f_Tk_fail (by decide) h) (fun _ γ3 hγ3 => (pc_s hγ3)))
theorem p8_f_Ck_check_b123 {k87 : St → Int → Int → Option (Int × St)} (hk87 : ∀ (γ : St) (y0 y1 : Int), P8 γ → pc (k87 γ y0 y1) (fun z => P8 z.2)) {x4 : Int} {x5 : Int} {γ : St} (h : P8 γ) : pc (f_Ck_check_b123 k87 γ x4 x5) (fun z => P8 z.2) := by
  unfold f_Ck_check_b123
  exact (pc_c (fun _ => (hk87 _ _ _ h)))
theorem p8_f_Ck_check_b122 {k87 : St → Int → Int → Option (Int × St)} (hk87 : ∀ (γ : St) (y0 y1 : Int), P8 γ → pc (k87 γ y0 y1) (fun z => P8 z.2)) {x9 : Int} {γ : St} (h : P8 γ) : pc (f_Ck_check_b122 k87 γ x9) (fun z => P8 z.2) := by
  unfold f_Ck_check_b122
  exact (p8_f_Ck_check_b123 hk87 h)
theorem p8_f_Ck_check_L87  : ∀ (n : Nat) (γ : St) (y0 y1 : Int), P8 γ → pc (f_Ck_check_L87 n γ y0 y1) (fun z => P8 z.2) := by
  intro n
  induction n with
  | zero => intros; exact pc_n
  | succ n ih =>
    intro γ y0 y1 h
    unfold f_Ck_check_L87
    exact (pc_i (fun _ => (pc_c (fun _ => (pc_s h)))) (fun _ => (pc_i (fun _ => (pc_c (fun _ => (pc_s h)))) (fun _ => (pc_b8 (p8_f_Ck_typesFit  h) (fun _ γ19 hγ19 => (pc_i (fun _ => (p8_f_Ck_check_b122 ih hγ19)) (fun _ => (pc_b8 (p8_f_Ck_clocksFit  hγ19) (fun _ γ21 hγ21 => (pc_i (fun _ => (p8_f_Ck_check_b122 ih hγ21)) (fun _ => (p8_f_Ck_check_b123 ih hγ21)))))))))))))
theorem p8_f_Ck_check_b75 {x22 : Int} {γ : St} (h : P8 γ) : pc (f_Ck_check_b75 γ x22) (fun z => P8 z.2) := by
  unfold f_Ck_check_b75
  exact (pc_c (fun _ => (pc_a (p8_f_Ck_check_L87  _ _ _ _ h))))
theorem p8_f_Ck_check_L36 {e60 : St → Option (Int × St)} (he60 : ∀ (γ : St), P8 γ → pc (e60 γ ) (fun z => P8 z.2)) {e75 : St → Int → Option (Int × St)} (he75 : ∀ (γ : St) (y0 : Int), P8 γ → pc (e75 γ y0) (fun z => P8 z.2)) : ∀ (n : Nat) (γ : St) (y0 y1 : Int), P8 γ → pc (f_Ck_check_L36 e60 e75 n γ y0 y1) (fun z => P8 z.2) := by
  intro n
  induction n with
  | zero => intros; exact pc_n
  | succ n ih =>
    intro γ y0 y1 h
    unfold f_Ck_check_L36
    exact (pc_i (fun _ => (he75 _ _ h)) (fun _ => (pc_c (fun _ => (pc_i (fun _ => (pc_c (fun _ => (ih _ _ _ h)))) (fun _ => (he60 _ h)))))))
theorem p8_f_Ck_check  {γ : St} (h : P8 γ) : pc (f_Ck_check γ) (fun z => P8 z.2) := by
  unfold f_Ck_check
  exact (pc_a (pc_c (fun _ => (pc_as h (by omega) (fun γ42 hγ42 => (pc_c (fun _ => (pc_c (fun _ => (pc_a (p8_f_Ck_check_L36 (fun _ h => p8_f_Ck_check_b60  h) (fun _ _ h => p8_f_Ck_check_b75  h) _ _ _ _ hγ42)))))))))))
theorem p8_f_Nr_closeNode  {γ : St} (h : P8 γ) : pc (f_Nr_closeNode γ) (fun z => P8 z.2) := by
  unfold f_Nr_closeNode
  exact (pc_b8 (p8_f_Nd_close  h) (fun _ γ4 hγ4 => (pc_c (fun _ => (pc_c (fun _ => (pc_c (fun _ => (pc_as hγ4 (by omega) (fun γ16 hγ16 => (pc_b8 (p8_f_Tk_step  hγ16) (fun _ γ19 hγ19 => (pc_s hγ19)))))))))))))
theorem p8_f_Nr_readBody_b72 {x1 : Int} {γ : St} (h : P8 γ) : pc (f_Nr_readBody_b72 γ x1) (fun z => P8 z.2) := by
  unfold f_Nr_readBody_b72
  exact (pc_i (fun _ => (pc_s h)) (fun _ => (pc_b8 (p8_f_Ck_check  h) (fun _ γ4 hγ4 => (pc_i (fun _ => (pc_s hγ4)) (fun _ => (pc_b8 (p8_f_Nr_closeNode  hγ4) (fun _ γ6 hγ6 => (pc_i (fun _ => (pc_s hγ6)) (fun _ => (pc_s hγ6)))))))))))
theorem p8_f_Nr_readBody_L34 {e72 : St → Int → Option (Int × St)} (he72 : ∀ (γ : St) (y0 : Int), P8 γ → pc (e72 γ y0) (fun z => P8 z.2)) : ∀ (n : Nat) (γ : St) (y0 y1 : Int), P8 γ → pc (f_Nr_readBody_L34 e72 n γ y0 y1) (fun z => P8 z.2) := by
  intro n
  induction n with
  | zero => intros; exact pc_n
  | succ n ih =>
    intro γ y0 y1 h
    unfold f_Nr_readBody_L34
    exact (pc_i (fun _ => (he72 _ _ h)) (fun _ => (pc_i (fun _ => (he72 _ _ h)) (fun _ => (pc_b8 (p8_f_Tk_kindNow  h) (fun _ γ13 hγ13 => (pc_i (fun _ => (he72 _ _ hγ13)) (fun _ => (pc_b8 (p8_f_Nr_readEquation  hγ13) (fun _ γ15 hγ15 => (pc_c (fun _ => (ih _ _ _ hγ15)))))))))))))
theorem p8_f_Nr_readBody_b31 {x18 : Int} {γ : St} (h : P8 γ) : pc (f_Nr_readBody_b31 γ x18) (fun z => P8 z.2) := by
  unfold f_Nr_readBody_b31
  exact (p8_f_Nr_readBody_L34 (fun _ _ h => p8_f_Nr_readBody_b72  h) _ _ _ _ h)
theorem p8_f_Nr_readBody_b30  {γ : St} (h : P8 γ) : pc (f_Nr_readBody_b30 γ) (fun z => P8 z.2) := by
  unfold f_Nr_readBody_b30
  exact (p8_f_Nr_readBody_b31  h)
theorem p8_f_Nr_readBody  {γ : St} (h : P8 γ) : pc (f_Nr_readBody γ) (fun z => P8 z.2) := by
  unfold f_Nr_readBody
  exact (pc_b8 (p8_f_Nr_readVars  h) (fun _ γ20 hγ20 => (pc_i (fun _ => (p8_f_Nr_readBody_b30  hγ20)) (fun _ => (pc_b8 (p8_f_Tk_expect  hγ20) (fun _ γ23 hγ23 => (pc_i (fun _ => (p8_f_Nr_readBody_b30  hγ23)) (fun _ => (pc_b8 (p8_f_Nr_readEquation  hγ23) (fun _ γ25 hγ25 => (pc_i (fun _ => (p8_f_Nr_readBody_b30  hγ25)) (fun _ => (p8_f_Nr_readBody_b31  hγ25)))))))))))))
theorem p8_rdN {γ : St} (h : P8 γ) : pc (rdN γ) (fun z => P8 z.2) := by
  unfold rdN
  exact pc_b8 (p8_f_Nr_readHead h) (fun _ γ1 h1 => pc_i (fun _ => pc_s h1) (fun _ => p8_f_Nr_readBody h1))
