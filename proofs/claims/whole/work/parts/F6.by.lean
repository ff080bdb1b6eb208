/-! equality: feed and end -/
theorem bv_sh (b : BitVec 32) (n : Nat) (h : n ≤ 24) : (b.sshiftRight n).signExtend 8 = (b >>> n).signExtend 8 := by
  apply BitVec.eq_of_getLsbD_eq
  intro i hi
  rw [BitVec.getLsbD_signExtend, BitVec.getLsbD_signExtend, BitVec.getLsbD_sshiftRight, BitVec.getLsbD_ushiftRight]
  have e1 : i < 32 := by omega
  have e2 : n + i < 32 := by omega
  simp [hi, e1, e2]
theorem i2b_24 (x : Int) : i2b (iushr x 24) = i2b (ishr x 24) := by
  unfold i2b iushr ishr iI
  rw [Int32.ofInt_toInt, Int32.ofInt_toInt]
  congr 1
  congr 1
  generalize Int32.ofInt x = y
  rw [← Int8.toBitVec_inj]
  have e1 : (Int32.ofInt 24).toUInt32 &&& Int32.toUInt32 31 = 24 := by decide
  rw [e1]
  show ((y.toUInt32 >>> 24).toInt32).toBitVec.signExtend 8 = (y >>> Int32.ofInt 24).toBitVec.signExtend 8
  rw [Int32.toBitVec_shiftRight]
  exact (bv_sh y.toBitVec 24 (by omega)).symm
theorem i2b_16 (x : Int) : i2b (iushr x 16) = i2b (ishr x 16) := by
  unfold i2b iushr ishr iI
  rw [Int32.ofInt_toInt, Int32.ofInt_toInt]
  congr 1
  congr 1
  generalize Int32.ofInt x = y
  rw [← Int8.toBitVec_inj]
  have e1 : (Int32.ofInt 16).toUInt32 &&& Int32.toUInt32 31 = 16 := by decide
  rw [e1]
  show ((y.toUInt32 >>> 16).toInt32).toBitVec.signExtend 8 = (y >>> Int32.ofInt 16).toBitVec.signExtend 8
  rw [Int32.toBitVec_shiftRight]
  exact (bv_sh y.toBitVec 16 (by omega)).symm
theorem i2b_8 (x : Int) : i2b (iushr x 8) = i2b (ishr x 8) := by
  unfold i2b iushr ishr iI
  rw [Int32.ofInt_toInt, Int32.ofInt_toInt]
  congr 1
  congr 1
  generalize Int32.ofInt x = y
  rw [← Int8.toBitVec_inj]
  have e1 : (Int32.ofInt 8).toUInt32 &&& Int32.toUInt32 31 = 8 := by decide
  rw [e1]
  show ((y.toUInt32 >>> 8).toInt32).toBitVec.signExtend 8 = (y >>> Int32.ofInt 8).toBitVec.signExtend 8
  rw [Int32.toBitVec_shiftRight]
  exact (bv_sh y.toBitVec 8 (by omega)).symm
theorem i2b_0 (x : Int) : i2b (iushr x 0) = i2b x := by
  unfold i2b iushr iI
  rw [Int32.ofInt_toInt]
  congr 1
/-- a word's bytes, the highest first -/
def by4 (a i : Int) : Int := if i = 0 then i2b (ishr a 24) else if i = 1 then i2b (ishr a 16) else if i = 2 then i2b (ishr a 8) else i2b a
theorem by4_eq (x : Int) {i : Int} (h0 : 0 ≤ i) (h1 : i < 4) : i2b (iushr x (24 - 8 * i)) = by4 x i := by
  have q : i = 0 ∨ i = 1 ∨ i = 2 ∨ i = 3 := by omega
  unfold by4
  rcases q with q | q | q | q <;> subst q
  · exact i2b_24 x
  · exact i2b_16 x
  · exact i2b_8 x
  · exact i2b_0 x
theorem append_pc {γ : St} {a : Int} : pc (f_S_append γ a) (fun z => ∀ j k, z.2 j k = if j = 0 ∧ k = 10 then γ 0 10 + 4 else if j = 13 ∧ γ 0 10 ≤ k ∧ k < γ 0 10 + 4 then by4 a (k - γ 0 10) else γ j k) := by
  unfold f_S_append
  refine pc_c (fun _ => pc_a (pc_c (fun _ => pc_c (fun _ => pc_a (pc_c (fun _ => pc_c (fun _ => pc_a (pc_c (fun _ => pc_c (fun _ => pc_a (pc_c (fun _ => pc_a (pc_s (fun j k => ?_))))))))))))))
  show setA _ 0 10 _ j k = _
  simp only [stA, show ¬ ((0 : Nat) = 13) by decide, false_and, if_false]
  by_cases c : j = 0 ∧ k = 10
  · rw [if_pos c, if_pos c]
  · rw [if_neg c, if_neg c]
    by_cases d : j = 13 ∧ γ 0 10 ≤ k ∧ k < γ 0 10 + 4
    · rw [if_pos d]
      unfold by4
      have q : k = γ 0 10 ∨ k = γ 0 10 + 1 ∨ k = γ 0 10 + 2 ∨ k = γ 0 10 + 3 := by omega
      rcases q with q | q | q | q
      · rw [if_neg (by omega), if_neg (by omega), if_neg (by omega), if_pos (by omega), if_pos (by omega)]
      · rw [if_neg (by omega), if_neg (by omega), if_pos (by omega), if_neg (by omega), if_pos (by omega)]
      · rw [if_neg (by omega), if_pos (by omega), if_neg (by omega), if_neg (by omega), if_pos (by omega)]
      · rw [if_pos (by omega), if_neg (by omega), if_neg (by omega), if_neg (by omega)]
    · rw [if_neg d, if_neg (by omega), if_neg (by omega), if_neg (by omega), if_neg (by omega)]
/-- the bytes that a call feeds -/
def fb (a0 a1 a2 a3 a4 i : Int) : Int := by4 (if i < 4 then a0 else if i < 8 then a1 else if i < 12 then a2 else if i < 16 then a3 else a4) (i % 4)
theorem s_feed {γ : St} {a0 a1 a2 a3 a4 : Int} : pc (f_S_feed γ a0 a1 a2 a3 a4) (fun z => ∀ j k, z.2 j k = if j = 0 ∧ k = 10 then γ 0 10 + 20 else if j = 13 ∧ γ 0 10 ≤ k ∧ k < γ 0 10 + 20 then fb a0 a1 a2 a3 a4 (k - γ 0 10) else γ j k) := by
  unfold f_S_feed
  refine pc_c (fun _ => pc_i (fun _ => ?_) (fun _ => pc_n))
  refine pc_b append_pc (fun _ γ1 e1 => pc_b append_pc (fun _ γ2 e2 => pc_b append_pc (fun _ γ3 e3 => pc_b append_pc (fun _ γ4 e4 => pc_b append_pc (fun _ γ5 e5 => pc_s (fun j k => ?_))))))
  have e1 : ∀ j k, γ1 j k = _ := e1
  have e2 : ∀ j k, γ2 j k = _ := e2
  have e3 : ∀ j k, γ3 j k = _ := e3
  have e4 : ∀ j k, γ4 j k = _ := e4
  have e5 : ∀ j k, γ5 j k = _ := e5
  have l1 : γ1 0 10 = γ 0 10 + 4 := by rw [e1, if_pos ⟨rfl, rfl⟩]
  have l2 : γ2 0 10 = γ 0 10 + 8 := by rw [e2, if_pos ⟨rfl, rfl⟩]; omega
  have l3 : γ3 0 10 = γ 0 10 + 12 := by rw [e3, if_pos ⟨rfl, rfl⟩]; omega
  have l4 : γ4 0 10 = γ 0 10 + 16 := by rw [e4, if_pos ⟨rfl, rfl⟩]; omega
  show γ5 j k = _
  rw [e5, l4, e4, l3, e3, l2, e2, l1, e1]
  by_cases q : j = 0 ∧ k = 10
  · rw [if_pos q, if_pos q]; omega
  · rw [if_neg q, if_neg q, if_neg q, if_neg q, if_neg q, if_neg q]
    by_cases q2 : j = 13 ∧ γ 0 10 ≤ k ∧ k < γ 0 10 + 20
    · rw [if_pos q2]
      unfold fb
      by_cases q3 : γ 0 10 + 16 ≤ k
      · rw [if_pos (by omega), if_neg (by omega), if_neg (by omega), if_neg (by omega), if_neg (by omega)]
        congr 1; omega
      · rw [if_neg (by omega)]
        by_cases q4 : γ 0 10 + 12 ≤ k
        · rw [if_pos (by omega), if_neg (by omega), if_neg (by omega), if_neg (by omega), if_pos (by omega)]
          congr 1; omega
        · rw [if_neg (by omega)]
          by_cases q5 : γ 0 10 + 8 ≤ k
          · rw [if_pos (by omega), if_neg (by omega), if_neg (by omega), if_pos (by omega)]
            congr 1; omega
          · rw [if_neg (by omega)]
            by_cases q6 : γ 0 10 + 4 ≤ k
            · rw [if_pos (by omega), if_neg (by omega), if_pos (by omega)]
              congr 1; omega
            · rw [if_neg (by omega), if_pos (by omega), if_pos (by omega)]
              congr 1; omega
    · rw [if_neg (by omega), if_neg (by omega), if_neg (by omega), if_neg (by omega), if_neg (by omega), if_neg q2]
theorem irem4' : ∀ n : Fin 20, irem (n.val : Int) 4 = (n.val : Int) % 4 := by decide +kernel
theorem irem_4' {x : Int} (h0 : 0 ≤ x) (h1 : x < 20) : irem x 4 = x % 4 := by
  have e := irem4' ⟨x.toNat, by omega⟩
  have e2 : ((x.toNat : Nat) : Int) = x := by omega
  simp only [e2] at e
  exact e
theorem m_feed2_L33 {γ0 : St} {a0 a1 a2 a3 a4 : Int} : ∀ (n : Nat) (γ : St) (k : Int), 0 ≤ k → k ≤ 20 → (∀ j i, γ j i = if j = 0 ∧ i = 1 then γ0 0 1 + k else if j = 1 ∧ γ0 0 1 ≤ i ∧ i < γ0 0 1 + k then fb a0 a1 a2 a3 a4 (i - γ0 0 1) else γ0 j i) → pc (f_M_feed_L33 n γ a0 a1 a2 a3 a4 k) (fun z => ∀ j i, z.2 j i = if j = 0 ∧ i = 1 then γ0 0 1 + 20 else if j = 1 ∧ γ0 0 1 ≤ i ∧ i < γ0 0 1 + 20 then fb a0 a1 a2 a3 a4 (i - γ0 0 1) else γ0 j i) := by
  intro n
  induction n with
  | zero => intro γ k q1 q2 q3; exact pc_n
  | succ n ih =>
    intro γ k q1 q2 q3
    have nx : k < 20 → ∀ w, w = (if k < 4 then a0 else if k < 8 then a1 else if k < 12 then a2 else if k < 16 then a3 else a4) → pc (f_M_feed_b86 (f_M_feed_L33 n) γ a0 a1 a2 a3 a4 k w) (fun z => ∀ j i, z.2 j i = if j = 0 ∧ i = 1 then γ0 0 1 + 20 else if j = 1 ∧ γ0 0 1 ≤ i ∧ i < γ0 0 1 + 20 then fb a0 a1 a2 a3 a4 (i - γ0 0 1) else γ0 j i) := fun lt w hw => by
      have r := irem_4' q1 lt
      unfold f_M_feed_b86
      refine pc_c (fun _ => pc_a (pc_c (fun _ => pc_c (fun _ => pc_c (fun _ => pc_c (fun _ => pc_a (pc_c (fun _ => ?_))))))))
      refine ih _ (k + 1) (by omega) (by omega) (fun j i => ?_)
      have l : γ 0 1 = γ0 0 1 + k := by rw [q3, if_pos ⟨rfl, rfl⟩]
      rw [stA, stA, r, by4_eq w (by omega) (by omega), l]
      by_cases c1 : j = 1 ∧ i = γ0 0 1 + k
      · rw [if_pos c1, if_neg (by omega), if_pos (by omega)]
        unfold fb
        rw [hw, c1.2, show γ0 0 1 + k - γ0 0 1 = k by omega]
      · rw [if_neg c1]
        by_cases c2 : j = 0 ∧ i = 1
        · rw [if_pos c2, if_pos c2]; omega
        · rw [if_neg c2, if_neg c2, q3, if_neg c2]
          by_cases c3 : j = 1 ∧ γ0 0 1 ≤ i ∧ i < γ0 0 1 + k
          · rw [if_pos c3, if_pos (by omega)]
          · rw [if_neg c3, if_neg (by omega)]
    unfold f_M_feed_L33
    refine pc_i (fun q => pc_s ?_) (fun q => ?_)
    · have e : k = 20 := by omega
      rw [← e]; exact q3
    · exact pc_i (fun w1 => pc_i (fun w2 => pc_i (fun w3 => pc_i (fun w4 => nx (by omega) _ (by rw [if_neg (by omega), if_neg (by omega), if_neg (by omega), if_neg (by omega)])) (fun w4 => nx (by omega) _ (by rw [if_neg (by omega), if_neg (by omega), if_neg (by omega), if_pos (by omega)]))) (fun w3 => nx (by omega) _ (by rw [if_neg (by omega), if_neg (by omega), if_pos (by omega)]))) (fun w2 => nx (by omega) _ (by rw [if_neg (by omega), if_pos (by omega)]))) (fun w1 => nx (by omega) _ (by rw [if_pos (by omega)]))
