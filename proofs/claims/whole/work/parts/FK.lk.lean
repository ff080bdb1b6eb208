/-! equality: an instant of the class means what one of the reference means -/
theorem kd_i {c k : Int} (h : kdM c = k) (hk : 0 ≤ k) : ((k = 0 → c = 3) ∧ (k = 1 → c = 40 ∨ c = 41) ∧ (k = 2 → c = 2) ∧ (k = 3 → c = 43) ∧ (k = 4 → c = 32) ∧ (k = 5 → c = 18) ∧ (k = 6 → c = 37) ∧ (k = 7 → c = 19)) ∧ ((k = 8 → c = 30) ∧ (k = 9 → c = 31) ∧ (k = 10 → c = 29) ∧ (11 ≤ k → k ≤ 19 → c = k - 2) ∧ (k = 20 → c = 38) ∧ (k = 21 → c = 39)) ∧ (k = 22 → c = 42) ∧ (k = 23 → c = 28) ∧ (k = 24 → c = 35) ∧ (k = 25 → c = 36) ∧ (k = 26 → c = 27) ∧ k ≤ 26 := by
  have t := kd_c h hk
  refine ⟨⟨?_, ?_, ?_, ?_, ?_, ?_, ?_, ?_⟩, ⟨?_, ?_, ?_, ?_, ?_, ?_⟩, ?_, ?_, ?_, ?_, ?_, ?_⟩ <;> omega
section RS
variable {x y w i o : Int} {M : Int → Int}
theorem rs_30 : rsF 30 x y w i M o = jnF 8 x y := rfl
theorem rs_31 : rsF 31 x y w i M o = jnF 9 x y := rfl
theorem rs_29 : rsF 29 x y w i M o = jnF 10 x y := rfl
theorem rs_9 : rsF 9 x y w i M o = jnF 11 x y := rfl
theorem rs_10 : rsF 10 x y w i M o = jnF 12 x y := rfl
theorem rs_11 : rsF 11 x y w i M o = jnF 13 x y := rfl
theorem rs_12 : rsF 12 x y w i M o = jnF 14 x y := rfl
theorem rs_13 : rsF 13 x y w i M o = jnF 15 x y := rfl
theorem rs_14 : rsF 14 x y w i M o = jnF 16 x y := rfl
theorem rs_15 : rsF 15 x y w i M o = jnF 17 x y := rfl
theorem rs_16 : rsF 16 x y w i M o = jnF 18 x y := rfl
theorem rs_17 : rsF 17 x y w i M o = jnF 19 x y := rfl
theorem rs_38 : rsF 38 x y w i M o = jnF 20 x y := by simp [rsF, jnF]
theorem rs_39 : rsF 39 x y w i M o = jnF 21 x y := by simp [rsF, jnF]
theorem rs_32 : rsF 32 x y w i M o = if x ≠ 1 then w else y := rfl
theorem rs_18 : rsF 18 x y w i M o = if M i ≠ 0 then y else x := rfl
theorem rs_37 : rsF 37 x y w i M o = if M i ≠ 0 then M (i + 1) else x := rfl
theorem rs_42 : rsF 42 x y w i M o = wr (-x) := rfl
theorem rs_28 : rsF 28 x y w i M o = wr (1 - x) := rfl
theorem rs_35 : rsF 35 x y w i M o = M i := rfl
theorem rs_36 : rsF 36 x y w i M o = if y ≠ o then M i else x := rfl
theorem rs_19 : rsF 19 x y w i M o = ior (wr (1 - x)) y := rfl
end RS
/-- whether a clock is on, by what the variables are worth -/
def onF (G γ : St) : Nat → Int → Prop
  | 0, _ => False
  | n + 1, c => c = 0 ∨ (WV γ (slC c) = iand (c - 1) 1 ∧ onF G γ n (G 59 (slC c)))
def onK (G γ : St) (c : Int) : Prop := onF G γ (c.toNat + 1) c
theorem onF_f {G γ : St} {V : Int} (cko : ∀ u, 0 ≤ u → u < V → 0 ≤ G 59 u ∧ G 59 u ≤ 2 * u) : ∀ (n m : Nat) (c : Int), 0 ≤ c → c ≤ 2 * V → c < n → c < m → (onF G γ n c ↔ onF G γ m c) := by
  intro n
  induction n with
  | zero => intro m c h0 _ h1; exfalso; omega
  | succ n ih =>
    intro m c h0 hv h1 h2
    cases m with
    | zero => exfalso; omega
    | succ m =>
      show (c = 0 ∨ (WV γ (slC c) = iand (c - 1) 1 ∧ onF G γ n (G 59 (slC c)))) ↔ (c = 0 ∨ (WV γ (slC c) = iand (c - 1) 1 ∧ onF G γ m (G 59 (slC c))))
      by_cases q : c = 0
      · exact ⟨fun _ => Or.inl q, fun _ => Or.inl q⟩
      · have u := slC_p (show 1 ≤ c by omega)
        have k := cko (slC c) (by omega) (by omega)
        rw [ih m (G 59 (slC c)) k.1 (by omega) (by omega) (by omega)]
theorem onK_z {G γ : St} : onK G γ 0 := Or.inl rfl
theorem onK_s {G γ : St} {V : Int} (cko : ∀ u, 0 ≤ u → u < V → 0 ≤ G 59 u ∧ G 59 u ≤ 2 * u) {c : Int} (h1 : 1 ≤ c) (h2 : c ≤ 2 * V) : onK G γ c ↔ WV γ (slC c) = iand (c - 1) 1 ∧ onK G γ (G 59 (slC c)) := by
  have u := slC_p h1
  have k := cko (slC c) (by omega) (by omega)
  unfold onK
  show (c = 0 ∨ (WV γ (slC c) = iand (c - 1) 1 ∧ onF G γ c.toNat (G 59 (slC c)))) ↔ _
  rw [onF_f cko c.toNat ((G 59 (slC c)).toNat + 1) (G 59 (slC c)) k.1 (by omega) (by omega) (by omega)]
  exact ⟨fun z => z.resolve_left (by omega), fun z => Or.inr z⟩
/-- the class's clocks are on where they are by what the variables are worth -/
theorem on_eq {G γ γ' : St} {S V : Int} (sc : SmC G γ γ' S V) (cko : ∀ u, 0 ≤ u → u < V → 0 ≤ G 59 u ∧ G 59 u ≤ 2 * u) : ∀ (n : Nat) (c : Int), c < n → 0 ≤ c → c ≤ 2 * V → (c ≠ 0 → ClN G γ' c) → (OnC γ' c = 1 ↔ onK G γ' c) := by
  obtain ⟨⟨_, pg⟩, _, ⟨o0, oc⟩, _⟩ := sc
  obtain ⟨_, _, _, ⟨_, _, _, d4, _⟩, _⟩ := pg
  intro n
  induction n with
  | zero => intro c h0 h1; exfalso; omega
  | succ n ih =>
    intro c h0 h1 h2 hc
    by_cases q : c = 0
    · rw [q]
      exact ⟨fun _ => onK_z, fun _ => o0⟩
    · have u := slC_p (show 1 ≤ c by omega)
      have k := cko (slC c) (by omega) (by omega)
      rw [onK_s cko (by omega) h2, oc c (hc q)]
      have i := ih (G 59 (slC c)) (by omega) k.1 (by omega) (fun z => d4 (slC c) (by omega) (by omega) z)
      by_cases y : WV γ' (slC c) ≠ iand (c - 1) 1
      · rw [if_pos y]
        exact ⟨fun z => absurd z (by decide), fun z => absurd z.1 y⟩
      · rw [if_neg y, i]
        exact ⟨fun z => ⟨by omega, z⟩, fun z => z.2⟩
/-- all that stands of a program -/
def TyS (D : St) (τ : Int → Int → Int) : Prop := ∀ f k, 0 ≤ f → f < D 0 18 → D 7 f ≤ k → k < D 7 (f + 1) → (∀ e, D 19 k ≤ e → e ≤ D 17 k → (D 20 e = 1 → Bl (D 21 e)) ∧ ∃ ms, Ch (D 23) (D 22 e) ms ∧ TyQ D (τ k) (D 4 f) e ms) ∧ ∀ i, D 16 k ≤ i → i < D 16 (k + 1) → D 14 (D 4 f + D 18 i) = if D 20 (D 17 k) = 3 then D 14 (D 4 (D 21 (D 17 k)) + D 5 (D 21 (D 17 k)) + (i - D 16 k)) else τ k (D 17 k)
def StX (G D : St) (σ : Int → Int → Int) (κ P : Int → Int) (τ : Int → Int → Int) (V S : Int) : Prop := LB V G D σ κ ∧ PpI D D 0 P ∧ OrdX G S ∧ (S = G 8 5 ∧ V = G 8 8 ∧ V < S ∧ 0 ≤ V ∧ V ≤ 6000) ∧ TyS D τ ∧ OrR D ∧ (∀ s, 0 ≤ s → s < V → G 54 s = 2) ∧ (G 54 V = 3 ∧ G 58 V = 1) ∧ (∀ u, 0 ≤ u → u < V → 0 ≤ G 59 u ∧ G 59 u ≤ 2 * u) ∧ ∀ i, 0 ≤ i → i < G 8 11 → 0 ≤ G 62 i ∧ G 62 i ≤ 2 * V
/-- cells against memory -/
def DyR (G D : St) (σ : Int → Int → Int) (τ : Int → Int → Int) (C M : Int → Int) : Prop := ∀ y k e, 0 ≤ y → y < D 0 50 → D 7 (D 35 y) ≤ k → k < D 7 (D 35 y + 1) → D 19 k ≤ e → e ≤ D 17 k → (D 20 e = 24 ∨ D 20 e = 25 → C (G 58 (σ y e)) = M (D 39 y + D 25 e)) ∧ (D 20 e = 5 → C (G 58 (σ y e)) = M (D 39 y + D 25 e) ∧ Bl (M (D 39 y + D 25 e))) ∧ (D 20 e = 6 → C (G 58 (σ y e)) = M (D 39 y + D 25 e + 1) ∧ Bl (M (D 39 y + D 25 e + 1)) ∧ C (G 58 (σ y e) + 1) = M (D 39 y + D 25 e)) ∧ (τ k e = 1 → D 20 e = 6 ∨ D 20 e = 24 ∨ D 20 e = 25 → Bl (M (D 39 y + D 25 e)))
def onX (G D γ : St) (κ : Int → Int) (x c : Int) : Prop := onK G γ (ccK (D 38 x) (κ x) c)
section LK
variable {G D γ γ' : St} {σ : Int → Int → Int} {κ P : Int → Int} {τ : Int → Int → Int} {V S : Int} {M : Int → Int}
set_option maxHeartbeats 2000000 in
theorem lk_wk (st : StX G D σ κ P τ V S) (sc : SmC G γ γ' S V) (pgx : PgX G γ S V) (dy : DyR G D σ τ (γ 81) M) {x e : Int} (x0 : 0 ≤ x) (x1 : x < D 0 50) (e0 : psN D (D 35 x) ≤ e) (e1 : e < peN D (D 35 x)) : WkE D (WV γ') (fun x e => WV γ' (σ x e)) M x e := by
  obtain ⟨lb, pp, o, ⟨s1, s2, s3, s4, s5⟩, ty, orr, k2, one, cko, mc⟩ := st
  have nn := sg_nn lb x0 x1
  obtain ⟨l, ar, tb, f41, g34, ⟨κ0, kV⟩, iy, mi⟩ := lb
  have ixa := (l.2.2.2.2.2.2.2.2.1 x x0 x1).1
  have ixx := ixa.1
  have b38 := ixa.2.1
  have nd := l.nd x0 x1
  have sz := nd.sz
  have nv : nvN D (D 35 x) = D 4 (D 35 x + 1) - D 4 (D 35 x) := rfl
  have lp := (iy x x0 x1).1.1 e e0 e1
  obtain ⟨⟨kd1, kd2⟩, _⟩ := tb.pt ixx.1 ixx.2 e0 e1
  obtain ⟨ks, g1, g2, g3, g4, g5, gf, _⟩ := nd.pt e0 e1
  have kd := kd_i kd1 g5.1.1
  obtain ⟨k, k1, k2', k3⟩ := nd.at e0 e1
  have eq := nd.eq k1.1 k1.2
  have an := ar _ ixx.1 ixx.2
  have dd := dy x k e x0 x1 k1.1 k1.2 k2' k3
  have kp : ∀ y ∈ ks, 0 ≤ σ x y := fun y hy => by
    have m := g2.mem y hy
    exact (nn ((y - psN D (D 35 x)).toNat + 1) y (by omega) (by omega) (by omega)).1
  have wo : ∀ a, 0 ≤ a → WO γ' a = WV γ' a := fun a h => by unfold WO; rw [if_pos h]
  have se : ∀ (j : Nat) y, ks[j]? = some y → WO γ' (sdF (σ x) ks j) = WV γ' (σ x y) := fun j y hj => by
    have e : sdF (σ x) ks j = σ x y := by unfold sdF; rw [hj]
    rw [e]; exact wo _ (kp y (List.mem_of_getElem? hj))
  have ck := ch_kd g1
  -- an operator
  have op : opK (G 38 e) → (0 ≤ σ x e ∧ σ x e < S) ∧ WV γ' (σ x e) = rsF (G 38 e) (WO γ' (G 55 (σ x e))) (WO γ' (G 56 (σ x e))) (WO γ' (G 57 (σ x e))) (G 58 (σ x e)) (γ 81) (γ 86 (γ 62 (G 58 (σ x e)))) ∧ (G 38 e ≠ 35 → G 55 (σ x e) = sdF (σ x) ks 0) ∧ (G 38 e ≠ 37 → G 38 e ≠ 36 → G 56 (σ x e) = sdF (σ x) ks 1) ∧ (G 38 e = 36 → G 56 (σ x e) = slC (ccK (D 38 x) (κ x) (G 41 e)) ∧ (0 ≤ G 58 (σ x e) ∧ G 58 (σ x e) < G 8 11) ∧ G 62 (G 58 (σ x e)) = ccK (D 38 x) (κ x) (G 41 e)) ∧ G 57 (σ x e) = sdF (σ x) ks 2 := fun ok => by
    obtain ⟨ks', o1, o2, ⟨o3, o4, o5, o6⟩, o7, _⟩ := lp.2.2.2.2 ok
    rw [Ch.uniq o1 g1] at o4 o5 o6
    have b : 0 ≤ σ x e ∧ σ x e < S := by omega
    have c := (sc.2.1 _ b.1 b.2).2.2.2.1 (by rw [o3]; exact ok.1) (by rw [o3]; exact ok.2.1)
    rw [o3] at c
    refine ⟨b, c, fun q => by rw [if_neg q] at o4; exact o4, fun q1 q2 => by rw [if_neg q1, if_neg q2] at o5; exact o5, fun q => ?_, o6⟩
    rw [if_neg (by omega), if_pos q] at o5
    have o8 := o7 (Or.inr q)
    exact ⟨o5, o8.1, o8.2.2⟩
  have ok : G 38 e = 32 ∨ G 38 e = 18 ∨ G 38 e = 37 ∨ G 38 e = 19 ∨ G 38 e = 30 ∨ G 38 e = 31 ∨ G 38 e = 29 ∨ (9 ≤ G 38 e ∧ G 38 e ≤ 17) ∨ G 38 e = 38 ∨ G 38 e = 39 ∨ G 38 e = 42 ∨ G 38 e = 28 ∨ G 38 e = 35 ∨ G 38 e = 36 → opK (G 38 e) := fun h => by
    clear kd dd op se ck lp
    exact ⟨by omega, by omega, by omega, by omega, by omega, by omega⟩
  have two : ∀ K, G 38 e = K → opK (G 38 e) → K ≠ 35 → K ≠ 36 → K ≠ 37 → 2 ≤ ks.length → WV γ' (σ x e) = rsF K (WV γ' (σ x (D 22 e))) (WV γ' (σ x (D 23 (D 22 e)))) (WO γ' (G 57 (σ x e))) (G 58 (σ x e)) (γ 81) (γ 86 (γ 62 (G 58 (σ x e)))) := fun K hK h n35 n36 n37 l2 => by
    have p := op h
    rw [hK] at p
    have r := p.2.1
    rw [p.2.2.1 n35, p.2.2.2.1 n37 n36, se 0 _ (ck.1 (by omega)), se 1 _ (ck.2.1 l2)] at r
    exact r
  have onek : ∀ K, G 38 e = K → opK (G 38 e) → K ≠ 35 → 1 ≤ ks.length → WV γ' (σ x e) = rsF K (WV γ' (σ x (D 22 e))) (WO γ' (G 56 (σ x e))) (WO γ' (G 57 (σ x e))) (G 58 (σ x e)) (γ 81) (γ 86 (γ 62 (G 58 (σ x e)))) := fun K hK h n35 l1 => by
    have p := op h
    rw [hK] at p
    have r := p.2.1
    rw [p.2.2.1 n35, se 0 _ (ck.1 l1)] at r
    exact r
  have len2 : 5 ≤ D 20 e → D 20 e ≤ 21 → 2 ≤ ks.length := fun a b => by rw [g4.2.2.2.1 ⟨a, b⟩]; exact Nat.le_refl _
  have len1 : 22 ≤ D 20 e → 1 ≤ ks.length := fun a => by rw [g4.2.2.2.2 a]; exact Nat.le_refl _
  refine ⟨fun q => ?_, fun q => ?_, fun q => ?_, fun q => ?_, fun q => ?_, fun q => ?_, fun q => ?_, fun q => ?_, fun q => ?_, fun q => ?_, fun q => ?_, fun q => ?_, fun q q' => ?_⟩
  · have h : G 38 e = 3 ∨ G 38 e = 40 ∨ G 38 e = 41 := by
      rcases q with q | q
      · exact Or.inl (kd.1.1 q)
      · exact Or.inr (kd.1.2.1 q)
    obtain ⟨b, c1, c2, _⟩ := lp.1 h
    show WV γ' (σ x e) = _
    rw [(sc.2.1 _ (show 0 ≤ σ x e by omega) (by omega)).1 c1, c2, kd2]
  · show WV γ' (σ x e) = _
    rw [lp.2.1 (kd.1.2.2.1 q), kd2]
  · show WV γ' (σ x e) = _
    rw [lp.2.2.2.1 (kd.1.2.2.2.1 q)]
  · have hK := kd.1.2.2.2.2.1 q
    have l3 := g4.2.2.1 q
    have h := ok (Or.inl hK)
    have r := two 32 hK h (by decide) (by decide) (by decide) (by omega)
    rw [(op h).2.2.2.2.2, se 2 _ (ck.2.2 (by omega)), rs_32] at r
    exact r
  · have hK := kd.1.2.2.2.2.2.1 q
    have h := ok (Or.inr (Or.inl hK))
    have r := two 18 hK h (by decide) (by decide) (by decide) (len2 (by omega) (by omega))
    have d5 := dd.2.1 q
    rw [rs_18] at r
    show WV γ' (σ x e) = if M (D 39 x + D 25 e) ≠ 1 then WV γ' (σ x (D 22 e)) else WV γ' (σ x (D 23 (D 22 e)))
    rw [r, d5.1]
    rcases d5.2 with z | z
    · rw [z, if_neg (by decide), if_pos (by decide)]
    · rw [z, if_pos (by decide), if_neg (by decide)]
  · have hK := kd.1.2.2.2.2.2.2.1 q
    have h := ok (Or.inr (Or.inr (Or.inl hK)))
    have r := onek 37 hK h (by decide) (by have := len2 (by omega) (by omega); omega)
    have d6 := dd.2.2.1 q
    rw [rs_37] at r
    show WV γ' (σ x e) = if M (D 39 x + D 25 e + 1) ≠ 1 then WV γ' (σ x (D 22 e)) else M (D 39 x + D 25 e)
    rw [r, d6.1, d6.2.2]
    rcases d6.2.1 with z | z
    · rw [z, if_neg (by decide), if_pos (by decide)]
    · rw [z, if_pos (by decide), if_neg (by decide)]
  · have hK := kd.2.2.1 q
    exact (onek 42 hK (ok (Or.inr (Or.inr (Or.inr (Or.inr (Or.inr (Or.inr (Or.inr (Or.inr (Or.inr (Or.inr (Or.inl hK)))))))))))) (by decide) (len1 (by omega))).trans rs_42
  · have hK := kd.2.2.2.1 q
    exact (onek 28 hK (ok (Or.inr (Or.inr (Or.inr (Or.inr (Or.inr (Or.inr (Or.inr (Or.inr (Or.inr (Or.inr (Or.inr (Or.inl hK))))))))))))) (by decide) (len1 (by omega))).trans rs_28
  · have hK := kd.2.2.2.2.1 q
    have h := ok (Or.inr (Or.inr (Or.inr (Or.inr (Or.inr (Or.inr (Or.inr (Or.inr (Or.inr (Or.inr (Or.inr (Or.inr (Or.inl hK)))))))))))))
    have r := (op h).2.1
    rw [hK] at r
    rw [rs_35] at r
    show WV γ' (σ x e) = M (D 39 x + D 25 e)
    rw [r]; exact dd.1 (Or.inl q)
  · have hK := kd.2.2.2.2.2.1 q
    have h := ok (Or.inr (Or.inr (Or.inr (Or.inr (Or.inr (Or.inr (Or.inr (Or.inr (Or.inr (Or.inr (Or.inr (Or.inr (Or.inr hK)))))))))))))
    have r := onek 36 hK h (by decide) (len1 (by omega))
    have p := (op h).2.2.2.2.1 hK
    have f25 := fl_25 nd an.1 (an.2 k k1.1 k1.2) k1.1 k1.2 k2' k3 q
    have e41 := f41 _ e ixx.1 ixx.2 e0 e1
    rw [if_pos q] at e41
    have pk2 := (l.pf x0 x1 e0 e1).2.2.2.2 (by omega)
    obtain ⟨_, _, _, _, _, _, fv, _⟩ := nd.pt (e := D 22 e) pk2.1.1 (by omega)
    have cb : D 29 (D 22 e) < 2 * nvN D (D 35 x) := by unfold FlV at fv; omega
    have cc : ccK (D 38 x) (κ x) (G 41 e) = 1 + 2 * D 38 x + D 29 (D 22 e) := by unfold ccK; rw [e41, if_neg (by omega)]
    rw [cc, slC_cc ixa.2.1.1 f25.1] at p
    have cn := sc.1.2.2.2.2.1.2.2.2.2 (G 58 (σ x e)) p.2.1.1 p.2.1.2 (by rw [p.2.2]; omega)
    rw [p.2.2] at cn
    have e62 : γ 62 (G 58 (σ x e)) = γ 83 (1 + 2 * D 38 x + D 29 (D 22 e)) := by rw [(pgx.2.2.2.2 _ p.2.1.1 p.2.1.2).2, p.2.2]
    have fr := sc.1.1
    have e86 : γ 86 (γ 62 (G 58 (σ x e))) = D 29 (D 22 e) % 2 := by
      have z := cn.2.2.2
      rw [fr 83 _ (by omega) (by omega) (by omega), fr 86 _ (by omega) (by omega) (by omega), iand_one (by omega) (by omega)] at z
      rw [e62, z]
      omega
    rw [p.1, wo _ (by omega), e86] at r
    rw [rs_36] at r
    show WV γ' (σ x e) = if WV γ' (D 38 x + D 29 (D 22 e) / 2) ≠ D 29 (D 22 e) % 2 then M (D 39 x + D 25 e) else WV γ' (σ x (D 22 e))
    rw [r, dd.1 (Or.inr q)]
  · show WV γ' (σ x e) = _
    rw [lp.2.2.1 (kd.2.2.2.2.2.2.1 q)]
  · have hK := kd.1.2.2.2.2.2.2.2 q
    exact (two 19 hK (ok (Or.inr (Or.inr (Or.inr (Or.inl hK))))) (by decide) (by decide) (by decide) (len2 (by omega) (by omega))).trans rs_19
  · have l2 := len2 (by omega) q'
    have t : D 20 e = 8 ∨ D 20 e = 9 ∨ D 20 e = 10 ∨ D 20 e = 11 ∨ D 20 e = 12 ∨ D 20 e = 13 ∨ D 20 e = 14 ∨ D 20 e = 15 ∨ D 20 e = 16 ∨ D 20 e = 17 ∨ D 20 e = 18 ∨ D 20 e = 19 ∨ D 20 e = 20 ∨ D 20 e = 21 := by omega
    have mid : ∀ K, D 20 e = K + 2 → 9 ≤ K → K ≤ 17 → WV γ' (σ x e) = rsF K (WV γ' (σ x (D 22 e))) (WV γ' (σ x (D 23 (D 22 e)))) (WO γ' (G 57 (σ x e))) (G 58 (σ x e)) (γ 81) (γ 86 (γ 62 (G 58 (σ x e)))) := fun K h1 h2 h3 => by
      have hK := kd.2.1.2.2.2.1 (by omega) (by omega)
      exact two K (by omega) (ok (Or.inr (Or.inr (Or.inr (Or.inr (Or.inr (Or.inr (Or.inr (Or.inl (by omega)))))))))) (by omega) (by omega) (by omega) l2
    rcases t with t | t | t | t | t | t | t | t | t | t | t | t | t | t
    · rw [t]; exact (two 30 (kd.2.1.1 t) (ok (Or.inr (Or.inr (Or.inr (Or.inr (Or.inl (kd.2.1.1 t))))))) (by decide) (by decide) (by decide) l2).trans rs_30
    · rw [t]; exact (two 31 (kd.2.1.2.1 t) (ok (Or.inr (Or.inr (Or.inr (Or.inr (Or.inr (Or.inl (kd.2.1.2.1 t)))))))) (by decide) (by decide) (by decide) l2).trans rs_31
    · rw [t]; exact (two 29 (kd.2.1.2.2.1 t) (ok (Or.inr (Or.inr (Or.inr (Or.inr (Or.inr (Or.inr (Or.inl (kd.2.1.2.2.1 t))))))))) (by decide) (by decide) (by decide) l2).trans rs_29
    · rw [t]; exact (mid 9 t (by decide) (by decide)).trans rs_9
    · rw [t]; exact (mid 10 t (by decide) (by decide)).trans rs_10
    · rw [t]; exact (mid 11 t (by decide) (by decide)).trans rs_11
    · rw [t]; exact (mid 12 t (by decide) (by decide)).trans rs_12
    · rw [t]; exact (mid 13 t (by decide) (by decide)).trans rs_13
    · rw [t]; exact (mid 14 t (by decide) (by decide)).trans rs_14
    · rw [t]; exact (mid 15 t (by decide) (by decide)).trans rs_15
    · rw [t]; exact (mid 16 t (by decide) (by decide)).trans rs_16
    · rw [t]; exact (mid 17 t (by decide) (by decide)).trans rs_17
    · rw [t]; exact (two 38 (kd.2.1.2.2.2.2.1 t) (ok (Or.inr (Or.inr (Or.inr (Or.inr (Or.inr (Or.inr (Or.inr (Or.inr (Or.inl (kd.2.1.2.2.2.2.1 t))))))))))) (by decide) (by decide) (by decide) l2).trans rs_38
    · rw [t]; exact (two 39 (kd.2.1.2.2.2.2.2 t) (ok (Or.inr (Or.inr (Or.inr (Or.inr (Or.inr (Or.inr (Or.inr (Or.inr (Or.inr (Or.inl (kd.2.1.2.2.2.2.2 t)))))))))))) (by decide) (by decide) (by decide) l2).trans rs_39
theorem lk_rf (st : StX G D σ κ P τ V S) (sc : SmC G γ γ' S V) (pgx : PgX G γ S V) (dy : DyR G D σ τ (γ 81) M) : RfS D (WV γ') (fun x e => WV γ' (σ x e)) (onX G D γ' κ) M τ := by
  have st' := st
  obtain ⟨lb, pp, o, ⟨s1, s2, s3, s4, s5⟩, ty, orr, k2, one, cko, mc⟩ := st
  have lb' := lb
  obtain ⟨l, ar, tb, f41, g34, ⟨κ0, kV⟩, iy, mi⟩ := lb
  have onv : ∀ v, 0 ≤ v → v < D 0 51 → (onV D (onX G D γ' κ) v ↔ onK G γ' (G 59 v)) := fun v v0 v1 => by
    rw [(vr_59 lb' v0 v1).1]; exact Iff.rfl
  refine ⟨l, ar, fun x e x0 x1 e0 e1 => lk_wk st' sc pgx dy x0 x1 e0 e1, fun v x root o v0 v1 rt => ?_, ⟨?_, fun x x0 x1 => ?_, fun x c x0 x1 c0 c1 => ?_⟩, ty, fun x k e x0 x1 a b c d => (dy x k e x0 x1 a b c d).2.2.2⟩
  · have e55 := vr_55 lb' v0 v1 rt
    have at0 := rt.at l v0 v1
    have nn := sg_nn lb' at0.1.1 at0.1.2 ((root - psN D (D 35 x)).toNat + 1) root (by omega) at0.2.1 at0.2.2
    have m := (sc.2.1 v v0 (by omega)).2.1 (k2 v v0 (by omega))
    by_cases c3 : D 20 root = 3
    · rw [if_pos c3] at e55 ⊢
      have := ou_nn l v0 v1 rt c3
      rw [m (by omega), e55]
    · rw [if_neg c3] at e55 ⊢
      rw [m (by omega), e55]
  · show onK G γ' (ccK (D 38 0) (κ 0) (-1))
    unfold ccK
    rw [if_pos rfl, κ0]; exact onK_z
  · have ⟨p1, p2, p3, p4⟩ := (l.2.2.2.2.2.2.2.2.1 x (by omega) x1).2.2.1 x0
    have ixo := (l.2.2.2.2.2.2.2.2.1 (D 36 x) (by omega) (by omega)).1.1
    have e41 := f41 _ (D 37 x) ixo.1 ixo.2 p2.1 p2.2
    rw [if_neg (by omega)] at e41
    have k := ((iy x (by omega) x1).2 x0).1
    rw [e41] at k
    show onK G γ' (ccK (D 38 x) (κ x) (-1)) ↔ onK G γ' (ccK (D 38 (D 36 x)) (κ (D 36 x)) (D 29 (D 37 x)))
    have e1 : ccK (D 38 x) (κ x) (-1) = κ x := by unfold ccK; rw [if_pos rfl]
    rw [e1, k]
  · have ixa := (l.2.2.2.2.2.2.2.2.1 x x0 x1).1
    have vv := l.var x0 x1 (i := c / 2) (by omega) (by omega)
    have cc : ccK (D 38 x) (κ x) c = 1 + 2 * D 38 x + c := by unfold ccK; rw [if_neg (by omega)]
    show onK G γ' (ccK (D 38 x) (κ x) c) ↔ _
    rw [cc, onK_s cko (by omega) (by omega), slC_cc ixa.2.1.1 c0, iand_one (by omega) (by omega), onv _ vv.1 vv.2, show (1 + 2 * D 38 x + c - 1) % 2 = c % 2 by omega]
end LK
