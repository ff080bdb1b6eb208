/-! the reference's lexer: take, keywords, names -/
theorem wp_bndT {o : Option Res} {k : Int → St → Option Res} {P Q : Res → Prop} (h : wp o P) (kt : ∀ e γ', P (.inl e, γ') → Q (.inl e, γ')) (kk : ∀ r γ', P (.inr r, γ') → wp (k r γ') Q) : wp (bndT o k) Q := by
  match o, h with
  | some (.inl e, γ'), h => exact kt e γ' h
  | some (.inr r, γ'), h => exact kk r γ' h
/-- the next token: what it is, where it ends -/
def tK (γ : St) : Int := tkK (γ 1) (γ 0 1) (sk γ)
def tE (γ : St) : Int := tkE (γ 1) (γ 0 1) (sk γ)
theorem pkM_eq {γ : St} (h : LX γ) : f_M_peek γ = some (tK γ, pkS γ) := peek_eq h
theorem pk_7 (γ : St) : pkS γ 0 7 = sk γ := pkS_7 γ
theorem pk_8 (γ : St) : pkS γ 0 8 = tE γ := pkS_8 γ
theorem pk_tK {γ : St} (h : LX γ) : tK (pkS γ) = tK γ := by
  show tkK (pkS γ 1) (pkS γ 0 1) (sk (pkS γ)) = _
  rw [pkS_1, pkS_o γ 0 1 (by omega), pkS_sk h]; rfl
theorem pk_tE {γ : St} (h : LX γ) : tE (pkS γ) = tE γ := by
  show tkE (pkS γ 1) (pkS γ 0 1) (sk (pkS γ)) = _
  rw [pkS_1, pkS_o γ 0 1 (by omega), pkS_sk h]; rfl
/-- what take leaves -/
def tkS (γ : St) : St := setA (setA (pkS γ) 0 5 (tE γ)) 0 9 0
theorem tkM_eq {γ : St} (h : LX γ) : f_M_take γ = some (0, tkS γ) := by
  unfold f_M_take
  rw [bndN_eq (pkM_eq h)]
  show some (0, setA (setA (pkS γ) 0 5 (pkS γ 0 8)) 0 9 0) = _
  rw [pk_8]; rfl
theorem tkS_5 (γ : St) : tkS γ 0 5 = tE γ := by unfold tkS; rw [stA, if_neg (by omega), stA, if_pos ⟨rfl, rfl⟩]
theorem tkS_9 (γ : St) : tkS γ 0 9 = 0 := by unfold tkS; rw [stA, if_pos ⟨rfl, rfl⟩]
theorem tkS_o (γ : St) (j : Nat) (k : Int) (h : j ≠ 0 ∨ k < 5 ∨ 9 < k) : tkS γ j k = γ j k := by unfold tkS; rw [stA, if_neg (by omega), stA, if_neg (by omega), pkS_o γ j k h]
theorem tkS_1 (γ : St) : tkS γ 1 = γ 1 := funext fun k => tkS_o γ 1 k (by omega)
theorem tkS_7 (γ : St) : tkS γ 0 7 = sk γ := by unfold tkS; rw [stA, if_neg (by omega), stA, if_neg (by omega), pkS_7]
theorem tkS_8 (γ : St) : tkS γ 0 8 = tE γ := by unfold tkS; rw [stA, if_neg (by omega), stA, if_neg (by omega), pk_8]
theorem tkS_pk {γ : St} (h : LX γ) : tkS (pkS γ) = tkS γ := by unfold tkS; rw [pkS_pk h, pk_tE h]
theorem LX.te2 {γ : St} (h : LX γ) : γ 0 5 ≤ sk γ ∧ sk γ ≤ tE γ ∧ tE γ ≤ γ 0 1 ∧ (tK γ ≠ 0 → sk γ < tE γ) := by
  have s := h.skb
  have t := h.te
  exact ⟨s.1, t.1, t.2, fun q => tkE_lt (tkK_0 q)⟩
theorem LX.tk {γ : St} (h : LX γ) : LX (tkS γ) := by
  have ⟨a1, a2, a3, a4⟩ := h
  have t := h.te2
  refine ⟨by rw [tkS_o γ 0 1 (by omega)]; exact a1, by rw [tkS_5, tkS_o γ 0 1 (by omega)]; omega, fun k => by rw [tkS_1]; exact a3 k, Or.inl (tkS_9 γ)⟩
/-- yes or no -/
def Yn (γ' : St) (Q : Prop) (z : Int × St) : Prop := z = (1, γ') ∧ Q ∨ z = (0, γ') ∧ ¬ Q
theorem wp_yn {ζ : Type} {o : Option (Int × St)} {k : Int → St → Option ζ} {γ' : St} {Q : Prop} {R : ζ → Prop} (h : wp o (Yn γ' Q)) (h1 : Q → wp (k 1 γ') R) (h0 : ¬ Q → wp (k 0 γ') R) : wp (bndN o k) R := by
  match o, h with
  | some z, h =>
    rcases h with ⟨e, q⟩ | ⟨e, q⟩
    · rw [e]; exact h1 q
    · rw [e]; exact h0 q
theorem Yn.im {γ' : St} {Q R : Prop} {z : Int × St} (h : Yn γ' Q z) (e : Q ↔ R) : Yn γ' R z := by
  rcases h with ⟨a, q⟩ | ⟨a, q⟩
  · exact Or.inl ⟨a, e.1 q⟩
  · exact Or.inr ⟨a, fun r => q (e.2 r)⟩
/-- the word w stands at p -/
def wdQ (b : Int → Int) (p : Int) (w : Nat) : Prop := ∀ i : Int, 0 ≤ i → i < kwL w → b (p + i) = kwC w i
def kwQ (γ : St) (w : Nat) : Prop := tK γ = 1 ∧ tE γ - sk γ = kwL w ∧ wdQ (γ 1) (sk γ) w
theorem pk_kw {γ : St} (h : LX γ) (w : Nat) : kwQ (pkS γ) w ↔ kwQ γ w := by
  unfold kwQ
  rw [pk_tK h, pk_tE h, pkS_sk h, pkS_1]
theorem w_is_L28 {w : Nat} : ∀ (n : Nat) (γ : St) (x : Int), 0 ≤ γ 0 7 → γ 0 7 + kwL w ≤ 10240 → 0 ≤ x → x ≤ kwL w → kwL w - x < n → (∀ i : Int, 0 ≤ i → i < x → γ 1 (γ 0 7 + i) = kwC w i) → wp (f_M_is_L28 w n γ x) (Yn γ (wdQ (γ 1) (γ 0 7) w)) := by
  intro n
  induction n with
  | zero => intro γ x h1 h2 h3 h4 h5; exfalso; omega
  | succ n ih =>
    intro γ x h1 h2 h3 h4 h5 h6
    unfold f_M_is_L28
    refine wp_ite (fun q => wp_some (Or.inl ⟨rfl, fun i a1 a2 => h6 i a1 (by omega)⟩)) (fun q => ?_)
    refine wp_chk (by omega) (wp_chk (by omega) (wp_chk (by omega) (wp_ite (fun q2 => ?_) (fun q2 => wp_some (Or.inr ⟨rfl, fun r => q2 (r x h3 (by omega))⟩)))))
    refine wp_chk (by omega) (ih γ (x + 1) h1 h2 (by omega) (by omega) (by omega) (fun i a1 a2 => ?_))
    by_cases q3 : i = x
    · rw [q3]; exact q2
    · exact h6 i a1 (by omega)
theorem w_is {γ : St} (h : LX γ) (w : Nat) : wp (f_M_is γ w) (Yn (pkS γ) (kwQ γ w)) := by
  have := FU_v
  have ⟨a1, a2, a3, a4⟩ := h
  have t := h.te2
  unfold f_M_is
  refine wp_bs (pkM_eq h) ?_
  refine wp_ite (fun q => wp_some (Or.inr ⟨rfl, fun r => q r.1⟩)) (fun q => ?_)
  rw [pk_7, pk_8]
  refine wp_chk (by omega) (wp_ite (fun q2 => ?_) (fun q2 => wp_some (Or.inr ⟨rfl, fun r => q2 r.2.1⟩)))
  have k0 : 0 ≤ kwL w := by unfold kwL; omega
  refine wp_mono (w_is_L28 FU (pkS γ) 0 (by rw [pk_7]; omega) (by rw [pk_7]; omega) (by omega) (by omega) (by omega) (fun i b1 b2 => by omega)) (fun z hz => hz.im ?_)
  rw [pkS_1, pk_7]
  exact ⟨fun r => ⟨by omega, q2, r⟩, fun r => r.2.2⟩
/-- a reserved word -/
def rsQ (γ : St) : Prop := ∃ w : Nat, w < 22 ∧ kwQ γ w
theorem rs_st {γ : St} (h : LX γ) (e : pkS γ = γ) {w : Nat} (lt : w < 22) (a : ∀ v, v < w → ¬ kwQ γ v) {k : St → Option (Int × St)} (n : (∀ v, v < w + 1 → ¬ kwQ γ v) → wp (k γ) (Yn γ (rsQ γ))) : wp (bndN (f_M_is γ w) fun r γ2 => if r ≠ 0 then some (1, γ2) else k γ2) (Yn γ (rsQ γ)) := by
  have i := w_is h w
  rw [e] at i
  refine wp_yn i (fun q => ?_) (fun q => ?_)
  · exact Or.inl ⟨rfl, w, lt, q⟩
  · refine n (fun v hv => ?_)
    by_cases r : v = w
    · rw [r]; exact q
    · exact a v (by omega)
set_option maxHeartbeats 1000000 in
theorem w_reserved {γ : St} (h : LX γ) (e : pkS γ = γ) : wp (f_M_reserved γ) (Yn γ (rsQ γ)) := by
  unfold f_M_reserved
  refine rs_st h e (by omega) (fun v hv => by omega) (fun a => ?_)
  refine rs_st h e (by omega) a (fun a => ?_)
  refine rs_st h e (by omega) a (fun a => ?_)
  refine rs_st h e (by omega) a (fun a => ?_)
  refine rs_st h e (by omega) a (fun a => ?_)
  refine rs_st h e (by omega) a (fun a => ?_)
  refine rs_st h e (by omega) a (fun a => ?_)
  refine rs_st h e (by omega) a (fun a => ?_)
  refine rs_st h e (by omega) a (fun a => ?_)
  refine rs_st h e (by omega) a (fun a => ?_)
  refine rs_st h e (by omega) a (fun a => ?_)
  refine rs_st h e (by omega) a (fun a => ?_)
  refine rs_st h e (by omega) a (fun a => ?_)
  refine rs_st h e (by omega) a (fun a => ?_)
  refine rs_st h e (by omega) a (fun a => ?_)
  refine rs_st h e (by omega) a (fun a => ?_)
  refine rs_st h e (by omega) a (fun a => ?_)
  refine rs_st h e (by omega) a (fun a => ?_)
  refine rs_st h e (by omega) a (fun a => ?_)
  refine rs_st h e (by omega) a (fun a => ?_)
  refine rs_st h e (by omega) a (fun a => ?_)
  have i := w_is h 21
  rw [e] at i
  refine wp_yn i (fun q => ?_) (fun q => ?_)
  · exact Or.inl ⟨rfl, 21, by omega, q⟩
  · refine Or.inr ⟨rfl, fun ⟨w, lt, r⟩ => ?_⟩
    by_cases q3 : w = 21
    · rw [q3] at r; exact q r
    · exact a w (by omega) r
/-- a name that is no reserved word -/
def nmQ (γ : St) : Prop := tK γ = 1 ∧ ¬ rsQ γ
theorem pk_rs {γ : St} (h : LX γ) : rsQ (pkS γ) ↔ rsQ γ := ⟨fun ⟨w, a, b⟩ => ⟨w, a, (pk_kw h w).1 b⟩, fun ⟨w, a, b⟩ => ⟨w, a, (pk_kw h w).2 b⟩⟩
theorem w_nameHere {γ : St} (h : LX γ) : wp (f_M_nameHere γ) (Yn (pkS γ) (nmQ γ)) := by
  unfold f_M_nameHere
  refine wp_bs (pkM_eq h) (wp_ite (fun q => wp_some (Or.inr ⟨rfl, fun r => q r.1⟩)) (fun q => ?_))
  refine wp_yn (w_reserved h.pk (pkS_pk h)) (fun r => ?_) (fun r => ?_)
  · exact Or.inr ⟨rfl, fun s => s.2 ((pk_rs h).1 r)⟩
  · exact Or.inl ⟨rfl, by omega, fun s => r ((pk_rs h).2 s)⟩
theorem cant_eq {γ : St} (h : LX γ) : f_M_cant γ = some (sk γ, pkS γ) := by
  unfold f_M_cant
  rw [bndN_eq (pkM_eq h), pk_7]
/-- cannot be read here -/
theorem wp_cant {γ : St} {Q : Res → Prop} (h : LX γ) (k : Q (.inl (1, sk γ), pkS γ)) : wp (bndN (f_M_cant γ) fun p γ' => some (Sum.inl (1, p), γ')) Q := by
  rw [bndN_eq (cant_eq h)]; exact k
theorem must_y {γ : St} {a : Int} (h : LX γ) (q : tK γ = a) : f_M_must γ a = some (.inr 0, tkS γ) := by
  unfold f_M_must
  rw [bndN_eq (pkM_eq h), if_pos q, bndN_eq (tkM_eq h.pk), tkS_pk h]
theorem must_n {γ : St} {a : Int} (h : LX γ) (q : tK γ ≠ a) : f_M_must γ a = some (.inl (1, sk γ), pkS γ) := by
  unfold f_M_must
  rw [bndN_eq (pkM_eq h), if_neg q, bndN_eq (cant_eq h.pk), pkS_sk h, pkS_pk h]
theorem w_mustBe {γ : St} (h : LX γ) (w : Nat) : wp (f_M_mustBe γ w) (fun z => z = (.inr 0, tkS γ) ∧ kwQ γ w ∨ z = (.inl (1, sk γ), pkS γ) ∧ ¬ kwQ γ w) := by
  unfold f_M_mustBe
  refine wp_yn (w_is h w) (fun q => ?_) (fun q => ?_)
  · rw [if_pos (by decide), bndN_eq (tkM_eq h.pk), tkS_pk h]; exact Or.inl ⟨rfl, q⟩
  · rw [if_neg (by decide), bndN_eq (cant_eq h.pk), pkS_sk h, pkS_pk h]; exact Or.inr ⟨rfl, q⟩
/-- the word of n bytes at p is the one at q -/
def spQ (b : Int → Int) (p q n : Int) : Prop := ∀ i : Int, 0 ≤ i → i < n → b (p + i) = b (q + i)
theorem w_spelled_L17 : ∀ (n : Nat) (γ : St) (p m x : Int), 0 ≤ γ 0 7 → γ 0 7 + m ≤ 10240 → 0 ≤ p → p + m ≤ 10240 → 0 ≤ x → x ≤ m → m - x < n → (∀ i : Int, 0 ≤ i → i < x → γ 1 (p + i) = γ 1 (γ 0 7 + i)) → wp (f_M_spelled_L17 n γ p m x) (Yn γ (spQ (γ 1) p (γ 0 7) m)) := by
  intro n
  induction n with
  | zero => intro γ p m x h1 h2 h3 h4 h5 h6 h7; exfalso; omega
  | succ n ih =>
    intro γ p m x h1 h2 h3 h4 h5 h6 h7 h8
    unfold f_M_spelled_L17
    refine wp_ite (fun q => wp_some (Or.inl ⟨rfl, fun i a1 a2 => h8 i a1 (by omega)⟩)) (fun q => ?_)
    refine wp_chk (by omega) (wp_chk (by omega) (wp_chk (by omega) (wp_chk (by omega) (wp_ite (fun q2 => ?_) (fun q2 => wp_some (Or.inr ⟨rfl, fun r => q2 (r x h5 (by omega))⟩))))))
    refine wp_chk (by omega) (ih γ p m (x + 1) h1 h2 h3 h4 (by omega) (by omega) (by omega) (fun i a1 a2 => ?_))
    by_cases q3 : i = x
    · rw [q3]; exact q2
    · exact h8 i a1 (by omega)
/-- the token is the word of m bytes at p -/
def sameQ (γ : St) (p m : Int) : Prop := m = γ 0 8 - γ 0 7 ∧ spQ (γ 1) p (γ 0 7) m
theorem w_spelled {γ : St} {p m : Int} (h1 : 0 ≤ γ 0 7) (h2 : γ 0 7 ≤ γ 0 8) (h3 : γ 0 8 ≤ 10240) (h4 : 0 ≤ p) (h5 : p + m ≤ 10240) : wp (f_M_spelled γ p m) (Yn γ (sameQ γ p m)) := by
  have := FU_v
  unfold f_M_spelled
  refine wp_chk (by omega) (wp_ite (fun q => ?_) (fun q => wp_some (Or.inr ⟨rfl, fun r => q r.1⟩)))
  exact wp_mono (w_spelled_L17 FU γ p m 0 h1 (by omega) h4 h5 (by omega) (by omega) (by omega) (fun i a1 a2 => by omega)) (fun z hz => hz.im ⟨fun r => ⟨q, r⟩, fun r => r.2⟩)
