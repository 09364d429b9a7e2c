/-! ===== sets of objects as bits ===== -/
theorem eh_lt {S : Int32} {i : Nat} (h : bt S i = true) : i < 32 := by
  rcases Nat.lt_or_ge i 32 with h1 | h1
  · exact h1
  · rw [b_big h1] at h; exact absurd h (by decide)
theorem eh_one : ∀ j, j < 32 → bt 1 j = decide (j = 0) := by decide +kernel
theorem eh_val (S : Int32) {i : Nat} (hi : i < 32) : (S >>> (nI i &&& 31)) &&& 1 = if bt S i = true then 1 else 0 := by
  apply b_ext
  intro j hj
  rw [b_and, b_sshr i hi S hj, eh_one j hj]
  by_cases h0 : j = 0
  · subst h0
    rw [if_pos (by omega), Nat.add_zero]
    cases hb : bt S i
    · rw [if_neg (by decide), b_0]; rfl
    · rw [if_pos rfl, eh_one 0 (by omega)]; rfl
  · rw [decide_eq_false h0, Bool.and_false]
    cases hb : bt S i
    · rw [if_neg (by decide), b_0]
    · rw [if_pos rfl, eh_one j hj, decide_eq_false h0]
theorem eh_t1 (S : Int32) {i : Nat} (hi : i < 32) : (S >>> (nI i &&& 31)) &&& 1 = 1 ↔ bt S i = true := by
  rw [eh_val S hi]
  cases hb : bt S i
  · rw [if_neg (by decide)]; decide
  · rw [if_pos rfl]; decide
theorem eh_t0 (S : Int32) {i : Nat} (hi : i < 32) : (S >>> (nI i &&& 31)) &&& 1 = 0 ↔ bt S i = false := by
  rw [eh_val S hi]
  cases hb : bt S i
  · rw [if_neg (by decide)]; decide
  · rw [if_pos rfl]; decide
theorem eh_bit {i j : Nat} (hi : i < 32) (hj : j < 32) : bt ((1 : Int32) <<< (nI i &&& 31)) j = decide (j = i) := by
  rw [b_shl i hi 1 hj, eh_one (j - i) (by omega), Bool.eq_iff_iff]
  simp only [Bool.and_eq_true, decide_eq_true_eq]
  omega
theorem eh_m1 : ∀ i, i < 32 → ¬ (-1 : Int32) = nI i := by decide +kernel
theorem eh_inj {i j : Nat} (hi : i < 32) (hj : j < 32) (h : nI i = nI j) : i = j := (nI_eq (by omega) (by omega)).mp h
theorem eh_not (S : Int32) {i : Nat} (hi : i < 32) : bt (S ^^^ (-1)) i = !bt S i := by
  rw [b_xor, b_m1 i hi, Bool.xor_true]
/-- a pointer: nothing, or an object of V -/
def eh_P (V x : Int32) : Prop := x = -1 ∨ ∃ j, j < 20 ∧ bt V j = true ∧ x = nI j
/-- the bit of a pointer -/
def eh_bo (x : Int32) : Int32 := if x = -1 then 0 else (1 : Int32) <<< (x &&& 31)
theorem eh_bo_m : eh_bo (-1) = 0 := if_pos rfl
theorem eh_bo_n {j : Nat} (h : j < 32) : eh_bo (nI j) = (1 : Int32) <<< (nI j &&& 31) := if_neg (fun e => eh_m1 j h e.symm)
theorem eh_bob {V x : Int32} (h : eh_P V x) {i : Nat} (hi : i < 32) : bt (eh_bo x) i = true ↔ x = nI i := by
  rcases h with h | ⟨j, hj, _, h⟩
  · subst h
    rw [eh_bo_m, b_0]
    exact ⟨fun e => absurd e (by decide), fun e => absurd e (eh_m1 i hi)⟩
  · subst h
    rw [eh_bo_n (by omega), eh_bit (by omega) hi, decide_eq_true_eq]
    exact ⟨fun e => by rw [e], fun e => (eh_inj (by omega) hi e).symm⟩
def eh_sub (S T : Int32) : Prop := ∀ i, bt S i = true → bt T i = true
theorem eh_sub_r (S : Int32) : eh_sub S S := fun _ h => h
theorem eh_anti {S T : Int32} (h : eh_sub S T) (g : eh_sub T S) : S = T :=
  b_ext (fun i _ => Bool.eq_iff_iff.mpr ⟨h i, g i⟩)
/-- how many of the first n are in p -/
def eh_cn (p : Nat → Bool) : Nat → Nat
  | 0 => 0
  | n + 1 => eh_cn p n + (if p n = true then 1 else 0)
theorem eh_cn_le (p : Nat → Bool) : ∀ n, eh_cn p n ≤ n := by
  intro n
  induction n with
  | zero => exact Nat.le_refl _
  | succ n ih => show eh_cn p n + _ ≤ n + 1; split <;> omega
theorem eh_cn_mono {p q : Nat → Bool} (h : ∀ i, p i = true → q i = true) : ∀ n, eh_cn p n ≤ eh_cn q n := by
  intro n
  induction n with
  | zero => exact Nat.le_refl _
  | succ n ih =>
    show eh_cn p n + (if p n = true then 1 else 0) ≤ eh_cn q n + (if q n = true then 1 else 0)
    by_cases hp : p n = true
    · rw [if_pos hp, if_pos (h n hp)]; omega
    · rw [if_neg hp]; omega
theorem eh_cn_lt {p q : Nat → Bool} (h : ∀ i, p i = true → q i = true) {i : Nat} (hq : q i = true) (hp : ¬ p i = true) : ∀ n, i < n → eh_cn p n < eh_cn q n := by
  intro n
  induction n with
  | zero => intro hi; omega
  | succ n ih =>
    intro hi
    show eh_cn p n + (if p n = true then 1 else 0) < eh_cn q n + (if q n = true then 1 else 0)
    rcases Nat.lt_or_ge i n with h1 | h1
    · have := ih h1
      by_cases hp2 : p n = true
      · rw [if_pos hp2, if_pos (h n hp2)]; omega
      · rw [if_neg hp2]; omega
    · have e : i = n := by omega
      subst e
      have := eh_cn_mono h i
      rw [if_neg hp, if_pos hq]; omega
theorem eh_cn_all {p : Nat → Bool} : ∀ n, n ≤ eh_cn p n → ∀ i, i < n → p i = true := by
  intro n
  induction n with
  | zero => intro _ i hi; omega
  | succ n ih =>
    intro h i hi
    have h2 : n + 1 ≤ eh_cn p n + (if p n = true then 1 else 0) := h
    have h3 := eh_cn_le p n
    by_cases hp : p n = true
    · rw [if_pos hp] at h2
      rcases Nat.lt_or_ge i n with h1 | h1
      · exact ih (by omega) i h1
      · have e : i = n := by omega
        rw [e]; exact hp
    · rw [if_neg hp] at h2; omega
theorem eh_cn_eq {p q : Nat → Bool} : ∀ n, (∀ i, i < n → p i = q i) → eh_cn p n = eh_cn q n := by
  intro n
  induction n with
  | zero => intro _; rfl
  | succ n ih =>
    intro h
    show eh_cn p n + (if p n = true then 1 else 0) = eh_cn q n + (if q n = true then 1 else 0)
    rw [ih (fun i hi => h i (by omega)), h n (by omega)]
/-! ===== what an object keeps; closed sets; the least one ===== -/
/-- the pointer x points into S -/
def eh_hb (S x : Int32) : Bool := !decide (x = -1) && bt S x.toNatClampNeg
theorem eh_hb_m (S : Int32) : eh_hb S (-1) = false := by
  unfold eh_hb; rw [decide_eq_true rfl]; rfl
theorem eh_hb_n (S : Int32) {j : Nat} (h : j < 32) : eh_hb S (nI j) = bt S j := by
  unfold eh_hb; rw [decide_eq_false (fun e => eh_m1 j h e.symm), nI_clamp (by omega)]; rfl
theorem eh_hb_mono {S T x : Int32} (h : eh_sub S T) (g : eh_hb S x = true) : eh_hb T x = true := by
  unfold eh_hb at g ⊢
  rw [Bool.and_eq_true] at g ⊢
  exact ⟨g.1, h _ g.2⟩
theorem eh_az {V S x : Int32} (hx : eh_P V x) : (eh_bo x &&& S) = 0 ↔ eh_hb S x = false := by
  rcases hx with hx | ⟨j, hj, _, hx⟩
  · subst hx
    rw [eh_bo_m, eh_hb_m]
    refine ⟨fun _ => rfl, fun _ => b_ext (fun i _ => by rw [b_and, b_0]; rfl)⟩
  · subst hx
    rw [eh_hb_n S (by omega)]
    constructor
    · intro e
      have h1 : bt (eh_bo (nI j) &&& S) j = bt 0 j := by rw [e]
      rw [b_and, b_0, eh_bo_n (by omega), eh_bit (by omega) (by omega), decide_eq_true rfl, Bool.true_and] at h1
      exact h1
    · intro e
      refine b_ext (fun i hi => ?_)
      rw [b_and, b_0, eh_bo_n (by omega), eh_bit (by omega) hi]
      by_cases h : i = j
      · rw [h, e, Bool.and_false]
      · rw [decide_eq_false h, Bool.false_and]
theorem eh_an {V S x : Int32} (hx : eh_P V x) : (eh_bo x &&& (S ^^^ (-1))) = 0 ↔ (x = -1 ∨ eh_hb S x = true) := by
  rw [eh_az hx]
  rcases hx with hx | ⟨j, hj, _, hx⟩
  · subst hx
    rw [eh_hb_m]
    exact ⟨fun _ => Or.inl rfl, fun _ => rfl⟩
  · subst hx
    rw [eh_hb_n _ (by omega), eh_hb_n _ (by omega), eh_not S (by omega)]
    constructor
    · intro e
      refine Or.inr ?_
      cases hb : bt S j
      · rw [hb] at e; exact absurd e (by decide)
      · rfl
    · rintro (e | e)
      · exact absurd e.symm (eh_m1 j (by omega))
      · rw [e]; rfl
def eh_k (K A B : Nat → Int32) (o : Nat) (S : Int32) (p : Nat) : Prop :=
  (B o = nI p ∧ (K o = 2 → eh_hb S (A o) = true)) ∨ (K o = 0 ∧ A o = nI p)
theorem eh_k_mono {K A B : Nat → Int32} {o : Nat} {S T : Int32} {p : Nat} (h : eh_sub S T) (g : eh_k K A B o S p) : eh_k K A B o T p := by
  rcases g with ⟨g1, g2⟩ | g
  · exact Or.inl ⟨g1, fun e => eh_hb_mono h (g2 e)⟩
  · exact Or.inr g
def eh_Cn (K A B : Nat → Int32) (em : Int32) (n : Nat) (S : Int32) : Prop :=
  ∀ o, o < n → nI o ≠ em → bt S o = true → ∀ p, p < 20 → eh_k K A B o S p → bt S p = true
def eh_C (K A B : Nat → Int32) (em S : Int32) : Prop := eh_Cn K A B em 20 S
/-- a round, done for the objects below n: from S to L -/
def eh_G (K A B : Nat → Int32) (em S : Int32) (n : Nat) (L : Int32) : Prop :=
  eh_sub S L ∧ (∀ T, eh_C K A B em T → eh_sub S T → eh_sub L T) ∧ (L = S → eh_Cn K A B em n S)
theorem eh_G0 (K A B : Nat → Int32) (em S : Int32) : eh_G K A B em S 0 S :=
  ⟨eh_sub_r S, fun _ _ h => h, fun _ o ho => absurd ho (by omega)⟩
theorem eh_Gskip {K A B : Nat → Int32} {em S L : Int32} {o : Nat} (h : eh_G K A B em S o L) (hs : nI o = em ∨ ¬ bt S o = true) : eh_G K A B em S (o + 1) L := by
  obtain ⟨h1, h2, h3⟩ := h
  refine ⟨h1, h2, fun e o' ho' he hb => ?_⟩
  rcases Nat.lt_or_ge o' o with h4 | h4
  · exact h3 e o' h4 he hb
  · have e2 : o' = o := by omega
    subst e2
    rcases hs with hs | hs
    · exact absurd hs he
    · exact absurd hb hs
theorem eh_Gadd {K A B : Nat → Int32} {em S M L r : Int32} {o : Nat} (ho : o < 20) (h : eh_G K A B em S o L) (hSM : eh_sub S M) (hML : eh_sub M L) (hb : bt M o = true) (he : nI o ≠ em)
    (hr : ∀ p, p < 32 → (bt r p = true ↔ eh_k K A B o M p)) (h20 : ∀ p, bt r p = true → p < 20) : eh_G K A B em S (o + 1) (L ||| r) := by
  obtain ⟨h1, h2, h3⟩ := h
  refine ⟨fun i hi => by rw [b_or, h1 i hi]; rfl, fun T hT hST i hi => ?_, fun e o' ho' he' hb' => ?_⟩
  · rw [b_or, Bool.or_eq_true] at hi
    have hLT := h2 T hT hST
    rcases hi with hi | hi
    · exact hLT i hi
    · have hMT : eh_sub M T := fun j hj => hLT j (hML j hj)
      exact hT o ho he (hMT o hb) i (h20 i hi) (eh_k_mono hMT ((hr i (eh_lt hi)).mp hi))
  · have hL : L = S := by
      refine eh_anti (fun i hi => ?_) h1
      have : bt (L ||| r) i = true := by rw [b_or, hi]; rfl
      rw [e] at this; exact this
    rcases Nat.lt_or_ge o' o with h4 | h4
    · exact h3 hL o' h4 he' hb'
    · have e2 : o' = o := by omega
      subst e2
      intro p hp hk
      have hrp : bt r p = true := (hr p (by omega)).mpr (eh_k_mono hSM hk)
      have : bt (L ||| r) p = true := by rw [b_or, hrp, Bool.or_true]
      rw [e] at this; exact this
/-- after k rounds from S0 -/
def eh_I (K A B : Nat → Int32) (em S0 : Int32) (k : Nat) (S : Int32) : Prop :=
  eh_sub S0 S ∧ (∀ T, eh_C K A B em T → eh_sub S0 T → eh_sub S T) ∧ (eh_C K A B em S ∨ k ≤ eh_cn (bt S) 20)
theorem eh_I0 (K A B : Nat → Int32) (em S : Int32) : eh_I K A B em S 0 S := ⟨eh_sub_r S, fun _ _ h => h, Or.inr (Nat.zero_le _)⟩
theorem eh_I1 {K A B : Nat → Int32} {em S0 S S' V : Int32} {k : Nat} (hV : ∀ i, bt V i = true → i < 20) (hVC : eh_C K A B em V) (h0 : eh_sub S0 V)
    (h : eh_I K A B em S0 k S) (g : eh_G K A B em S 20 S') : eh_I K A B em S0 (k + 1) S' := by
  obtain ⟨h1, h2, h3⟩ := h
  obtain ⟨g1, g2, g3⟩ := g
  refine ⟨fun i hi => g1 i (h1 i hi), fun T hT hS => g2 T hT (h2 T hT hS), ?_⟩
  by_cases e : S' = S
  · rw [e]; exact Or.inl (g3 e)
  · have hn : ¬ eh_C K A B em S := fun hc => e (eh_anti (g2 S hc (eh_sub_r S)) g1)
    have hk : k ≤ eh_cn (bt S) 20 := h3.resolve_left hn
    refine Or.inr ?_
    have hSV : eh_sub S' V := g2 V hVC (h2 V hVC h0)
    have hex : ∃ i, bt S' i = true ∧ ¬ bt S i = true := by
      apply Classical.byContradiction
      intro hne
      refine e (eh_anti (fun i hi => ?_) g1)
      apply Classical.byContradiction
      intro hni
      exact hne ⟨i, hi, hni⟩
    obtain ⟨i, hi, hni⟩ := hex
    have := eh_cn_lt (p := bt S) (q := bt S') g1 hi hni 20 (hV i (hSV i hi))
    omega
theorem eh_I20 {K A B : Nat → Int32} {em S0 S : Int32} (h : eh_I K A B em S0 20 S) : eh_C K A B em S := by
  rcases h.2.2 with h1 | h1
  · exact h1
  · intro o _ _ _ p hp _
    exact eh_cn_all 20 h1 p hp
/-- S has what roots and queue point to -/
def eh_0 (R Q : Nat → Int32) (n : Nat) (S : Int32) : Prop :=
  ∀ p, p < 32 → (bt S p = true ↔ (∃ r, r < 4 ∧ R r = nI p) ∨ (∃ i, i < n ∧ Q i = nI p))
theorem eh_0u {R Q : Nat → Int32} {n : Nat} {S T : Int32} (h : eh_0 R Q n S) (g : eh_0 R Q n T) : S = T :=
  b_ext (fun p hp => Bool.eq_iff_iff.mpr ((h p hp).trans (g p hp).symm))
/-- S is what is alive -/
def eh_A (K A B R Q : Nat → Int32) (n : Nat) (em S : Int32) : Prop :=
  ∃ S0, eh_0 R Q n S0 ∧ eh_sub S0 S ∧ eh_C K A B em S ∧ ∀ T, eh_C K A B em T → eh_sub S0 T → eh_sub S T
theorem eh_Au {K A B R Q : Nat → Int32} {n : Nat} {em S T : Int32} (h : eh_A K A B R Q n em S) (g : eh_A K A B R Q n em T) : S = T := by
  obtain ⟨S0, a0, a1, a2, a3⟩ := h
  obtain ⟨T0, b0, b1, b2, b3⟩ := g
  have e := eh_0u a0 b0
  subst e
  exact eh_anti (a3 T b2 b1) (b3 S a2 a1)
theorem eh_AI {K A B R Q : Nat → Int32} {n : Nat} {em S0 S : Int32} (h0 : eh_0 R Q n S0) (h : eh_I K A B em S0 20 S) : eh_A K A B R Q n em S :=
  ⟨S0, h0, h.1, eh_I20 h, h.2.1⟩
